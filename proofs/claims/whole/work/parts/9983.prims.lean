/-! reading a law: numbers, letters, what closes -/
section
variable {ν μ : Mm} {N : Nat} {sg : Nat → Int32}
theorem m_isDigit (hM : txM ν N sg) {p : Nat} (hp : p ≤ N) {f o k w nb : Int32} {cd wa : Nat → Int32} : md_isDigit (rM ν (nI p) f o k w nb cd wa) = some (wi (sg p) 48 57) := by
  unfold md_isDigit wi
  rw [m_here hM hp, mbv_s]
  by_cases c : sg p < 48
  · rw [if_pos c]
    have : ¬ ((48 : Int32) ≤ sg p) := i32_nle.mpr c
    simp [this]
  · rw [if_neg c, mbv_s]
    have c' : (48 : Int32) ≤ sg p := i32_nlt.mp c
    by_cases d : (57 : Int32) < sg p
    · rw [if_pos d]
      have : ¬ (sg p ≤ (57 : Int32)) := i32_nle.mpr d
      simp [this]
    · rw [if_neg d]
      have d' : sg p ≤ (57 : Int32) := i32_nlt.mp d
      simp [c', d']
theorem x_isDigit (x : Int32) : vs_LawReading_isDigit x = some (wi x 48 57) := by
  unfold vs_LawReading_isDigit
  rw [within_eq, mbv_s]
theorem num_loop (hX : txX μ N sg) (hM : txM ν N sg) {p : Nat} : ∀ (m i v : Nat), i + m = 5 → v < 10 ^ i → p + i ≤ N → (p + 5 < N ∧ ∀ (f k f' o k' w : Int32) (st va cd wa : Nat → Int32) (F : Nat), m < F → ∃ nb', miter (fun q : Int32 × Int32 × Mm => vs_LawReading_readNumber_b4 q.2.2 q.1 q.2.1) F (nI v, nI i, xM μ (nI (p + i)) f k st va) = some (.inl (xM μ (nI (p + 5)) f k st va)) ∧ miter (fun q => md_readsNumber_b10 q (nI p)) F (rM ν (nI (p + i)) f' o k' w (nI v) cd wa) = some (.inl (rM ν (nI (p + 5)) f' o k' w nb' cd wa))) ∨ ∃ q v', p + i ≤ q ∧ q ≤ N ∧ v' < 100000 ∧ (wi (sg (p + i)) 48 57 = true → p + i < q) ∧ ∀ (f k f' o k' w : Int32) (st va cd wa : Nat → Int32) (F : Nat), m < F → miter (fun q : Int32 × Int32 × Mm => vs_LawReading_readNumber_b4 q.2.2 q.1 q.2.1) F (nI v, nI i, xM μ (nI (p + i)) f k st va) = some (.inr (nI v', xM μ (nI q) f k st va)) ∧ miter (fun q => md_readsNumber_b10 q (nI p)) F (rM ν (nI (p + i)) f' o k' w (nI v) cd wa) = some (.inr (rM ν (nI q) f' o k' w (nI v') cd wa)) := by
  intro m
  induction m with
  | zero =>
    intro i v hi hv hp
    have hi5 : i = 5 := by omega
    subst hi5
    have hN := hX.2.1
    by_cases c : wi (sg (p + 5)) 48 57 = true
    · left
      have hlt : p + 5 < N := sg_lt hX (fun z => by rw [z] at c; revert c; decide)
      refine ⟨hlt, fun f k f' o k' w st va cd wa F hF => ⟨nI v, ?_, ?_⟩⟩
      · obtain ⟨F', rfl⟩ : ∃ F', F = F' + 1 := ⟨F - 1, by omega⟩
        refine miter_r ?_
        show vs_LawReading_readNumber_b4 (xM μ (nI (p + 5)) f k st va) (nI v) (nI 5) = _
        unfold vs_LawReading_readNumber_b4
        rw [if_neg (by decide), x_sign hX hp, mbv_s, x_isDigit, mbv_s, ifb_t c, if_pos (show nI 5 = (5 : Int32) from rfl)]
      · obtain ⟨F', rfl⟩ : ∃ F', F = F' + 1 := ⟨F - 1, by omega⟩
        refine miter_r ?_
        show md_readsNumber_b10 (rM ν (nI (p + 5)) f' o k' w (nI v) cd wa) (nI p) = _
        unfold md_readsNumber_b10
        rw [m_isDigit hM hp, mbv_s, ifb_t c, rM_39, if_pos (show nI (p + 5) = nI p + 5 from (nI_add p 5).symm)]
    · right
      refine ⟨p + 5, v, Nat.le_refl _, hp, by omega, fun z => absurd z c, fun f k f' o k' w st va cd wa F hF => ⟨?_, ?_⟩⟩
      · obtain ⟨F', rfl⟩ : ∃ F', F = F' + 1 := ⟨F - 1, by omega⟩
        refine miter_r ?_
        show vs_LawReading_readNumber_b4 (xM μ (nI (p + 5)) f k st va) (nI v) (nI 5) = _
        unfold vs_LawReading_readNumber_b4
        rw [if_neg (by decide), x_sign hX hp, mbv_s, x_isDigit, mbv_s, ifb_f c]
      · obtain ⟨F', rfl⟩ : ∃ F', F = F' + 1 := ⟨F - 1, by omega⟩
        refine miter_r ?_
        show md_readsNumber_b10 (rM ν (nI (p + 5)) f' o k' w (nI v) cd wa) (nI p) = _
        unfold md_readsNumber_b10
        rw [m_isDigit hM hp, mbv_s, ifb_f c]
  | succ m ih =>
    intro i v hi hv hp
    have hN := hX.2.1
    have h5 : ¬ ((5 : Int32) < nI i) := nI_nlt (b := i) (a := 5) (by omega) (by decide)
    by_cases c : wi (sg (p + i)) 48 57 = true
    · have hlt : p + i < N := sg_lt hX (fun z => by rw [z] at c; revert c; decide)
      obtain ⟨d, d1, d2, d3⟩ := wi_r (a := sg (p + i)) (lo := 48) (hi := 57) c (by decide) (by decide)
      have hv10 : 10 * v + (d - 48) < 10 ^ (i + 1) := by rw [Nat.pow_succ]; omega
      have hi4 : (10 : Nat) ^ i ≤ 10 ^ 4 := Nat.pow_le_pow_right (by decide) (by omega)
      have evx : nI v * 10 + sg (p + i) - 48 = nI (10 * v + (d - 48)) := by
        rw [d3, show (10 : Int32) = nI 10 from rfl, pk_mul, nI_add, show v * 10 + d = 10 * v + (d - 48) + 48 by omega, ← nI_add, show (48 : Int32) = nI 48 from rfl, Int32.add_sub_cancel]
      have evm : 10 * nI v + sg (p + i) - 48 = nI (10 * v + (d - 48)) := by
        rw [d3, show (10 : Int32) = nI 10 from rfl, pk_mul, nI_add, show 10 * v + d = 10 * v + (d - 48) + 48 by omega, ← nI_add, show (48 : Int32) = nI 48 from rfl, Int32.add_sub_cancel]
      have hx : ∀ (f k : Int32) (st va : Nat → Int32), vs_LawReading_readNumber_b4 (xM μ (nI (p + i)) f k st va) (nI v) (nI i) = some (.inl (nI (10 * v + (d - 48)), nI (i + 1), xM μ (nI (p + (i + 1))) f k st va)) := by
        intro f k st va
        unfold vs_LawReading_readNumber_b4
        rw [if_neg h5, x_sign hX hp, mbv_s, x_isDigit, mbv_s, ifb_t c, if_neg (show ¬ (nI i = (5 : Int32)) from nI_ne (b := 5) (by omega) (by decide) (by omega)), mbv_s, mst_s, xM_3, xMs3, nI_1, nI_1, evx]
        rfl
      have hm : ∀ (f' o k' w : Int32) (cd wa : Nat → Int32), md_readsNumber_b10 (rM ν (nI (p + i)) f' o k' w (nI v) cd wa) (nI p) = some (.inl (rM ν (nI (p + (i + 1))) f' o k' w (nI (10 * v + (d - 48))) cd wa)) := by
        intro f' o k' w cd wa
        unfold md_readsNumber_b10
        rw [m_isDigit hM hp, mbv_s, ifb_t c, rM_39, if_neg (show ¬ (nI (p + i) = nI p + 5) from fun z => by
          rw [show nI p + 5 = nI (p + 5) from nI_add p 5] at z
          have := (nI_eq (by omega) (by omega)).mp z
          omega), m_here hM hp, mbv_s, mst_s, rM_46, rMs46, mst_s, rM_39, rMs39, nI_1, evm]
        rfl
      rcases ih (i + 1) (10 * v + (d - 48)) (by omega) hv10 (by omega) with ⟨hl, h⟩ | ⟨q, v', q1, q2, q3, q4, h⟩
      · left
        refine ⟨hl, fun f k f' o k' w st va cd wa F hF => ?_⟩
        obtain ⟨F', rfl⟩ : ∃ F', F = F' + 1 := ⟨F - 1, by omega⟩
        obtain ⟨nb', h1, h2⟩ := h f k f' o k' w st va cd wa F' (by omega)
        exact ⟨nb', miter_l (hx f k st va) h1, miter_l (hm f' o k' w cd wa) h2⟩
      · right
        refine ⟨q, v', by omega, q2, q3, fun _ => by omega, fun f k f' o k' w st va cd wa F hF => ?_⟩
        obtain ⟨F', rfl⟩ : ∃ F', F = F' + 1 := ⟨F - 1, by omega⟩
        obtain ⟨h1, h2⟩ := h f k f' o k' w st va cd wa F' (by omega)
        exact ⟨miter_l (hx f k st va) h1, miter_l (hm f' o k' w cd wa) h2⟩
    · right
      have hi4 : (10 : Nat) ^ i ≤ 10 ^ 4 := Nat.pow_le_pow_right (by decide) (by omega)
      refine ⟨p + i, v, Nat.le_refl _, hp, by omega, fun z => absurd z c, fun f k f' o k' w st va cd wa F hF => ⟨?_, ?_⟩⟩
      · obtain ⟨F', rfl⟩ : ∃ F', F = F' + 1 := ⟨F - 1, by omega⟩
        refine miter_r ?_
        show vs_LawReading_readNumber_b4 (xM μ (nI (p + i)) f k st va) (nI v) (nI i) = _
        unfold vs_LawReading_readNumber_b4
        rw [if_neg h5, x_sign hX hp, mbv_s, x_isDigit, mbv_s, ifb_f c]
      · obtain ⟨F', rfl⟩ : ∃ F', F = F' + 1 := ⟨F - 1, by omega⟩
        refine miter_r ?_
        show md_readsNumber_b10 (rM ν (nI (p + i)) f' o k' w (nI v) cd wa) (nI p) = _
        unfold md_readsNumber_b10
        rw [m_isDigit hM hp, mbv_s, ifb_f c]
theorem num_all (hX : txX μ N sg) (hM : txM ν N sg) {p s : Nat} (hp : p ≤ N) (hs : s < 200) (hd : wi (sg p) 48 57 = true) : (∃ φ, (0 < φ ∧ φ < 10000) ∧ (∀ (f : Int32) (st va : Nat → Int32), vs_LawReading_readNumber (xM μ (nI p) f (nI s) st va) = some (false, xM μ (nI (p + 5)) (nI φ) (nI s) st va)) ∧ ∀ (f o k w nb : Int32) (cd wa : Nat → Int32), ∃ nb', md_readsNumber (rM ν (nI p) f o k w nb cd wa) = some (false, rM ν (nI (p + 5)) (-(nI φ)) o k w nb' cd wa)) ∨ ∃ q v, p < q ∧ q ≤ N ∧ v < 100000 ∧ (∀ (f : Int32) (st va : Nat → Int32), vs_LawReading_readNumber (xM μ (nI p) f (nI s) st va) = some (true, xM μ (nI q) f (nI (s + 1)) (upd st s 0) (upd va s (nI v)))) ∧ ∀ (f o k w nb : Int32) (cd wa : Nat → Int32), md_readsNumber (rM ν (nI p) f o k w nb cd wa) = some (true, rM ν (nI q) f o k w (nI v) cd wa) := by
  rcases num_loop hX hM (p := p) 5 0 0 rfl (by decide) hp with ⟨hl, h⟩ | ⟨q, v, q1, q2, q3, q4, h⟩
  · left
    have hN := hX.2.1
    refine ⟨1000 * 2 + (p + 5), by omega, fun f st va => ?_, fun f o k w nb cd wa => ?_⟩
    · obtain ⟨nb', h1, _⟩ := h f (nI s) 0 0 0 0 st va st va FU (by unfold FU; omega)
      have h1 : vs_LawReading_readNumber_l4 (xM μ (nI p) f (nI s) st va) 0 0 = some (.inl (xM μ (nI (p + 5)) f (nI s) st va)) := h1
      unfold vs_LawReading_readNumber
      rw [h1]
      show mbm (vs_LawReading_fail (xM μ (nI (p + 5)) f (nI s) st va) 2) (fun x10 μ11 => some (x10, μ11)) = _
      rw [x_fail, mbm_s, flt 2 (p + 5) 2 rfl]
    · obtain ⟨nb', _, h2⟩ := h f f f o k w cd wa cd wa FU (by unfold FU; omega)
      have h2 : md_readsNumber_l10 (rM ν (nI p) f o k w 0 cd wa) (nI p) = some (.inl (rM ν (nI (p + 5)) f o k w nb' cd wa)) := h2
      refine ⟨nb', ?_⟩
      unfold md_readsNumber
      rw [mst_s, rMs46, rM_39, h2]
      show mbm (md_wrong (rM ν (nI (p + 5)) f o k w nb' cd wa) 2 (nI (p + 5))) (fun x10 μ11 => some (x10, μ11)) = _
      rw [m_wrong, mbm_s, fltM 2 (p + 5) 2 rfl]
  · right
    refine ⟨q, v, by have := q4 hd; omega, q2, q3, fun f st va => ?_, fun f o k w nb cd wa => ?_⟩
    · obtain ⟨h1, _⟩ := h f (nI s) 0 0 0 0 st va st va FU (by unfold FU; omega)
      have h1 : vs_LawReading_readNumber_l4 (xM μ (nI p) f (nI s) st va) 0 0 = some (.inr (nI v, xM μ (nI q) f (nI s) st va)) := h1
      unfold vs_LawReading_readNumber
      rw [h1]
      show mbv (vs_Law_emit_sp (xM μ (nI q) f (nI s) st va) 0 (nI v)) (fun μ15 => some (true, μ15)) = _
      rw [x_emit hs, mbv_s]
    · obtain ⟨_, h2⟩ := h f f f o k w cd wa cd wa FU (by unfold FU; omega)
      have h2 : md_readsNumber_l10 (rM ν (nI p) f o k w 0 cd wa) (nI p) = some (.inr (rM ν (nI q) f o k w (nI v) cd wa)) := h2
      unfold md_readsNumber
      rw [mst_s, rMs46, rM_39, h2]
      rfl
end
theorem fact_all (x : Int32) : (∃ w, w < 12 ∧ x = nI (lch w) ∧ vs_LawReading_isFact x = some true ∧ md_factOf x = some (nI w)) ∨ (vs_LawReading_isFact x = some false ∧ md_factOf x = some (-1)) := by
  by_cases h0 : x = 116
  · subst h0; exact Or.inl ⟨0, by decide, by decide, by decide, by decide⟩
  by_cases h1 : x = 107
  · subst h1; exact Or.inl ⟨1, by decide, by decide, by decide, by decide⟩
  by_cases h2 : x = 108
  · subst h2; exact Or.inl ⟨2, by decide, by decide, by decide, by decide⟩
  by_cases h3 : x = 102
  · subst h3; exact Or.inl ⟨3, by decide, by decide, by decide, by decide⟩
  by_cases h4 : x = 112
  · subst h4; exact Or.inl ⟨4, by decide, by decide, by decide, by decide⟩
  by_cases h5 : x = 110
  · subst h5; exact Or.inl ⟨5, by decide, by decide, by decide, by decide⟩
  by_cases h6 : x = 104
  · subst h6; exact Or.inl ⟨6, by decide, by decide, by decide, by decide⟩
  by_cases h7 : x = 115
  · subst h7; exact Or.inl ⟨7, by decide, by decide, by decide, by decide⟩
  by_cases h8 : x = 98
  · subst h8; exact Or.inl ⟨8, by decide, by decide, by decide, by decide⟩
  by_cases h9 : x = 121
  · subst h9; exact Or.inl ⟨9, by decide, by decide, by decide, by decide⟩
  by_cases h10 : x = 120
  · subst h10; exact Or.inl ⟨10, by decide, by decide, by decide, by decide⟩
  by_cases h11 : x = 114
  · subst h11; exact Or.inl ⟨11, by decide, by decide, by decide, by decide⟩
  right
  constructor
  · simp [vs_LawReading_isFact, h0, h1, h2, h3, h4, h5, h6, h7, h8, h9, h10, h11]
  · simp [md_factOf, h0, h1, h2, h3, h4, h5, h6, h7, h8, h9, h10, h11]
/-- which operator a sign is -/
def sS (x : Int32) : Nat := if x = 43 then 2 else if x = 45 then 3 else if x = 42 then 4 else if x = 47 then 5 else if x = 37 then 6 else 0
theorem m_sumSign (x : Int32) : md_sumSign x = some (if sS x = 0 then -1 else nI (sS x)) := by
  unfold md_sumSign sS
  by_cases c1 : x = 43
  · subst c1; rfl
  by_cases c2 : x = 45
  · subst c2; rfl
  by_cases c3 : x = 42
  · subst c3; rfl
  by_cases c4 : x = 47
  · subst c4; rfl
  by_cases c5 : x = 37
  · subst c5; rfl
  simp [c1, c2, c3, c4, c5]
def pl (m : Nat) : List (Nat × Nat) := if m = 0 then [] else [(m, 0)]
theorem pl_0 : pl 0 = [] := rfl
theorem pl_n {m : Nat} (h : m ≠ 0) : pl m = [(m, 0)] := if_neg h
def pdg (wa : Nat → Int32) (w ad mu : Nat) : Prop := (ad = 0 ∨ ((ad = 2 ∨ ad = 3) ∧ wa w = nI (1048576 * ad))) ∧ (mu = 0 ∨ ((mu = 4 ∨ mu = 5 ∨ mu = 6) ∧ wa (w + (pl ad).length) = nI (1048576 * mu)))
def noM (t : Int32) : Prop := t < 4 ∨ ¬ (t ≤ 6)
def noS (t : Int32) : Prop := noM t ∧ t ≠ 2 ∧ t ≠ 3
theorem enc_0 {m : Nat} : (1048576 * nI m) + 0 = enc (m, 0) := by
  rw [add0, show (1048576 : Int32) = nI 1048576 from rfl, pk_mul]
  rfl
theorem tpO_op {wa : Nat → Int32} {w m : Nat} (h : wa w = nI (1048576 * m)) (hm : m ≤ 14) : tpO wa (w + 1) = nI m := by
  rw [tpO_S, h, dvU (by omega), Nat.mul_div_cancel_left _ (by decide)]
section
variable {ν : Mm} {p f o nb fl : Int32} {cd wa : Nat → Int32} {s w : Nat}
theorem cl_pop {F m : Nat} (hs : s < 220) (hw : w + 1 ≤ 220) (hm : m = 4 ∨ m = 5 ∨ m = 6) (ht : wa w = nI (1048576 * m)) : miter (fun q => md_closesSums_b0 q fl) (F + 1) (rM ν p f o (nI s) (nI (w + 1)) nb cd wa) = miter (fun q => md_closesSums_b0 q fl) F (rM ν p f o (nI (s + 1)) (nI w) nb (upd cd s (enc (m, 0))) wa) := by
  refine miter_l ?_ rfl
  show md_closesSums_b0 (rM ν p f o (nI s) (nI (w + 1)) nb cd wa) fl = _
  unfold md_closesSums_b0
  rw [m_top hw, tpO_op ht (by omega)]
  simp only [mbv_s]
  rw [if_neg (show ¬ (nI m < (4 : Int32)) from nI_nlt (b := 4) (by omega) (by omega)), if_pos (show nI m ≤ (6 : Int32) from nI_le (b := 6) (by omega) (by decide)), m_says hs, mbv_s, mst_s, rM_44, nI_pred, rMs44, enc_0]
theorem cl_popA {F m : Nat} (hs : s < 220) (hw : w + 1 ≤ 220) (hm : m = 2 ∨ m = 3) (ht : wa w = nI (1048576 * m)) : miter (fun q => md_closesSums_b0 q 1) (F + 1) (rM ν p f o (nI s) (nI (w + 1)) nb cd wa) = miter (fun q => md_closesSums_b0 q 1) F (rM ν p f o (nI (s + 1)) (nI w) nb (upd cd s (enc (m, 0))) wa) := by
  refine miter_l ?_ rfl
  show md_closesSums_b0 (rM ν p f o (nI s) (nI (w + 1)) nb cd wa) 1 = _
  unfold md_closesSums_b0 md_closesSums_j17
  rw [m_top hw, tpO_op ht (by omega)]
  simp only [mbv_s]
  rw [if_pos (show nI m < (4 : Int32) from nI_lt (b := 4) (by omega) (by decide)), if_neg (show ¬ ((1 : Int32) = 0) by decide)]
  rcases hm with rfl | rfl
  · rw [if_pos (show nI 2 = (2 : Int32) from rfl), m_says hs, mbv_s, mst_s, rM_44, nI_pred, rMs44, enc_0]
  · rw [if_neg (show ¬ (nI 3 = (2 : Int32)) by decide), if_pos (show nI 3 = (3 : Int32) from rfl), m_says hs, mbv_s, mst_s, rM_44, nI_pred, rMs44, enc_0]
theorem cl_stop {F : Nat} {k : Int32} (hw : w ≤ 220) (ht : noM (tpO wa w)) (hf : fl = 0 ∨ noS (tpO wa w)) : miter (fun q => md_closesSums_b0 q fl) (F + 1) (rM ν p f o k (nI w) nb cd wa) = some (rM ν p f o k (nI w) nb cd wa) := by
  refine miter_r ?_
  show md_closesSums_b0 (rM ν p f o k (nI w) nb cd wa) fl = _
  have j : md_closesSums_j17 (rM ν p f o k (nI w) nb cd wa) fl = some (.inr (rM ν p f o k (nI w) nb cd wa)) := by
    unfold md_closesSums_j17
    rw [m_top hw]
    by_cases c : fl = 0
    · rw [if_pos c]
    · rw [if_neg c]
      simp only [mbv_s]
      rcases hf with hf | hf
      · exact absurd hf c
      · rw [if_neg hf.2.1, if_neg hf.2.2]
  unfold md_closesSums_b0
  rw [m_top hw]
  simp only [mbv_s]
  by_cases c : tpO wa w < 4
  · rw [if_pos c, j]
  · rw [if_neg c]
    rcases ht with ht | ht
    · exact absurd ht c
    · rw [if_neg ht, j]
theorem m_close1 {ad mu : Nat} (hs : s + 2 ≤ 220) (hw : w + 2 ≤ 220) (ht : noS (tpO wa w)) (hp : pdg wa w ad mu) : ∃ cd', md_closesSums (rM ν p f o (nI s) (nI (w + (pl ad).length + (pl mu).length)) nb cd wa) 1 = some (rM ν p f o (nI (s + (pl mu ++ pl ad).length)) (nI w) nb cd' wa) ∧ (∀ i, i < s → cd' i = cd i) ∧ AtL (fun k o => cd' k = enc o) s (pl mu ++ pl ad) := by
  obtain ⟨h1, h2⟩ := hp
  unfold md_closesSums md_closesSums_l0
  rw [show FU = 1048573 + 1 + 1 + 1 from rfl]
  rcases h1 with rfl | ⟨h1, h1w⟩
  · rcases h2 with rfl | ⟨h2, h2w⟩
    · refine ⟨cd, ?_, fun _ _ => rfl, trivial⟩
      show mbv (miter (fun q => md_closesSums_b0 q 1) (1048573 + 1 + 1 + 1) (rM ν p f o (nI s) (nI w) nb cd wa)) _ = some (rM ν p f o (nI s) (nI w) nb cd wa)
      rw [cl_stop (by omega) ht.1 (Or.inr ht), mbv_s]
    · rw [pl_n (show mu ≠ 0 by omega)]
      have h2w : wa w = nI (1048576 * mu) := h2w
      refine ⟨upd cd s (enc (mu, 0)), ?_, fun i hi => upd_n (by omega), upd_s _ _ _, trivial⟩
      show mbv (miter (fun q => md_closesSums_b0 q 1) (1048573 + 1 + 1 + 1) (rM ν p f o (nI s) (nI (w + 1)) nb cd wa)) _ = some (rM ν p f o (nI (s + 1)) (nI w) nb _ wa)
      rw [cl_pop (by omega) (by omega) h2 h2w, cl_stop (by omega) ht.1 (Or.inr ht), mbv_s]
  · have ha : ad ≠ 0 := by omega
    rw [pl_n ha] at h2 ⊢
    rcases h2 with rfl | ⟨h2, h2w⟩
    · refine ⟨upd cd s (enc (ad, 0)), ?_, fun i hi => upd_n (by omega), upd_s _ _ _, trivial⟩
      show mbv (miter (fun q => md_closesSums_b0 q 1) (1048573 + 1 + 1 + 1) (rM ν p f o (nI s) (nI (w + 1)) nb cd wa)) _ = some (rM ν p f o (nI (s + 1)) (nI w) nb _ wa)
      rw [cl_popA (by omega) (by omega) h1 h1w, cl_stop (by omega) ht.1 (Or.inr ht), mbv_s]
    · rw [pl_n (show mu ≠ 0 by omega)]
      have h2w : wa (w + 1) = nI (1048576 * mu) := h2w
      refine ⟨upd (upd cd s (enc (mu, 0))) (s + 1) (enc (ad, 0)), ?_, fun i hi => by rw [upd_n (by omega), upd_n (by omega)], (upd_n (by omega)).trans (upd_s _ _ _), upd_s _ _ _, trivial⟩
      show mbv (miter (fun q => md_closesSums_b0 q 1) (1048573 + 1 + 1 + 1) (rM ν p f o (nI s) (nI (w + 1 + 1)) nb cd wa)) _ = some (rM ν p f o (nI (s + 1 + 1)) (nI w) nb _ wa)
      rw [cl_pop (by omega) (by omega) h2 h2w, cl_popA (by omega) (by omega) h1 h1w, cl_stop (by omega) ht.1 (Or.inr ht), mbv_s]
theorem m_close0 {mu : Nat} (hs : s + 2 ≤ 220) (hw : w + 2 ≤ 220) (ht : noM (tpO wa w)) (hp : pdg wa w 0 mu) : ∃ cd', md_closesSums (rM ν p f o (nI s) (nI (w + (pl mu).length)) nb cd wa) 0 = some (rM ν p f o (nI (s + (pl mu).length)) (nI w) nb cd' wa) ∧ (∀ i, i < s → cd' i = cd i) ∧ AtL (fun k o => cd' k = enc o) s (pl mu) := by
  obtain ⟨h1, h2⟩ := hp
  unfold md_closesSums md_closesSums_l0
  rw [show FU = 1048573 + 1 + 1 + 1 from rfl]
  rcases h2 with rfl | ⟨h2, h2w⟩
  · refine ⟨cd, ?_, fun _ _ => rfl, trivial⟩
    show mbv (miter (fun q => md_closesSums_b0 q 0) (1048573 + 1 + 1 + 1) (rM ν p f o (nI s) (nI w) nb cd wa)) _ = some (rM ν p f o (nI s) (nI w) nb cd wa)
    rw [cl_stop (by omega) ht (Or.inl rfl), mbv_s]
  · rw [pl_n (show mu ≠ 0 by omega)]
    have h2w : wa w = nI (1048576 * mu) := h2w
    refine ⟨upd cd s (enc (mu, 0)), ?_, fun i hi => upd_n (by omega), upd_s _ _ _, trivial⟩
    show mbv (miter (fun q => md_closesSums_b0 q 0) (1048573 + 1 + 1 + 1) (rM ν p f o (nI s) (nI (w + 1)) nb cd wa)) _ = some (rM ν p f o (nI (s + 1)) (nI w) nb _ wa)
    rw [cl_pop (by omega) (by omega) h2 h2w, cl_stop (by omega) ht (Or.inl rfl), mbv_s]
theorem m_hos {k : Int32} {b : Nat} (hw : w ≤ 220) (hb : b ≤ w) : md_hasOpenSum (rM ν p f o k (nI w) nb cd wa) (nI b) = some (lf (fun j => decide (wa j / 1048576 = 14)) (w - b) b).isSome := by
  unfold md_hasOpenSum md_hasOpenSum_l2
  have key := find_loop (f := fun q => md_hasOpenSum_b2 (rM ν p f o k (nI w) nb cd wa) q) (p := fun j => decide (wa j / 1048576 = 14)) b w (fun _ => .inl ()) (.inr ()) (fun i _ hi => by
    show md_hasOpenSum_b2 (rM ν p f o k (nI w) nb cd wa) (nI i) = _
    unfold md_hasOpenSum_b2
    rw [rM_44, if_neg (nI_ge hi (by omega)), mrd_nI (by omega) (by decide), nI_1]
    show (if wa i / 1048576 = 14 then _ else _) = _
    by_cases c : wa i / 1048576 = 14
    · rw [if_pos c, if_pos (decide_eq_true c)]
    · rw [if_neg c, if_neg (by simpa using c)]) (by
    show md_hasOpenSum_b2 (rM ν p f o k (nI w) nb cd wa) (nI w) = _
    unfold md_hasOpenSum_b2
    rw [rM_44, if_pos (nI_le (Nat.le_refl _) (by omega))]) (w - b) b FU (Nat.le_refl _) (by omega) (by unfold FU; omega)
  rw [key]
  cases lf (fun j => decide (wa j / 1048576 = 14)) (w - b) b <;> rfl
theorem m_hosY {k : Int32} {b j : Nat} (hw : w ≤ 220) (hb : b ≤ j) (hj : j < w) (h : wa j = nI (1048576 * 14)) : md_hasOpenSum (rM ν p f o k (nI w) nb cd wa) (nI b) = some true := by
  rw [m_hos hw (by omega)]
  cases e : lf (fun j => decide (wa j / 1048576 = 14)) (w - b) b with
  | some _ => rfl
  | none =>
    have := lf_none e j hb (by omega)
    have this : decide (wa j / 1048576 = 14) = false := this
    rw [h, dvU (by decide)] at this
    exact absurd this (by decide)
theorem m_hosN {k : Int32} {b : Nat} (hw : w ≤ 220) (hb : b ≤ w) (h : ∀ j, b ≤ j → j < w → wa j / 1048576 ≠ 14) : md_hasOpenSum (rM ν p f o k (nI w) nb cd wa) (nI b) = some false := by
  rw [m_hos hw hb]
  cases e : lf (fun j => decide (wa j / 1048576 = 14)) (w - b) b with
  | none => rfl
  | some j =>
    obtain ⟨j1, j2, j3, _⟩ := lf_some e
    have j3 : decide (wa j / 1048576 = 14) = true := j3
    exact absurd (of_decide_eq_true j3) (h j j1 (by omega))
end
