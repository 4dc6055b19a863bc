/-! reading a test: a piece -/
def cS (x : Int32) : Nat := if x = 60 then 7 else if x = 62 then 8 else if x = 61 then 9 else 0
theorem cS_cs (x : Int32) : (x = 60 ∧ cS x = 7) ∨ (x = 62 ∧ cS x = 8) ∨ (x = 61 ∧ cS x = 9) ∨ (cS x = 0 ∧ x ≠ 60 ∧ x ≠ 62 ∧ x ≠ 61) := by
  by_cases c1 : x = 60
  · subst c1; exact Or.inl ⟨rfl, rfl⟩
  by_cases c2 : x = 62
  · subst c2; exact Or.inr (Or.inl ⟨rfl, rfl⟩)
  by_cases c3 : x = 61
  · subst c3; exact Or.inr (Or.inr (Or.inl ⟨rfl, rfl⟩))
  refine Or.inr (Or.inr (Or.inr ⟨?_, c1, c2, c3⟩))
  unfold cS
  rw [if_neg c1, if_neg c2, if_neg c3]
theorem cS_opX {x : Int32} (h : cS x ≠ 0) (k : Nat) : opX k (cS x, 0) x 0 := by
  rcases cS_cs x with ⟨h1, h2⟩ | ⟨h1, h2⟩ | ⟨h1, h2⟩ | ⟨h1, _⟩
  · rw [h2]; exact ⟨rfl, by decide, Or.inr (Or.inr (Or.inr (Or.inr (Or.inr (Or.inr (Or.inr (Or.inl ⟨rfl, h1⟩)))))))⟩
  · rw [h2]; exact ⟨rfl, by decide, Or.inr (Or.inr (Or.inr (Or.inr (Or.inr (Or.inr (Or.inr (Or.inr (Or.inl ⟨rfl, h1⟩))))))))⟩
  · rw [h2]; exact ⟨rfl, by decide, Or.inr (Or.inr (Or.inr (Or.inr (Or.inr (Or.inr (Or.inr (Or.inr (Or.inr (Or.inl ⟨rfl, h1⟩)))))))))⟩
  · exact absurd h1 h
theorem cS_m1 {x : Int32} (h : cS x ≠ 0) : x ≠ -1 := by
  intro e
  rw [e] at h
  exact h (by decide)
def hRes (F : Nat) (r : Option (Mm ⊕ (Mm ⊕ Mm ⊕ Mm ⊕ Mm))) : Option (Mm ⊕ Mm ⊕ Mm ⊕ Mm) := match r with
  | none => none
  | some (.inl q) => cH F q
  | some (.inr e) => some e
theorem cH_T {F : Nat} {μ : Mm} {r : Option (Mm ⊕ (Mm ⊕ Mm ⊕ Mm ⊕ Mm))} (h : md_readsCondition_b40 μ = r) : cH (F + 1) μ = hRes F r := by
  unfold cH hRes
  simp only [miter, h]
  rcases r with _ | q | e <;> rfl
section
variable {ν μ : Mm} {N : Nat} {sg : Nat → Int32}
theorem b40_sum (hM : txM ν N sg) {p : Nat} {f o k w nb : Int32} {cd wa : Nat → Int32} (hp : p ≤ N) (h1 : ¬ sg p = 33) (h2 : ¬ sg p = 40) : md_readsCondition_b40 (rM ν (nI p) f o k w nb cd wa) = mbm (md_readsCompared (rM ν (nI p) f o k w nb cd wa)) fun x20 μ21 => if (bI x20) = 0 then some (.inr (.inr (.inl μ21))) else cAft FU μ21 := by
  unfold md_readsCondition_b40
  rw [m_here hM hp]
  simp only [mbv_s]
  rw [if_neg h1, if_neg h2]
  rfl
theorem cH_no {F : Nat} {M u : Mm} (h : md_readsCondition_b40 M = some (.inr (.inr (.inl u)))) : cFin (cH (F + 1) M) = some (false, u) := by
  rw [cH_T h]
  rfl
theorem b40_open (hM : txM ν N sg) {p a w : Nat} {f k nb : Int32} {cd wa : Nat → Int32} (hp : p ≤ N) (ha : a < 6) (hw : w < 220) (h : sg p = 33 ∨ sg p = 40) : md_readsCondition_b40 (rM ν (nI p) f (nI a) k (nI w) nb cd wa) = some (.inl (rM ν (nI (p + 1)) f (nI (a + 1)) k (nI (w + 1)) nb cd (upd wa w (nI (1048576 * (if sg p = 33 then 10 else 13)))))) := by
  unfold md_readsCondition_b40
  rw [m_here hM hp]
  simp only [mbv_s]
  rcases h with h | h
  · rw [if_pos h, if_pos h, if_pos h, m_opY ha hw, mbm_s, ifb_t']
    rfl
  · have h' : ¬ sg p = 33 := by rw [h]; decide
    rw [if_neg h', if_pos h, if_neg h', if_neg h', m_opY ha hw, mbm_s, ifb_t']
    rfl
theorem b40_full (hM : txM ν N sg) {p a : Nat} {f k w nb : Int32} {cd wa : Nat → Int32} (hp : p ≤ N) (ha : a = 6) (h : sg p = 33 ∨ sg p = 40) : md_readsCondition_b40 (rM ν (nI p) f (nI a) k w nb cd wa) = some (.inr (.inl (rM ν (nI p) (-(nI (5000 + p))) (nI a) k w nb cd wa))) := by
  unfold md_readsCondition_b40
  rw [m_here hM hp]
  simp only [mbv_s]
  rcases h with h | h
  · rw [if_pos h, if_pos h, m_opN ha, mbm_s, ifb_f']
  · have h' : ¬ sg p = 33 := by rw [h]; decide
    rw [if_neg h', if_pos h, if_neg h', m_opN ha, mbm_s, ifb_f']
theorem cH_cmp {F : Nat} {M u : Mm} (h : md_readsCondition_b40 M = mbm (mbv (md_endsPiece u) fun μ18 => some (true, μ18)) fun x20 μ21 => if (bI x20) = 0 then some (.inr (.inr (.inl μ21))) else cAft FU μ21) : cH (F + 1) M = cE FU FU F u := by
  rw [cH_T h]
  unfold cE md_endsPiece md_endsPiece_l0
  cases r : miter (fun q => md_endsPiece_b0 q) FU u with
  | none => rfl
  | some v =>
    rw [mbv_s, mbv_s, mbm_s, ifb_t', mbv_s]
    rfl
theorem lv0_step (hX : txX μ N sg) (hM : txM ν N sg) {n : Nat} (h0 : Lv0 μ ν N sg n) (hC : LvC μ ν N sg n) : Lv0 μ ν N sg (n + 1) := by
  intro a p s ha hn hs hp
  have hN := hX.2.1
  have hFU : 1000 < FU := by unfold FU; omega
  have un : ∀ M : Mm, vs_LawReading_rec (n + 1) 2 M (nI a) = vs_LawReading_readPiece_r (vs_LawReading_rec n) M (nI a) := fun _ => rfl
  by_cases c1 : sg p = 33
  · have hpN : p < N := sg_lt hX (by rw [c1]; decide)
    by_cases c2 : a = 6
    · left
      refine ⟨5000 + p, fun f st va => ?_, fun f w F nb cd wa _ h1 hw hF => ?_⟩
      · obtain ⟨s3, st3, va3, y1, y2⟩ := x_emitL (μ := μ) (p := nI p) (f := nI (5000 + p)) (st := st) (va := va) (a1 := 2) (a2 := 0) (show s ≤ 200 by omega)
        refine ⟨nI p, s3, st3, va3, ⟨y1, by omega, by omega⟩, ?_⟩
        rw [un]
        unfold vs_LawReading_readPiece_r
        rw [x_sign hX hp, mbv_s, if_pos c1, x_openN c2, mbm_s, ifb_f', y2, mbv_s]
      · obtain ⟨F2, rfl⟩ : ∃ F2, F = F2 + 1 := ⟨F - 1, by omega⟩
        rw [cH_T (b40_full hM hp c2 (Or.inl c1))]
        exact ⟨_, _, _, _, _, _, _, rfl⟩
    have ha6 : a < 6 := by omega
    have hx0 : ∀ (f : Int32) (st va : Nat → Int32), vs_LawReading_rec (n + 1) 2 (xM μ (nI p) f (nI s) st va) (nI a) = mbm (vs_LawReading_rec n 2 (xM μ (nI (p + 1)) f (nI s) st va) (nI (a + 1))) fun x32 μ33 => if (bI x32) = 0 then mbv (vs_Law_emit_sp μ33 2 0) fun μ36 => some (false, μ36) else mbv (vs_Law_emit_sp μ33 2 0) fun μ38 => some (true, μ38) := by
      intro f st va
      rw [un]
      unfold vs_LawReading_readPiece_r
      rw [x_sign hX hp, mbv_s, if_pos c1, x_openY ha6, mbm_s, ifb_t', nI_1]
    have hm0 : ∀ (f : Int32) (w F : Nat) (nb : Int32) (cd wa : Nat → Int32), w ≤ p → cH (F + 1) (rM ν (nI p) f (nI a) (nI s) (nI w) nb cd wa) = cH F (rM ν (nI (p + 1)) f (nI (a + 1)) (nI s) (nI (w + 1)) nb cd (upd wa w (nI (1048576 * 10)))) := by
      intro f w F nb cd wa hw
      rw [cH_T (b40_open hM hp ha6 (by omega) (Or.inl c1)), if_pos c1]
      rfl
    have ht10 : ∀ (wa : Nat → Int32) (w : Nat), noS (tpO (upd wa w (nI (1048576 * 10))) (w + 1)) := fun wa w => by
      rw [tpO_op (m := 10) (upd_s _ _ _) (by decide)]
      exact noS_n (by decide) (by decide)
    rcases h0 (a + 1) (p + 1) s (by omega) (by omega) (by omega) (by omega) with ⟨φ, k1, k2⟩ | ⟨q, c, q1, q2, q3, q5, k1, k2⟩
    · left
      refine ⟨φ, fun f st va => ?_, fun f w F nb cd wa _ h1 hw hF => ?_⟩
      · obtain ⟨p', k', st', va', z1, z2⟩ := k1 f st va
        obtain ⟨s3, st3, va3, y1, y2⟩ := x_emitL (μ := μ) (p := p') (f := nI φ) (st := st') (va := va') (a1 := 2) (a2 := 0) z1.1
        refine ⟨p', s3, st3, va3, ⟨y1, z1.2⟩, ?_⟩
        rw [hx0, z2, mbm_s, ifb_f', y2, mbv_s]
      · obtain ⟨F2, rfl⟩ : ∃ F2, F = F2 + 1 := ⟨F - 1, by omega⟩
        rw [hm0 f w F2 nb cd wa hw]
        exact k2 f (w + 1) F2 nb cd _ (ht10 wa w) (by omega) (by omega) (by omega)
    · right
      have hl : (c ++ [(10, 0)]).length = c.length + 1 := by rw [List.length_append]; rfl
      refine ⟨q, c ++ [(10, 0)], by omega, q2, by omega, smC_not (smC_up q5 (by omega)) (by omega), fun f st va => ?_, fun f w F nb cd wa _ h1 hw hF => ?_⟩
      · obtain ⟨st', va', z1, z2, z3⟩ := k1 f st va
        refine ⟨upd st' (s + c.length) 2, upd va' (s + c.length) 0, ?_, fun j hj => ?_, AtL_app.mpr ⟨AtL_mono (fun k o g1 g2 g3 => ?_) z3, ?_, trivial⟩⟩
        · rw [hx0, z1, mbm_s, ifb_t', x_emit (by omega), mbv_s, hl]
          rfl
        · rw [upd_n (by omega), upd_n (by omega)]
          exact z2 j hj
        · show opX k o (upd st' _ _ k) (upd va' _ _ k)
          rw [upd_n (by omega), upd_n (by omega)]
          exact g3
        · show opX (s + c.length) (10, 0) (upd st' _ _ (s + c.length)) (upd va' _ _ (s + c.length))
          rw [upd_s, upd_s]
          exact ⟨rfl, by decide, Or.inr (Or.inr (Or.inr (Or.inr (Or.inr (Or.inr (Or.inr (Or.inr (Or.inr (Or.inr (Or.inl ⟨rfl, rfl⟩))))))))))⟩
      · obtain ⟨F2, rfl⟩ : ∃ F2, F = F2 + 1 := ⟨F - 1, by omega⟩
        obtain ⟨J', G', F', nb', cd', wa', e1, e2, e3, e4, e5, e6, e7⟩ := k2 f (w + 1) F2 nb cd (upd wa w (nI (1048576 * 10))) (ht10 wa w) (by omega) (by omega) (by omega)
        obtain ⟨J2, rfl⟩ : ∃ J2, J' = J2 + 1 := ⟨J' - 1, by omega⟩
        refine ⟨J2, G', F', nb', upd cd' (s + c.length) (enc (10, 0)), wa', by omega, e2, by omega, ?_, fun j hj => by rw [upd_n (by omega)]; exact e5 j hj, fun j hj => by rw [e6 j (by omega), upd_n (by omega)], AtL_app.mpr ⟨AtL_mono (fun k o g1 g2 g3 => ?_) e7, upd_s _ _ _, trivial⟩⟩
        · rw [hm0 f w F2 nb cd wa hw, e4]
          unfold cE
          rw [ep_pop (by omega) (by omega) (by rw [e6 w (by omega), upd_s]), hl]
          rfl
        · show upd cd' _ _ k = enc o
          rw [upd_n (by omega)]
          exact g3
  by_cases c2 : sg p = 40
  · have hpN : p < N := sg_lt hX (by rw [c2]; decide)
    by_cases c3 : a = 6
    · left
      refine ⟨5000 + p, fun f st va => ⟨nI p, s, st, va, by omega, ?_⟩, fun f w F nb cd wa _ h1 hw hF => ?_⟩
      · rw [un]
        unfold vs_LawReading_readPiece_r
        rw [x_sign hX hp, mbv_s, if_neg c1, if_pos c2, x_openN c3, mbm_s, ifb_f']
      · obtain ⟨F2, rfl⟩ : ∃ F2, F = F2 + 1 := ⟨F - 1, by omega⟩
        rw [cH_T (b40_full hM hp c3 (Or.inr c2))]
        exact ⟨_, _, _, _, _, _, _, rfl⟩
    have ha6 : a < 6 := by omega
    have hx0 : ∀ (f : Int32) (st va : Nat → Int32), vs_LawReading_rec (n + 1) 2 (xM μ (nI p) f (nI s) st va) (nI a) = mbm (vs_LawReading_rec n 0 (xM μ (nI (p + 1)) f (nI s) st va) (nI (a + 1))) fun x21 μ22 => if (bI x21) = 0 then some (false, μ22) else mbm (vs_LawReading_expect μ22 41) fun x24 μ25 => if (bI x24) = 0 then some (false, μ25) else some (true, μ25) := by
      intro f st va
      rw [un]
      unfold vs_LawReading_readPiece_r
      rw [x_sign hX hp, mbv_s, if_neg c1, if_pos c2, x_openY ha6, mbm_s, ifb_t', nI_1]
    have hm0 : ∀ (f : Int32) (w F : Nat) (nb : Int32) (cd wa : Nat → Int32), w ≤ p → cH (F + 1) (rM ν (nI p) f (nI a) (nI s) (nI w) nb cd wa) = cH F (rM ν (nI (p + 1)) f (nI (a + 1)) (nI s) (nI (w + 1)) nb cd (upd wa w (nI (1048576 * 13)))) := by
      intro f w F nb cd wa hw
      rw [cH_T (b40_open hM hp ha6 (by omega) (Or.inr c2)), if_neg c1]
      rfl
    have ht13 : ∀ (wa : Nat → Int32) (w : Nat), wa w = nI (1048576 * 13) → noS (tpO wa (w + 1)) ∧ tpO wa (w + 1) ≠ 10 ∧ tpO wa (w + 1) ≠ 11 ∧ tpO wa (w + 1) ≠ 12 := fun wa w e => by
      rw [tpO_op (m := 13) e (by decide)]
      exact ⟨noS_n (by decide) (by decide), by decide, by decide, by decide⟩
    rcases hC (a + 1) (p + 1) s (by omega) (by omega) (by omega) (by omega) with ⟨φ, k1, k2⟩ | ⟨q, c, q1, q2, q3, q4, q5, k1, k2⟩
    · left
      refine ⟨φ, fun f st va => ?_, fun f w F nb cd wa _ h1 hw hF => ?_⟩
      · obtain ⟨p', k', st', va', z1, z2⟩ := k1 f st va
        refine ⟨p', k', st', va', z1, ?_⟩
        rw [hx0, z2, mbm_s, ifb_f']
      · obtain ⟨F2, rfl⟩ : ∃ F2, F = F2 + 1 := ⟨F - 1, by omega⟩
        rw [hm0 f w F2 nb cd wa hw]
        exact k2 f (w + 1) F2 nb cd _ (ht13 _ w (upd_s _ _ _)) (by omega) (by omega) (by omega)
    · by_cases c4 : sg q = 41
      · have hqN : q < N := sg_lt hX (by rw [c4]; decide)
        right
        refine ⟨q + 1, c, by omega, by omega, by omega, smC_up q5 (by omega), fun f st va => ?_, fun f w F nb cd wa _ h1 hw hF => ?_⟩
        · obtain ⟨st', va', z1, z2, z3⟩ := k1 f st va
          refine ⟨st', va', ?_, z2, z3⟩
          rw [hx0, z1, mbm_s, ifb_t', x_expY hX q2 c4, mbm_s, ifb_t']
        · obtain ⟨F2, rfl⟩ : ∃ F2, F = F2 + 1 := ⟨F - 1, by omega⟩
          obtain ⟨G', F', ji, jn, nb', cd', wa', e1, e2, e3, _, e5, e6, e7, e8⟩ := k2 f (w + 1) F2 nb cd (upd wa w (nI (1048576 * 13))) (ht13 _ w (upd_s _ _ _)) (by omega) (by omega) (by omega)
          obtain ⟨G2, rfl⟩ : ∃ G2, G' = G2 + 1 := ⟨G' - 1, by omega⟩
          have hw13 : wa' w = nI (1048576 * 13) := by rw [e7 w (by omega), upd_s]
          obtain ⟨cd2, y1, y2, y3⟩ := cA_par hM (f := f) (nb := nb') (a := a) (G := G2) (F := F') q2 (by omega) (by omega) h1 c4 ⟨(ht13 wa' w hw13).2.2.1, (ht13 wa' w hw13).2.2.2⟩ e5 e8
          refine ⟨FU, G2, F', nb', cd2, wa', by omega, by omega, by omega, ?_, fun j hj => by rw [y2 j hj, e6 j hj], fun j hj => by rw [e7 j (by omega), upd_n (by omega)], y3⟩
          rw [hm0 f w F2 nb cd wa hw, e3, y1]
      · left
        refine ⟨1000 + q, fun f st va => ?_, fun f w F nb cd wa _ h1 hw hF => ?_⟩
        · obtain ⟨st', va', z1, z2, z3⟩ := k1 f st va
          refine ⟨nI q, s + c.length, st', va', by omega, ?_⟩
          rw [hx0, z1, mbm_s, ifb_t', x_expN hX q2 c4, mbm_s, ifb_f']
        · obtain ⟨F2, rfl⟩ : ∃ F2, F = F2 + 1 := ⟨F - 1, by omega⟩
          obtain ⟨G', F', ji, jn, nb', cd', wa', e1, e2, e3, _, e5, e6, e7, e8⟩ := k2 f (w + 1) F2 nb cd (upd wa w (nI (1048576 * 13))) (ht13 _ w (upd_s _ _ _)) (by omega) (by omega) (by omega)
          obtain ⟨G2, rfl⟩ : ∃ G2, G' = G2 + 1 := ⟨G' - 1, by omega⟩
          rw [hm0 f w F2 nb cd wa hw, e3]
          exact cA_bad hM q2 c4 q4.1 q4.2
  · have hx0 : ∀ (f : Int32) (st va : Nat → Int32), vs_LawReading_rec (n + 1) 2 (xM μ (nI p) f (nI s) st va) (nI a) = mbm (vs_LawReading_rec n 3 (xM μ (nI p) f (nI s) st va) (nI a)) fun x4 μ5 => if (bI x4) = 0 then some (false, μ5) else mbv (vs_LawReading_sign μ5) fun x7 => if x7 = 60 then vs_LawReading_readPiece_j124 (vs_LawReading_rec n) μ5 (nI a) x7 else if x7 = 62 then vs_LawReading_readPiece_j124 (vs_LawReading_rec n) μ5 (nI a) x7 else if x7 = 61 then vs_LawReading_readPiece_j124 (vs_LawReading_rec n) μ5 (nI a) x7 else mbm (vs_LawReading_fail μ5 1) fun x16 μ17 => some (x16, μ17) := by
      intro f st va
      rw [un]
      unfold vs_LawReading_readPiece_r
      rw [x_sign hX hp, mbv_s, if_neg c1, if_neg c2]
    rcases sum_all hX hM (n := n) (a := a) (p := p) (s := s) ha (by omega) hs hp with ⟨φ, k1, k2⟩ | ⟨q, c, q1, q2, q3, q5, k1, k2⟩
    · left
      refine ⟨φ, fun f st va => ?_, fun f w F nb cd wa ht h1 hw hF => ?_⟩
      · obtain ⟨p', k', st', va', z1, z2⟩ := k1 f st va
        refine ⟨p', k', st', va', z1, ?_⟩
        rw [hx0, z2, mbm_s, ifb_f']
      · obtain ⟨F2, rfl⟩ : ∃ F2, F = F2 + 1 := ⟨F - 1, by omega⟩
        obtain ⟨p', o', k', w', nb', cd', wa', z⟩ := k2 f w nb cd wa ht hw
        refine ⟨p', o', k', w', nb', cd', wa', cH_no ?_⟩
        rw [b40_sum hM hp c1 c2]
        unfold md_readsCompared
        rw [z, mbm_s, ifb_f', mbm_s, ifb_f']
    have hl1 : s + c.length ≤ 200 := by omega
    by_cases c3 : cS (sg q) = 0
    · have hn3 : sg q ≠ 60 ∧ sg q ≠ 62 ∧ sg q ≠ 61 := by
        rcases cS_cs (sg q) with ⟨_, h2⟩ | ⟨_, h2⟩ | ⟨_, h2⟩ | ⟨_, h2⟩
        · omega
        · omega
        · omega
        · exact h2
      left
      refine ⟨1000 + q, fun f st va => ?_, fun f w F nb cd wa ht h1 hw hF => ?_⟩
      · obtain ⟨st', va', z1, z2, z3⟩ := k1 f st va
        refine ⟨nI q, s + c.length, st', va', by omega, ?_⟩
        rw [hx0, z1, mbm_s, ifb_t', x_sign hX q2, mbv_s, if_neg hn3.1, if_neg hn3.2.1, if_neg hn3.2.2, x_fail, mbm_s, flt 1 q 1 rfl]
      · obtain ⟨F2, rfl⟩ : ∃ F2, F = F2 + 1 := ⟨F - 1, by omega⟩
        obtain ⟨nb', cd', wa', z, _⟩ := k2 f w nb cd wa ht hw
        refine ⟨nI q, nI a, nI (s + c.length), nI w, nb', cd', wa', cH_no ((b40_sum hM hp c1 c2).trans ?_)⟩
        unfold md_readsCompared
        rw [z, mbm_s, ifb_t', m_here hM q2]
        simp only [mbv_s]
        rw [if_neg hn3.1, if_neg hn3.2.1, if_neg hn3.2.2]
        unfold md_readsCompared_j52
        rw [if_pos rfl, m_wrong, mbm_s, mbm_s, ifb_f', rM_39, fltM 1 q 1 rfl]
    have hqN : q < N := sg_lt hX (cS_m1 c3)
    have hx1 : ∀ (f : Int32) (st va : Nat → Int32), ∃ st' va', vs_LawReading_rec (n + 1) 2 (xM μ (nI p) f (nI s) st va) (nI a) = (mbm (vs_LawReading_rec n 3 (xM μ (nI (q + 1)) f (nI (s + c.length)) st' va') (nI a)) fun x10 μ11 => mbv (vs_Law_emit_sp μ11 (sg q) 0) fun μ13 => some (x10, μ13)) ∧ (∀ i, i < s → st' i = st i ∧ va' i = va i) ∧ AtL (fun k o => opX k o (st' k) (va' k)) s c := by
      intro f st va
      obtain ⟨st', va', z1, z2, z3⟩ := k1 f st va
      refine ⟨st', va', ?_, z2, z3⟩
      have j : vs_LawReading_readPiece_j124 (vs_LawReading_rec n) (xM μ (nI q) f (nI (s + c.length)) st' va') (nI a) (sg q) = mbm (vs_LawReading_rec n 3 (xM μ (nI (q + 1)) f (nI (s + c.length)) st' va') (nI a)) fun x10 μ11 => mbv (vs_Law_emit_sp μ11 (sg q) 0) fun μ13 => some (x10, μ13) := by
        unfold vs_LawReading_readPiece_j124
        rw [mst_s, xM_3, xMs3, nI_1]
      rw [hx0, z1, mbm_s, ifb_t', x_sign hX q2, mbv_s, j]
      rcases cS_cs (sg q) with ⟨h1, _⟩ | ⟨h1, _⟩ | ⟨h1, _⟩ | ⟨h1, _⟩
      · rw [if_pos h1]
      · rw [if_neg (by rw [h1]; decide), if_pos h1]
      · rw [if_neg (by rw [h1]; decide), if_neg (by rw [h1]; decide), if_pos h1]
      · exact absurd h1 c3
    have hm1 : ∀ (f : Int32) (w : Nat) (nb : Int32) (cd wa : Nat → Int32), noS (tpO wa w) → w ≤ p → ∃ nb' cd' wa', md_readsCompared (rM ν (nI p) f (nI a) (nI s) (nI w) nb cd wa) = (mbm (md_readsSum (rM ν (nI (q + 1)) f (nI a) (nI (s + c.length)) (nI w) nb' cd' wa')) fun x12 μ13 => if (bI x12) = 0 then some (false, μ13) else mbv (md_says μ13 (nI (cS (sg q))) 0) fun μ16 => mbv (md_endsPiece μ16) fun μ18 => some (true, μ18)) ∧ (∀ i, i < s → cd' i = cd i) ∧ (∀ i, i < w → wa' i = wa i) ∧ AtL (fun k o => cd' k = enc o) s c := by
      intro f w nb cd wa ht hw
      obtain ⟨nb', cd', wa', z, z2, z3, z4⟩ := k2 f w nb cd wa ht hw
      refine ⟨nb', cd', wa', ?_, z2, z3, z4⟩
      have j : ∀ y0 : Int32, y0 ≠ -1 → md_readsCompared_j52 (rM ν (nI q) f (nI a) (nI (s + c.length)) (nI w) nb' cd' wa') y0 = mbm (md_readsSum (rM ν (nI (q + 1)) f (nI a) (nI (s + c.length)) (nI w) nb' cd' wa')) fun x12 μ13 => if (bI x12) = 0 then some (false, μ13) else mbv (md_says μ13 y0 0) fun μ16 => mbv (md_endsPiece μ16) fun μ18 => some (true, μ18) := by
        intro y0 hy
        unfold md_readsCompared_j52
        rw [if_neg hy, mst_s, rM_39, rMs39, nI_1]
      unfold md_readsCompared
      rw [z, mbm_s, ifb_t', m_here hM q2]
      simp only [mbv_s]
      rcases cS_cs (sg q) with ⟨h1, h2⟩ | ⟨h1, h2⟩ | ⟨h1, h2⟩ | ⟨h1, _⟩
      · rw [if_pos h1, h2]; exact j 7 (by decide)
      · rw [if_neg (by rw [h1]; decide), if_pos h1, h2]; exact j 8 (by decide)
      · rw [if_neg (by rw [h1]; decide), if_neg (by rw [h1]; decide), if_pos h1, h2]; exact j 9 (by decide)
      · exact absurd h1 c3
    rcases sum_all hX hM (n := n) (a := a) (p := q + 1) (s := s + c.length) ha (by omega) (by omega) (by omega) with ⟨φ, l1, l2⟩ | ⟨q', d, r1, r2, r3, r5, l1, l2⟩
    · left
      refine ⟨φ, fun f st va => ?_, fun f w F nb cd wa ht h1 hw hF => ?_⟩
      · obtain ⟨st', va', z1, z2, z3⟩ := hx1 f st va
        obtain ⟨p', k', st2, va2, y1, y2⟩ := l1 f st' va'
        obtain ⟨s3, st3, va3, x1, x2⟩ := x_emitL (μ := μ) (p := p') (f := nI φ) (st := st2) (va := va2) (a1 := sg q) (a2 := 0) y1.1
        refine ⟨p', s3, st3, va3, ⟨x1, y1.2⟩, ?_⟩
        rw [z1, y2, mbm_s, x2, mbv_s]
      · obtain ⟨F2, rfl⟩ : ∃ F2, F = F2 + 1 := ⟨F - 1, by omega⟩
        obtain ⟨nb', cd', wa', z, z2, z3, z4⟩ := hm1 f w nb cd wa ht hw
        obtain ⟨p', o', k', w', nb2, cd2, wa2, y⟩ := l2 f w nb' cd' wa' (by rw [tpO_cong z3]; exact ht) (by omega)
        refine ⟨p', o', k', w', nb2, cd2, wa2, cH_no ?_⟩
        rw [b40_sum hM hp c1 c2, z, y, mbm_s, ifb_f', mbm_s, ifb_f']
    · right
      have hl : (c ++ d ++ [(cS (sg q), 0)]).length = c.length + d.length + 1 := len3 _ _ _
      have ho : cS (sg q) = 7 ∨ cS (sg q) = 8 ∨ cS (sg q) = 9 := by have := cS_cs (sg q); omega
      refine ⟨q', c ++ d ++ [(cS (sg q), 0)], by omega, r2, by omega, smC_cmp q5 r5 (by omega) (by omega) (by omega) ho, fun f st va => ?_, fun f w F nb cd wa ht h1 hw hF => ?_⟩
      · obtain ⟨st', va', z1, z2, z3⟩ := hx1 f st va
        obtain ⟨st2, va2, y1, y2, y3⟩ := l1 f st' va'
        refine ⟨upd st2 (s + c.length + d.length) (sg q), upd va2 (s + c.length + d.length) 0, ?_, fun j hj => ?_, AtL_app.mpr ⟨AtL_app.mpr ⟨AtL_mono (fun k o g1 g2 g3 => ?_) z3, AtL_mono (fun k o g1 g2 g3 => ?_) y3⟩, ?_, trivial⟩⟩
        · rw [z1, y1, mbm_s, x_emit (by omega), mbv_s, hl, show s + (c.length + d.length + 1) = s + c.length + d.length + 1 by omega]
        · rw [upd_n (by omega), upd_n (by omega), (y2 j (by omega)).1, (y2 j (by omega)).2]
          exact z2 j hj
        · show opX k o (upd st2 _ _ k) (upd va2 _ _ k)
          rw [upd_n (by omega), upd_n (by omega), (y2 k (by omega)).1, (y2 k (by omega)).2]
          exact g3
        · show opX k o (upd st2 _ _ k) (upd va2 _ _ k)
          rw [upd_n (by omega), upd_n (by omega)]
          exact g3
        · show opX (s + (c ++ d).length) _ (upd st2 _ _ (s + (c ++ d).length)) (upd va2 _ _ (s + (c ++ d).length))
          rw [List.length_append, ← Nat.add_assoc, upd_s, upd_s]
          exact cS_opX c3 _
      · obtain ⟨F2, rfl⟩ : ∃ F2, F = F2 + 1 := ⟨F - 1, by omega⟩
        obtain ⟨nb', cd', wa', z, z2, z3, z4⟩ := hm1 f w nb cd wa ht hw
        obtain ⟨nb2, cd2, wa2, y, y2, y3, y4⟩ := l2 f w nb' cd' wa' (by rw [tpO_cong z3]; exact ht) (by omega)
        refine ⟨FU, FU, F2, nb2, upd cd2 (s + c.length + d.length) (enc (cS (sg q), 0)), wa2, by omega, by omega, by omega, ?_, fun j hj => by rw [upd_n (by omega), y2 j (by omega), z2 j hj], fun j hj => by rw [y3 j hj, z3 j hj], AtL_app.mpr ⟨AtL_app.mpr ⟨AtL_mono (fun k o g1 g2 g3 => ?_) z4, AtL_mono (fun k o g1 g2 g3 => ?_) y4⟩, ?_, trivial⟩⟩
        · refine cH_cmp ?_
          rw [b40_sum hM hp c1 c2, z, y, mbm_s, ifb_t', m_says (by omega), mbv_s, enc_0, hl, show s + (c.length + d.length + 1) = s + c.length + d.length + 1 by omega]
        · show upd cd2 _ _ k = enc o
          rw [upd_n (by omega), y2 k (by omega)]
          exact g3
        · show upd cd2 _ _ k = enc o
          rw [upd_n (by omega)]
          exact g3
        · show upd cd2 _ _ (s + (c ++ d).length) = _
          rw [List.length_append, ← Nat.add_assoc, upd_s]
theorem lvC_all (hX : txX μ N sg) (hM : txM ν N sg) : ∀ n, Lv0 μ ν N sg n ∧ LvQ μ ν N sg n ∧ LvC μ ν N sg n
  | 0 => ⟨fun a p s ha hn => by omega, fun a p s ha hn => by omega, fun a p s ha hn => by omega⟩
  | n + 1 => by
    obtain ⟨h1, h2, h3⟩ := lvC_all hX hM n
    exact ⟨lv0_step hX hM h1 h3, lvQ_step hX hM (lvP_of hX h1), lvC_step hX hM h2⟩
end
