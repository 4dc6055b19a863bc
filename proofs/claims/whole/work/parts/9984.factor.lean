/-! reading a sum: the reference's loop, and a factor -/
def rFt (μ8 : Mm) : Option (Bool × Mm) :=
  mbv (md_isDigit μ8) <| fun x9 =>
  if (bI x9) = 0 then
    mbv (md_here μ8) <| fun x11 =>
    mbv (md_factOf x11) <| fun x12 =>
    if x12 = (-1) then
      mbm (md_wrong μ8 1 (μ8 0 39)) <| fun x17 μ18 =>
      some (x17, μ18)
    else
      mbv (md_says μ8 1 x12) <| fun μ15 =>
      mst μ15 0 39 ((μ15 0 39) + 1) <| fun μ16 =>
      some (true, μ16)
  else
    mbm (md_readsNumber μ8) <| fun x19 μ20 =>
    if (bI x19) = 0 then
      some (false, μ20)
    else
      mbv (md_says μ20 0 (μ20 0 46)) <| fun μ23 =>
      some (true, μ23)
def rF (G : Nat) (μ : Mm) : Option (Bool × Mm) := msum2 (miter (fun q => md_readsFactor_b0 q) G μ) (fun μ7 => some (false, μ7)) rFt
def kF (G F : Nat) (b : Int32) (μ : Mm) : Option (Mm ⊕ Mm) := mbm (rF G μ) fun x μ2 => if bI x = 0 then some (.inl μ2) else miter (fun q => md_readsSum_b14 q b) F μ2
def fiN (b : Int32) (r : Option (Mm ⊕ Mm)) : Option (Bool × Mm) := msum2 r (fun μ => some (false, μ)) (fun μ => md_readsSum_j138 μ b)
theorem m_readsSum (μ : Mm) : md_readsSum μ = fiN (μ 0 44) (kF FU FU (μ 0 44) μ) := by
  unfold md_readsSum fiN kF
  have e : md_readsFactor μ = rF FU μ := rfl
  rw [e]
  cases rF FU μ with
  | none => rfl
  | some q =>
    obtain ⟨x, u⟩ := q
    cases x <;> rfl
theorem kF_no {G F : Nat} {b : Int32} {μ u : Mm} (h : rF G μ = some (false, u)) : fiN b (kF G F b μ) = some (false, u) := by
  unfold kF fiN
  rw [h, mbm_s, ifb_f']
  rfl
theorem kF_yes {G F : Nat} {b : Int32} {μ u : Mm} (h : rF G μ = some (true, u)) : kF G F b μ = miter (fun q => md_readsSum_b14 q b) F u := by
  unfold kF
  rw [h, mbm_s, ifb_t']
theorem miter_mbm {f : Mm → Option (Mm ⊕ (Mm ⊕ Mm))} {q : Mm} {X : Option (Bool × Mm)} {F : Nat} (h : f q = mbm X fun x u => if bI x = 0 then some (.inr (.inl u)) else some (.inl u)) : miter f (F + 1) q = mbm X fun x u => if bI x = 0 then some (.inl u) else miter f F u := by
  cases X with
  | none => simp only [miter, h, mbm]
  | some r =>
    obtain ⟨x, u⟩ := r
    cases x
    · refine miter_r ?_
      rw [h, mbm_s, ifb_f']
    · rw [mbm_s, ifb_t']
      refine miter_l ?_ rfl
      rw [h, mbm_s, ifb_t']
section
variable {ν μ : Mm} {N : Nat} {sg : Nat → Int32} {f o nb : Int32} {cd wa : Nat → Int32}
theorem kF_open (hM : txM ν N sg) {p a w G F : Nat} {k b : Int32} (hp : p ≤ N) (ha : a < 6) (hw : w < 220) (h : sg p = 91) : kF (G + 1) F b (rM ν (nI p) f (nI a) k (nI w) nb cd wa) = kF G F b (rM ν (nI (p + 1)) f (nI (a + 1)) k (nI (w + 1)) nb cd (upd wa w (nI (1048576 * 14)))) := by
  unfold kF rF
  have e : miter (fun q => md_readsFactor_b0 q) (G + 1) (rM ν (nI p) f (nI a) k (nI w) nb cd wa) = miter (fun q => md_readsFactor_b0 q) G (rM ν (nI (p + 1)) f (nI (a + 1)) k (nI (w + 1)) nb cd (upd wa w (nI (1048576 * 14)))) := by
    refine miter_l ?_ rfl
    show md_readsFactor_b0 (rM ν (nI p) f (nI a) k (nI w) nb cd wa) = _
    unfold md_readsFactor_b0
    rw [m_here hM hp, mbv_s, if_pos h, m_opY ha hw, mbm_s, ifb_t']
    rfl
  rw [e]
theorem rF_full (hM : txM ν N sg) {p a G : Nat} {k w : Int32} (hp : p ≤ N) (ha : a = 6) (h : sg p = 91) : rF (G + 1) (rM ν (nI p) f (nI a) k w nb cd wa) = some (false, rM ν (nI p) (-(nI (5000 + p))) (nI a) k w nb cd wa) := by
  unfold rF
  have e : miter (fun q => md_readsFactor_b0 q) (G + 1) (rM ν (nI p) f (nI a) k w nb cd wa) = some (.inl (rM ν (nI p) (-(nI (5000 + p))) (nI a) k w nb cd wa)) := by
    refine miter_r ?_
    show md_readsFactor_b0 (rM ν (nI p) f (nI a) k w nb cd wa) = _
    unfold md_readsFactor_b0
    rw [m_here hM hp, mbv_s, if_pos h, m_opN ha, mbm_s, ifb_f']
  rw [e]
  rfl
theorem rF_t (hM : txM ν N sg) {p G : Nat} {k w o : Int32} (hp : p ≤ N) (h : ¬ sg p = 91) : rF (G + 1) (rM ν (nI p) f o k w nb cd wa) = rFt (rM ν (nI p) f o k w nb cd wa) := by
  unfold rF
  have e : miter (fun q => md_readsFactor_b0 q) (G + 1) (rM ν (nI p) f o k w nb cd wa) = some (.inr (rM ν (nI p) f o k w nb cd wa)) := by
    refine miter_r ?_
    show md_readsFactor_b0 (rM ν (nI p) f o k w nb cd wa) = _
    unfold md_readsFactor_b0
    rw [m_here hM hp, mbv_s, if_neg h]
  rw [e]
  rfl
theorem b14_close (hM : txM ν N sg) {q a s w b ad mu : Nat} (hq : q ≤ N) (hs : s + 2 ≤ 220) (hw : w + 3 ≤ 220) (hb : b ≤ w) (h : sg q = 93) (h14 : wa w = nI (1048576 * 14)) (hp : pdg wa (w + 1) ad mu) : ∃ cd', md_readsSum_b14 (rM ν (nI q) f (nI (a + 1)) (nI s) (nI (w + 1 + (pl ad).length + (pl mu).length)) nb cd wa) (nI b) = some (.inl (rM ν (nI (q + 1)) f (nI a) (nI (s + (pl mu ++ pl ad).length)) (nI w) nb cd' wa)) ∧ (∀ i, i < s → cd' i = cd i) ∧ AtL (fun k o => cd' k = enc o) s (pl mu ++ pl ad) := by
  have hl : (pl ad).length + (pl mu).length ≤ 2 := by
    unfold pl
    split <;> split <;> simp
  have ht : noS (tpO wa (w + 1)) := by
    rw [tpO_op h14 (by decide)]
    exact ⟨Or.inr (by decide), by decide, by decide⟩
  obtain ⟨cd', c1, c2, c3⟩ := m_close1 (ν := ν) (p := nI q) (f := f) (o := nI (a + 1)) (nb := nb) (cd := cd) hs (by omega) ht hp
  refine ⟨cd', ?_, c2, c3⟩
  unfold md_readsSum_b14
  rw [m_here hM hq, mbv_s, m_sumSign, h, mbv_s, if_pos (show (if sS 93 = 0 then (-1 : Int32) else nI (sS 93)) = -1 by decide), mbv_s, if_pos rfl, m_hosY (j := w) (by omega) hb (by omega) h14, mbv_s, ifb_t', c1, mbv_s, mst_s, rM_44, nI_pred, rMs44, mst_s, rM_42, nI_pred, rMs42, mst_s, rM_39, rMs39, nI_1]
theorem b14_end (hM : txM ν N sg) {q w b : Nat} {k : Int32} (hq : q ≤ N) (h : sS (sg q) = 0) (h2 : ¬ sg q = 93 ∨ md_hasOpenSum (rM ν (nI q) f o k (nI w) nb cd wa) (nI b) = some false) : md_readsSum_b14 (rM ν (nI q) f o k (nI w) nb cd wa) (nI b) = some (.inr (.inr (rM ν (nI q) f o k (nI w) nb cd wa))) := by
  unfold md_readsSum_b14
  rw [m_here hM hq, mbv_s, m_sumSign, h, mbv_s, if_pos (show (if 0 = 0 then (-1 : Int32) else nI 0) = -1 from rfl), mbv_s]
  by_cases c : sg q = 93
  · rcases h2 with h2 | h2
    · exact absurd c h2
    · rw [if_pos c, h2, mbv_s, ifb_f']
  · rw [if_neg c]
theorem enc_w {m : Nat} : (1048576 : Int32) * nI m = nI (1048576 * m) := by
  rw [show (1048576 : Int32) = nI 1048576 from rfl, pk_mul]
theorem b14_mul (hM : txM ν N sg) {q a s w b mu F : Nat} (hq : q < N) (hs : s + 2 ≤ 220) (hw : w + 3 ≤ 220) (h : 4 ≤ sS (sg q)) (ht : noM (tpO wa w)) (hp : pdg wa w 0 mu) : ∃ cd', miter (fun z => md_readsSum_b14 z (nI b)) (F + 1) (rM ν (nI q) f (nI a) (nI s) (nI (w + (pl mu).length)) nb cd wa) = kF FU F (nI b) (rM ν (nI (q + 1)) f (nI a) (nI (s + (pl mu).length)) (nI (w + 1)) nb cd' (upd wa w (nI (1048576 * sS (sg q))))) ∧ (∀ i, i < s → cd' i = cd i) ∧ AtL (fun k o => cd' k = enc o) s (pl mu) := by
  obtain ⟨cd', c1, c2, c3⟩ := m_close0 (ν := ν) (p := nI q) (f := f) (o := nI a) (nb := nb) (cd := cd) hs (by omega) ht hp
  refine ⟨cd', ?_, c2, c3⟩
  unfold kF
  refine miter_mbm ?_
  show md_readsSum_b14 (rM ν (nI q) f (nI a) (nI s) (nI (w + (pl mu).length)) nb cd wa) (nI b) = _
  have h6 : sS (sg q) ≤ 6 := by
    unfold sS
    repeat (first | split | omega)
  unfold md_readsSum_b14 md_readsSum_j38
  rw [m_here hM (by omega), mbv_s, m_sumSign, mbv_s, if_neg (show ¬ (sS (sg q) = 0) by omega), if_neg (nI_m1 (by omega)), if_pos (show (4 : Int32) ≤ nI (sS (sg q)) from nI_le (a := 4) h (by omega)), c1, mbv_s, rM_44, mwr_nI (by omega) (by decide), rMs32, mst_s, rM_44, rMs44, mst_s, rM_39, rMs39, nI_1, nI_1, enc_w]
  rfl
theorem b14_add (hM : txM ν N sg) {q a s w b ad mu F : Nat} (hq : q < N) (hs : s + 2 ≤ 220) (hw : w + 3 ≤ 220) (h : sS (sg q) = 2 ∨ sS (sg q) = 3) (ht : noS (tpO wa w)) (hp : pdg wa w ad mu) : ∃ cd', miter (fun z => md_readsSum_b14 z (nI b)) (F + 1) (rM ν (nI q) f (nI a) (nI s) (nI (w + (pl ad).length + (pl mu).length)) nb cd wa) = kF FU F (nI b) (rM ν (nI (q + 1)) f (nI a) (nI (s + (pl mu ++ pl ad).length)) (nI (w + 1)) nb cd' (upd wa w (nI (1048576 * sS (sg q))))) ∧ (∀ i, i < s → cd' i = cd i) ∧ AtL (fun k o => cd' k = enc o) s (pl mu ++ pl ad) := by
  obtain ⟨cd', c1, c2, c3⟩ := m_close1 (ν := ν) (p := nI q) (f := f) (o := nI a) (nb := nb) (cd := cd) hs (by omega) ht hp
  refine ⟨cd', ?_, c2, c3⟩
  unfold kF
  refine miter_mbm ?_
  show md_readsSum_b14 (rM ν (nI q) f (nI a) (nI s) (nI (w + (pl ad).length + (pl mu).length)) nb cd wa) (nI b) = _
  unfold md_readsSum_b14 md_readsSum_j38
  rw [m_here hM (by omega), mbv_s, m_sumSign, mbv_s, if_neg (show ¬ (sS (sg q) = 0) by omega), if_neg (nI_m1 (by omega)), if_neg (show ¬ ((4 : Int32) ≤ nI (sS (sg q))) from nI_ge (b := 4) (by omega) (by decide)), c1, mbv_s, rM_44, mwr_nI (by omega) (by decide), rMs32, mst_s, rM_44, rMs44, mst_s, rM_39, rMs39, nI_1, nI_1, enc_w]
  rfl
end
def xNo (μ : Mm) (φ : Nat) (r : Option (Bool × Mm)) : Prop := ∃ p k st va, (k ≤ 200 ∧ 0 < φ ∧ φ < 10000) ∧ r = some (false, xM μ p (nI φ) (nI k) st va)
def xOk (μ : Mm) (f : Int32) (s : Nat) (st va : Nat → Int32) (q : Nat) (c : List (Nat × Nat)) (r : Option (Bool × Mm)) : Prop := ∃ st' va', r = some (true, xM μ (nI q) f (nI (s + c.length)) st' va') ∧ (∀ i, i < s → st' i = st i ∧ va' i = va i) ∧ AtL (fun k o => opX k o (st' k) (va' k)) s c
def mNo (ν : Mm) (φ : Nat) (r : Option (Bool × Mm)) : Prop := ∃ p o k w nb cd wa, r = some (false, rM ν p (-(nI φ)) o k w nb cd wa)
def mOk (ν : Mm) (P : Nat → Nat → Prop) (f : Int32) (a p s w b F : Nat) (cd wa : Nat → Int32) (q : Nat) (c : List (Nat × Nat)) (r : Option (Mm ⊕ Mm)) : Prop := ∃ F' ad mu c0 nb' cd' wa', F ≤ F' + (q - p) ∧ r = miter (fun z => md_readsSum_b14 z (nI b)) F' (rM ν (nI q) f (nI a) (nI (s + c0.length)) (nI (w + (pl ad).length + (pl mu).length)) nb' cd' wa') ∧ P ad mu ∧ pdg wa' w ad mu ∧ c = c0 ++ (pl mu ++ pl ad) ∧ (∀ i, i < s → cd' i = cd i) ∧ (∀ i, i < w → wa' i = wa i) ∧ AtL (fun k o => cd' k = enc o) s c0
def Lev (μ ν : Mm) (N : Nat) (sg : Nat → Int32) (n j h : Nat) (P : Nat → Nat → Prop) (T E : Int32 → Prop) (D : Nat) : Prop := ∀ a p s, a ≤ 6 → 3 * (7 - a) ≤ n + h → s ≤ p → p ≤ N → (∃ φ, (∀ f st va, xNo μ φ (vs_LawReading_rec n j (xM μ (nI p) f (nI s) st va) (nI a))) ∧ ∀ f w b G F nb cd wa, T (tpO wa w) → b ≤ w → w ≤ p → 8 ≤ G + a → 400 ≤ F + p → mNo ν φ (fiN (nI b) (kF G F (nI b) (rM ν (nI p) f (nI a) (nI s) (nI w) nb cd wa)))) ∨ ∃ q c, p < q ∧ q ≤ N ∧ c.length ≤ q - p ∧ E (sg q) ∧ smE (D + 2 * (6 - a)) s c ∧ (∀ f st va, xOk μ f s st va q c (vs_LawReading_rec n j (xM μ (nI p) f (nI s) st va) (nI a))) ∧ ∀ f w b G F nb cd wa, T (tpO wa w) → b ≤ w → w ≤ p → 8 ≤ G + a → 400 ≤ F + p → mOk ν P f a p s w b F cd wa q c (kF G F (nI b) (rM ν (nI p) f (nI a) (nI s) (nI w) nb cd wa))
def LvF (μ ν : Mm) (N : Nat) (sg : Nat → Int32) (n : Nat) : Prop := Lev μ ν N sg n 5 2 (fun ad mu => ad = 0 ∧ mu = 0) (fun _ => True) (fun _ => True) 2
def LvT (μ ν : Mm) (N : Nat) (sg : Nat → Int32) (n : Nat) : Prop := Lev μ ν N sg n 4 1 (fun ad _ => ad = 0) noM (fun x => sS x < 4) 3
def LvS (μ ν : Mm) (N : Nat) (sg : Nat → Int32) (n : Nat) : Prop := Lev μ ν N sg n 3 0 (fun _ _ => True) noS (fun x => sS x = 0) 4
section
variable {ν μ : Mm} {N : Nat} {sg : Nat → Int32}
theorem lvF_step (hX : txX μ N sg) (hM : txM ν N sg) {n : Nat} (hS : LvS μ ν N sg n) : LvF μ ν N sg (n + 1) := by
  intro a p s ha hn hs hp
  have hN := hX.2.1
  have un : ∀ M : Mm, vs_LawReading_rec (n + 1) 5 M (nI a) = vs_LawReading_readFactor_r (vs_LawReading_rec n) M (nI a) := fun _ => rfl
  by_cases c1 : sg p = 91
  · have hpN : p < N := sg_lt hX (by rw [c1]; decide)
    by_cases c2 : a = 6
    · left
      refine ⟨5000 + p, fun f st va => ⟨nI p, s, st, va, by omega, ?_⟩, fun f w b G F nb cd wa _ hb hw hG hF => ?_⟩
      · rw [un]
        unfold vs_LawReading_readFactor_r
        rw [x_sign hX hp, mbv_s, if_pos c1, x_openN c2, mbm_s, ifb_f']
      · obtain ⟨G', rfl⟩ : ∃ G', G = G' + 1 := ⟨G - 1, by omega⟩
        exact ⟨_, _, _, _, _, _, _, kF_no (rF_full hM hp c2 c1)⟩
    have ha6 : a < 6 := by omega
    have hx0 : ∀ (f : Int32) (st va : Nat → Int32), vs_LawReading_rec (n + 1) 5 (xM μ (nI p) f (nI s) st va) (nI a) = mbm (vs_LawReading_rec n 3 (xM μ (nI (p + 1)) f (nI s) st va) (nI (a + 1))) fun x17 μ18 => if (bI x17) = 0 then some (false, μ18) else mbm (vs_LawReading_expect μ18 93) fun x20 μ21 => if (bI x20) = 0 then some (false, μ21) else some (true, μ21) := by
      intro f st va
      rw [un]
      unfold vs_LawReading_readFactor_r
      rw [x_sign hX hp, mbv_s, if_pos c1, x_openY ha6, mbm_s, ifb_t', nI_1]
    have ht14 : ∀ (wa : Nat → Int32) (w : Nat), noS (tpO (upd wa w (nI (1048576 * 14))) (w + 1)) := fun wa w => by
      rw [tpO_op (m := 14) (upd_s _ _ _) (by decide)]
      exact ⟨Or.inr (by decide), by decide, by decide⟩
    rcases hS (a + 1) (p + 1) s (by omega) (by omega) (by omega) (by omega) with ⟨φ, k1, k2⟩ | ⟨q, c, q1, q2, q3, q4, q5, k1, k2⟩
    · left
      refine ⟨φ, fun f st va => ?_, fun f w b G F nb cd wa _ hb hw hG hF => ?_⟩
      · obtain ⟨p', k', st', va', z1, z2⟩ := k1 f st va
        refine ⟨p', k', st', va', z1, ?_⟩
        rw [hx0, z2, mbm_s, ifb_f']
      · obtain ⟨G', rfl⟩ : ∃ G', G = G' + 1 := ⟨G - 1, by omega⟩
        rw [kF_open hM hp ha6 (by omega) c1]
        exact k2 f (w + 1) b G' F nb cd _ (ht14 wa w) (by omega) (by omega) (by omega) (by omega)
    · by_cases c3 : sg q = 93
      · have hqN : q < N := sg_lt hX (by rw [c3]; decide)
        right
        refine ⟨q + 1, c, by omega, by omega, by omega, trivial, smE_up q5 (by omega), fun f st va => ?_, fun f w b G F nb cd wa _ hb hw hG hF => ?_⟩
        · obtain ⟨st', va', z1, z2, z3⟩ := k1 f st va
          refine ⟨st', va', ?_, z2, z3⟩
          rw [hx0, z1, mbm_s, ifb_t', x_expY hX q2 c3, mbm_s, ifb_t']
        · obtain ⟨G', rfl⟩ : ∃ G', G = G' + 1 := ⟨G - 1, by omega⟩
          rw [kF_open hM hp ha6 (by omega) c1]
          obtain ⟨F', ad, mu, c0, nb', cd', wa', e1, e2, _, e4, e5, e6, e7, e8⟩ := k2 f (w + 1) b G' F nb cd _ (ht14 wa w) (by omega) (by omega) (by omega) (by omega)
          have hlen : c.length = c0.length + (pl mu ++ pl ad).length := by rw [e5, List.length_append]
          have h14 : wa' w = nI (1048576 * 14) := by rw [e7 w (by omega), upd_s]
          obtain ⟨cd2, y1, y2, y3⟩ := b14_close (f := f) (a := a) (b := b) (nb := nb') (cd := cd') hM q2 (s := s + c0.length) (w := w) (by omega) (by omega) hb c3 h14 e4
          obtain ⟨F2, rfl⟩ : ∃ F2, F' = F2 + 1 := ⟨F' - 1, by omega⟩
          refine ⟨F2, 0, 0, c, nb', cd2, wa', by omega, ?_, ⟨rfl, rfl⟩, ⟨Or.inl rfl, Or.inl rfl⟩, by rw [pl_0, List.append_nil, List.append_nil], fun i hi => by rw [y2 i (by omega), e6 i hi], fun i hi => by rw [e7 i (by omega), upd_n (by omega)], ?_⟩
          · rw [e2]
            refine miter_l y1 ?_
            rw [show s + c0.length + (pl mu ++ pl ad).length = s + c.length by omega]
            rfl
          · rw [e5]
            refine AtL_app.mpr ⟨AtL_mono (fun k o h1 h2 h3 => ?_) e8, y3⟩
            show cd2 k = enc o
            rw [y2 k h2]; exact h3
      · left
        refine ⟨1000 + q, fun f st va => ?_, fun f w b G F nb cd wa _ hb hw hG hF => ?_⟩
        · obtain ⟨st', va', z1, z2, z3⟩ := k1 f st va
          refine ⟨nI q, s + c.length, st', va', by omega, ?_⟩
          rw [hx0, z1, mbm_s, ifb_t', x_expN hX q2 c3, mbm_s, ifb_f']
        · obtain ⟨G', rfl⟩ : ∃ G', G = G' + 1 := ⟨G - 1, by omega⟩
          rw [kF_open hM hp ha6 (by omega) c1]
          obtain ⟨F', ad, mu, c0, nb', cd', wa', e1, e2, _, e4, e5, e6, e7, e8⟩ := k2 f (w + 1) b G' F nb cd _ (ht14 wa w) (by omega) (by omega) (by omega) (by omega)
          have h14 : wa' w = nI (1048576 * 14) := by rw [e7 w (by omega), upd_s]
          obtain ⟨F2, rfl⟩ : ∃ F2, F' = F2 + 1 := ⟨F' - 1, by omega⟩
          have hl : (pl ad).length + (pl mu).length ≤ 2 := by
            unfold pl
            split <;> split <;> simp
          rw [e2, miter_r (b14_end hM q2 q4 (Or.inl c3))]
          show mNo ν (1000 + q) (md_readsSum_j138 _ (nI b))
          unfold md_readsSum_j138
          rw [m_hosY (j := w) (by omega) hb (by omega) h14, mbv_s, ifb_t', m_wrong, mbm_s, rM_39, fltM 1 q 1 rfl]
          exact ⟨_, _, _, _, _, _, _, rfl⟩
  · by_cases c2 : wi (sg p) 48 57 = true
    · have hpN : p < N := sg_lt hX (fun z => by rw [z] at c2; revert c2; decide)
      have hx0 : ∀ (f : Int32) (st va : Nat → Int32), vs_LawReading_rec (n + 1) 5 (xM μ (nI p) f (nI s) st va) (nI a) = vs_LawReading_readNumber (xM μ (nI p) f (nI s) st va) := by
        intro f st va
        rw [un]
        unfold vs_LawReading_readFactor_r
        rw [x_sign hX hp, mbv_s, if_neg c1, x_isDigit, mbv_s, ifb_t c2]
        cases vs_LawReading_readNumber (xM μ (nI p) f (nI s) st va) <;> rfl
      rcases num_all (s := s) hX hM hp (by omega) c2 with ⟨φ, hφ, k1, k2⟩ | ⟨q, v, q1, q2, q3, k1, k2⟩
      · left
        refine ⟨φ, fun f st va => ⟨_, s, _, _, by omega, by rw [hx0, k1]⟩, fun f w b G F nb cd wa _ hb hw hG hF => ?_⟩
        obtain ⟨G', rfl⟩ : ∃ G', G = G' + 1 := ⟨G - 1, by omega⟩
        obtain ⟨nb', z⟩ := k2 f (nI a) (nI s) (nI w) nb cd wa
        refine ⟨nI (p + 5), nI a, nI s, nI w, nb', cd, wa, kF_no ((rF_t hM hp c1).trans ?_)⟩
        unfold rFt
        rw [m_isDigit hM hp, mbv_s, ifb_t c2, z, mbm_s, ifb_f']
      · right
        refine ⟨q, [(0, v)], q1, q2, by simp only [List.length_cons, List.length_nil]; omega, trivial, smE_num (by omega), fun f st va => ⟨_, _, by rw [hx0, k1]; rfl, fun i hi => ⟨upd_n (by omega), upd_n (by omega)⟩, ⟨?_, trivial⟩⟩, fun f w b G F nb cd wa _ hb hw hG hF => ?_⟩
        · show opX s (0, v) (upd st s 0 s) (upd va s (nI v) s)
          rw [upd_s, upd_s]
          exact ⟨rfl, by show v < 1048576; omega, Or.inl ⟨rfl, rfl, rfl⟩⟩
        · obtain ⟨G', rfl⟩ : ∃ G', G = G' + 1 := ⟨G - 1, by omega⟩
          refine ⟨F, 0, 0, [(0, v)], nI v, upd cd s (enc (0, v)), wa, by omega, kF_yes ((rF_t hM hp c1).trans ?_), ⟨rfl, rfl⟩, ⟨Or.inl rfl, Or.inl rfl⟩, rfl, fun i hi => upd_n (by omega), fun i hi => rfl, upd_s _ _ _, trivial⟩
          unfold rFt
          rw [m_isDigit hM hp, mbv_s, ifb_t c2, k2, mbm_s, ifb_t', rM_46, m_says (by omega), mbv_s]
          show some (true, rM ν (nI q) f (nI a) (nI (s + 1)) (nI w) (nI v) (upd cd s (1048576 * 0 + nI v)) wa) = _
          rw [show (1048576 * 0 + nI v : Int32) = enc (0, v) from by rw [show (1048576 * 0 : Int32) = nI (1048576 * 0) from rfl, nI_add]; rfl]
          rfl
    · rcases fact_all (sg p) with ⟨w0, w1, w2, w3, w4⟩ | ⟨w3, w4⟩
      · have hpN : p < N := sg_lt hX (by
          rw [w2]
          have : ∀ w, w < 12 → nI (lch w) ≠ -1 := by decide
          exact this w0 w1)
        right
        refine ⟨p + 1, [(1, w0)], by omega, by omega, by simp only [List.length_cons, List.length_nil]; omega, trivial, smE_let (by omega), fun f st va => ⟨upd st s 1, upd va s (sg p), ?_, fun i hi => ⟨upd_n (by omega), upd_n (by omega)⟩, ⟨?_, trivial⟩⟩, fun f w b G F nb cd wa _ hb hw hG hF => ?_⟩
        · rw [un]
          unfold vs_LawReading_readFactor_r
          rw [x_sign hX hp, mbv_s, if_neg c1, x_isDigit, mbv_s, ifb_f c2, w3, mbv_s, ifb_t', mst_s, xM_3, xMs3, x_emit (by omega), mbv_s, nI_1]
          rfl
        · show opX s (1, w0) (upd st s 1 s) (upd va s (sg p) s)
          rw [upd_s, upd_s]
          exact ⟨rfl, by show w0 < 1048576; omega, Or.inr (Or.inl ⟨rfl, rfl, w2, w1⟩)⟩
        · obtain ⟨G', rfl⟩ : ∃ G', G = G' + 1 := ⟨G - 1, by omega⟩
          refine ⟨F, 0, 0, [(1, w0)], nb, upd cd s (enc (1, w0)), wa, by omega, kF_yes ((rF_t hM hp c1).trans ?_), ⟨rfl, rfl⟩, ⟨Or.inl rfl, Or.inl rfl⟩, rfl, fun i hi => upd_n (by omega), fun i hi => rfl, upd_s _ _ _, trivial⟩
          unfold rFt
          rw [m_isDigit hM hp, mbv_s, ifb_f c2, m_here hM hp, mbv_s, w4, mbv_s, if_neg (nI_m1 (by omega)), m_says (by omega), mbv_s, mst_s, rM_39, rMs39, nI_1]
          show some (true, rM ν (nI (p + 1)) f (nI a) (nI (s + 1)) (nI w) nb (upd cd s (1048576 * 1 + nI w0)) wa) = _
          rw [show (1048576 * 1 + nI w0 : Int32) = enc (1, w0) from by rw [show (1048576 * 1 : Int32) = nI (1048576 * 1) from rfl, nI_add]; rfl]
          rfl
      · left
        refine ⟨1000 + p, fun f st va => ⟨nI p, s, st, va, by omega, ?_⟩, fun f w b G F nb cd wa _ hb hw hG hF => ?_⟩
        · rw [un]
          unfold vs_LawReading_readFactor_r
          rw [x_sign hX hp, mbv_s, if_neg c1, x_isDigit, mbv_s, ifb_f c2, w3, mbv_s, ifb_f', x_fail, mbm_s, flt 1 p 1 rfl]
        · obtain ⟨G', rfl⟩ : ∃ G', G = G' + 1 := ⟨G - 1, by omega⟩
          refine ⟨nI p, nI a, nI s, nI w, nb, cd, wa, kF_no ((rF_t hM hp c1).trans ?_)⟩
          unfold rFt
          rw [m_isDigit hM hp, mbv_s, ifb_f c2, m_here hM hp, mbv_s, w4, mbv_s, if_pos rfl, m_wrong, mbm_s, rM_39, fltM 1 p 1 rfl]
end
