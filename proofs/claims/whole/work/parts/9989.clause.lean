/-! reading a law: a clause -/
section
variable {μ ν : Mm} {N : Nat} {sg : Nat → Int32}
theorem absX_xM {p f k : Int32} {st va : Nat → Int32} : absX (xM μ p f k st va) = absX μ := by
  funext c i
  unfold absX xM
  by_cases z1 : c = 77
  · subst z1; rfl
  · by_cases z2 : c = 11
    · subst z2; rfl
    · by_cases z3 : c = 70
      · subst z3; rfl
      · by_cases z4 : c = 71
        · subst z4; rfl
        · rw [if_neg z1, if_neg z2, if_neg z3, if_neg z4]
theorem absM_rM {p f o k w nb : Int32} {cd wa : Nat → Int32} : absM (rM ν p f o k w nb cd wa) = absM ν := by
  funext c i
  unfold absM rM
  by_cases z1 : c = 0
  · subst z1
    show (if pMf i = true then (if i = 39 then p else if i = 41 then f else if i = 42 then o else if i = 43 then k else if i = 44 then w else if i = 46 then nb else ν 0 i) else 0) = if pMf i = true then ν 0 i else 0
    by_cases y1 : i = 39
    · subst y1; rfl
    by_cases y2 : i = 41
    · subst y2; rfl
    by_cases y3 : i = 42
    · subst y3; rfl
    by_cases y4 : i = 43
    · subst y4; rfl
    by_cases y5 : i = 44
    · subst y5; rfl
    by_cases y6 : i = 46
    · subst y6; rfl
    rw [if_neg y1, if_neg y2, if_neg y3, if_neg y4, if_neg y5, if_neg y6]
  · by_cases z2 : c = 31
    · subst z2; rfl
    · by_cases z3 : c = 32
      · subst z3; rfl
      · rw [if_neg z1, if_neg z2, if_neg z3]
theorem xM_b {p f k v : Int32} {st va : Nat → Int32} {c i : Nat} (h1 : c ≠ 77) (h2 : c ≠ 11) (h3 : c ≠ 70) (h4 : c ≠ 71) : mset (xM μ p f k st va) c i v = xM (mset μ c i v) p f k st va := by
  funext c' j
  by_cases e : c' = c
  · subst e
    by_cases e2 : j = i
    · subst e2; rw [mset_s]; simp [xM, h1, h2, h3, h4, mset_s]
    · rw [mset_n e2]; simp [xM, h1, h2, h3, h4, mset_n e2]
  · rw [mset_o e]
    have e77 : mset μ c i v 77 = μ 77 := mset_o (fun z => h1 z.symm)
    have e11 : mset μ c i v 11 = μ 11 := mset_o (fun z => h2 z.symm)
    simp [xM, e77, e11, mset_o e]
theorem xM_b8 {p f k v : Int32} {st va : Nat → Int32} : mset (xM μ p f k st va) 11 8 v = xM (mset μ 11 8 v) p f k st va := by
  funext c' j
  by_cases e : c' = 11
  · subst e
    by_cases e2 : j = 8
    · subst e2; rw [mset_s]; simp [xM, mset_s]
    · rw [mset_n e2]; simp [xM, mset_n e2]
  · rw [mset_o e]
    have e77 : mset μ 11 8 v 77 = μ 77 := mset_o (by decide)
    simp [xM, e77, mset_o e, e]
theorem rM_b {p f o k w nb v : Int32} {cd wa : Nat → Int32} {c i : Nat} (h1 : c ≠ 0) (h2 : c ≠ 31) (h3 : c ≠ 32) : mset (rM ν p f o k w nb cd wa) c i v = rM (mset ν c i v) p f o k w nb cd wa := by
  funext c' j
  by_cases e : c' = c
  · subst e
    by_cases e2 : j = i
    · subst e2; rw [mset_s]; simp [rM, h1, h2, h3, mset_s]
    · rw [mset_n e2]; simp [rM, h1, h2, h3, mset_n e2]
  · rw [mset_o e]
    have e0 : mset ν c i v 0 = ν 0 := mset_o (fun z => h1 z.symm)
    simp [rM, e0, mset_o e]
theorem rM_b45 {p f o k w nb v : Int32} {cd wa : Nat → Int32} : mset (rM ν p f o k w nb cd wa) 0 45 v = rM (mset ν 0 45 v) p f o k w nb cd wa := by
  funext c' j
  by_cases e : c' = 0
  · subst e
    by_cases e2 : j = 45
    · subst e2; rw [mset_s]; simp [rM, mset_s]
    · rw [mset_n e2]; simp [rM, mset_n e2]
  · rw [mset_o e]
    simp [rM, mset_o e, e]
theorem noS_0 (wa : Nat → Int32) : noS (tpO wa 0) := by
  rw [show tpO wa 0 = -1 from rfl]
  exact ⟨Or.inl (by decide), by decide, by decide⟩
def xCond (M : Mm) : Option (Bool × Mm) := mbm (vs_LawReading_expect M 40) fun x11 μ12 => if (bI x11) = 0 then some (false, μ12) else mbm (vs_LawReading_rec RF 0 μ12 1) fun x14 μ15 => if (bI x14) = 0 then some (false, μ15) else mbm (vs_LawReading_expect μ15 41) fun x17 μ18 => if (bI x17) = 0 then some (false, μ18) else some (true, μ18)
theorem xc_eq (M : Mm) (K : Mm → Option (Bool × Mm)) : (mbm (vs_LawReading_expect M 40) fun x11 μ12 => if (bI x11) = 0 then some (false, μ12) else mbm (vs_LawReading_rec RF 0 μ12 1) fun x14 μ15 => if (bI x14) = 0 then some (false, μ15) else mbm (vs_LawReading_expect μ15 41) fun x17 μ18 => if (bI x17) = 0 then some (false, μ18) else K μ18) = mbm (xCond M) fun x u => if (bI x) = 0 then some (false, u) else K u := by
  unfold xCond
  cases vs_LawReading_expect M 40 with
  | none => rfl
  | some r =>
    obtain ⟨x, u⟩ := r
    cases x
    · rw [mbm_s, mbm_s, ifb_f', ifb_f', mbm_s, ifb_f']
    · rw [mbm_s, mbm_s, ifb_t', ifb_t']
      cases vs_LawReading_rec RF 0 u 1 with
      | none => rfl
      | some r =>
        obtain ⟨x, u⟩ := r
        cases x
        · rw [mbm_s, mbm_s, ifb_f', ifb_f', mbm_s, ifb_f']
        · rw [mbm_s, mbm_s, ifb_t', ifb_t']
          cases vs_LawReading_expect u 41 with
          | none => rfl
          | some r =>
            obtain ⟨x, u⟩ := r
            cases x
            · rw [mbm_s, mbm_s, ifb_f', ifb_f', mbm_s, ifb_f']
            · rw [mbm_s, mbm_s, ifb_t', ifb_t', mbm_s, ifb_t']
theorem cond_all (hX : txX μ N sg) (hM : txM ν N sg) {p s : Nat} (hs : s ≤ p) (hp : p ≤ N) : (∃ φ, (∀ f st va, xNo μ φ (xCond (xM μ (nI p) f (nI s) st va))) ∧ ∀ f o w nb cd wa, mNo ν φ (md_readsCondition (rM ν (nI p) f o (nI s) w nb cd wa))) ∨ ∃ q c, p < q ∧ q ≤ N ∧ c.length ≤ q - p ∧ smC 16 s c ∧ (∀ f st va, xOk μ f s st va q c (xCond (xM μ (nI p) f (nI s) st va))) ∧ ∀ f o w nb cd wa, ∃ o' w' nb' cd' wa', md_readsCondition (rM ν (nI p) f o (nI s) w nb cd wa) = some (true, rM ν (nI q) f o' (nI (s + c.length)) w' nb' cd' wa') ∧ (∀ i, i < s → cd' i = cd i) ∧ AtL (fun k o => cd' k = enc o) s c := by
  have hN := hX.2.1
  have hFU : 1000 < FU := by unfold FU; omega
  by_cases c1 : ¬ sg p = 40
  · left
    refine ⟨1000 + p, fun f st va => ⟨nI p, s, st, va, by omega, ?_⟩, fun f o w nb cd wa => ⟨nI p, o, nI s, w, nb, cd, wa, ?_⟩⟩
    · unfold xCond
      rw [x_expN hX hp c1, mbm_s, ifb_f']
    · unfold md_readsCondition
      rw [m_here hM hp, mbv_s, if_neg c1, m_wrong, mbm_s, rM_39, fltM 1 p 1 rfl]
  rw [Classical.not_not] at c1
  have hpN : p < N := sg_lt hX (by rw [c1]; decide)
  have hx0 : ∀ (f : Int32) (st va : Nat → Int32), xCond (xM μ (nI p) f (nI s) st va) = mbm (vs_LawReading_rec RF 0 (xM μ (nI (p + 1)) f (nI s) st va) (nI 1)) fun x14 μ15 => if (bI x14) = 0 then some (false, μ15) else mbm (vs_LawReading_expect μ15 41) fun x17 μ18 => if (bI x17) = 0 then some (false, μ18) else some (true, μ18) := by
    intro f st va
    unfold xCond
    rw [x_expY hX hp c1, mbm_s, ifb_t']
    rfl
  have hm0 : ∀ (f o w nb : Int32) (cd wa : Nat → Int32), md_readsCondition (rM ν (nI p) f o (nI s) w nb cd wa) = cFin (cH FU (rM ν (nI (p + 1)) f (nI 1) (nI s) (nI 1) nb cd (upd wa 0 (nI (1048576 * 13))))) := by
    intro f o w nb cd wa
    have e : md_opens (rM ν (nI p) f 0 (nI s) 0 nb cd wa) 13 = some (true, rM ν (nI (p + 1)) f (nI 1) (nI s) (nI 1) nb cd (upd wa 0 (nI (1048576 * 13)))) := m_opY (a := 0) (wn := 0) (by decide) (by decide)
    unfold md_readsCondition
    rw [m_here hM hp, mbv_s, if_pos c1, mst_s, rMs42, mst_s, rMs44, e, mbm_s, ifb_t']
    rfl
  have ht13 : ∀ wa : Nat → Int32, wa 0 = nI (1048576 * 13) → noS (tpO wa 1) ∧ tpO wa 1 ≠ 10 ∧ tpO wa 1 ≠ 11 ∧ tpO wa 1 ≠ 12 := fun wa e => by
    have e1 : tpO wa 1 = nI 13 := tpO_op (w := 0) (m := 13) e (by decide)
    rw [e1]
    exact ⟨noS_n (by decide) (by decide), by decide, by decide, by decide⟩
  rcases (lvC_all hX hM RF).2.2 1 (p + 1) s (by omega) (by unfold RF; omega) (by omega) (by omega) with ⟨φ, k1, k2⟩ | ⟨q, c, q1, q2, q3, q4, q5, k1, k2⟩
  · left
    refine ⟨φ, fun f st va => ?_, fun f o w nb cd wa => ?_⟩
    · obtain ⟨p', k', st', va', z1, z2⟩ := k1 f st va
      refine ⟨p', k', st', va', z1, ?_⟩
      rw [hx0, z2, mbm_s, ifb_f']
    · rw [hm0]
      exact k2 f 1 FU nb cd _ (ht13 _ (upd_s _ _ _)) (Nat.le_refl _) (by omega) (by omega)
  · by_cases c4 : sg q = 41
    · have hqN : q < N := sg_lt hX (by rw [c4]; decide)
      right
      refine ⟨q + 1, c, by omega, by omega, by omega, q5, fun f st va => ?_, fun f o w nb cd wa => ?_⟩
      · obtain ⟨st', va', z1, z2, z3⟩ := k1 f st va
        refine ⟨st', va', ?_, z2, z3⟩
        rw [hx0, z1, mbm_s, ifb_t', x_expY hX q2 c4, mbm_s, ifb_t']
      · obtain ⟨G', F', ji, jn, nb', cd', wa', e1, e2, e3, _, e5, e6, e7, e8⟩ := k2 f 1 FU nb cd (upd wa 0 (nI (1048576 * 13))) (ht13 _ (upd_s _ _ _)) (Nat.le_refl _) (by omega) (by omega)
        obtain ⟨G2, rfl⟩ : ∃ G2, G' = G2 + 1 := ⟨G' - 1, by omega⟩
        have hw13 : wa' 0 = nI (1048576 * 13) := by rw [e7 0 (by omega), upd_s]
        obtain ⟨cd2, y1, y2, y3⟩ := cA_fin hM (f := f) (nb := nb') (a := 0) (G := G2) (F := F') q2 (by omega) c4 ⟨(ht13 wa' hw13).2.2.1, (ht13 wa' hw13).2.2.2⟩ e5 e8
        refine ⟨nI 0, nI 0, nb', cd2, wa', ?_, fun j hj => by rw [y2 j hj, e6 j hj], y3⟩
        rw [hm0, e3]
        exact y1
    · left
      refine ⟨1000 + q, fun f st va => ?_, fun f o w nb cd wa => ?_⟩
      · obtain ⟨st', va', z1, z2, z3⟩ := k1 f st va
        refine ⟨nI q, s + c.length, st', va', by omega, ?_⟩
        rw [hx0, z1, mbm_s, ifb_t', x_expN hX q2 c4, mbm_s, ifb_f']
      · obtain ⟨G', F', ji, jn, nb', cd', wa', e1, e2, e3, _, e5, e6, e7, e8⟩ := k2 f 1 FU nb cd (upd wa 0 (nI (1048576 * 13))) (ht13 _ (upd_s _ _ _)) (Nat.le_refl _) (by omega) (by omega)
        obtain ⟨G2, rfl⟩ : ∃ G2, G' = G2 + 1 := ⟨G' - 1, by omega⟩
        rw [hm0, e3]
        exact cA_bad hM q2 c4 q4.1 q4.2
def cl1 (μ : Mm) (c t : Nat) (l : Int32) (x : Nat) : Mm := mset (mset μ c t l) (c + 1) t (nI x)
def cX (μ : Mm) (t : Nat) (l : Int32) (x y z : Nat) : Mm := mset (mset (mset (cl1 μ 72 t l x) 74 t (nI y)) 75 t (nI z)) 11 8 (nI (t + 1))
def cM (ν : Mm) (t : Nat) (l : Int32) (x y z : Nat) : Mm := mset (mset (mset (cl1 ν 33 t l x) 35 t (nI y)) 36 t (nI z)) 0 45 (nI (t + 1))
theorem clause_all (hX : txX μ N sg) (hM : txM ν N sg) {p s t : Nat} (hs : s ≤ p) (hp : p ≤ N) (ht : t ≤ 14) (hμ : μ 11 8 = nI t) (hν : ν 0 45 = nI t) : (∃ φ, (0 < φ ∧ φ < 10000) ∧ (∀ (f : Int32) (st va : Nat → Int32), ∃ u, vs_LawReading_readClause (xM μ (nI p) f (nI s) st va) = some (false, u) ∧ u 77 4 = nI φ ∧ absX u = absX μ) ∧ ∀ (f o w nb : Int32) (cd wa : Nat → Int32), ∃ u, md_readsClause (rM ν (nI p) f o (nI s) w nb cd wa) = some (false, u) ∧ u 0 41 = -(nI φ) ∧ absM u = absM ν) ∨ ∃ q c d, p < q ∧ q ≤ N ∧ t < 14 ∧ c.length + d.length ≤ q - p ∧ smE 64 s c ∧ smC 64 (s + c.length) d ∧ (∀ (f : Int32) (st va : Nat → Int32), ∃ st' va', vs_LawReading_readClause (xM μ (nI p) f (nI s) st va) = some (true, xM (cX μ t (sg p) s (s + c.length) (s + c.length + d.length)) (nI q) f (nI (s + c.length + d.length)) st' va') ∧ (∀ i, i < s → st' i = st i ∧ va' i = va i) ∧ AtL (fun k o => opX k o (st' k) (va' k)) s c ∧ AtL (fun k o => opX k o (st' k) (va' k)) (s + c.length) d) ∧ ∀ (f o w nb : Int32) (cd wa : Nat → Int32), ∃ o' w' nb' cd' wa', md_readsClause (rM ν (nI p) f o (nI s) w nb cd wa) = some (true, rM (cM ν t (sg p) s (s + c.length) (s + c.length + d.length)) (nI q) f o' (nI (s + c.length + d.length)) w' nb' cd' wa') ∧ (∀ i, i < s → cd' i = cd i) ∧ AtL (fun k o => cd' k = enc o) s c ∧ AtL (fun k o => cd' k = enc o) (s + c.length) d := by
  have hN := hX.2.1
  have hFU : 1000 < FU := by unfold FU; omega
  by_cases cl : ¬ (sg p = 119 ∨ sg p = 100 ∨ sg p = 102)
  · have c1 : ¬ sg p = 119 := fun z => cl (Or.inl z)
    have c2 : ¬ sg p = 100 := fun z => cl (Or.inr (Or.inl z))
    have c3 : ¬ sg p = 102 := fun z => cl (Or.inr (Or.inr z))
    left
    refine ⟨1000 + p, by omega, fun f st va => ⟨xM μ (nI p) (nI (1000 + p)) (nI s) st va, ?_, rfl, absX_xM⟩, fun f o w nb cd wa => ⟨rM ν (nI p) (-(nI (1000 + p))) o (nI s) w nb cd wa, ?_, rfl, absM_rM⟩⟩
    · unfold vs_LawReading_readClause
      rw [x_sign hX hp, mbv_s, if_neg c1, if_neg c2, if_neg c3, x_fail, mbm_s, flt 1 p 1 rfl]
    · unfold md_readsClause
      rw [m_here hM hp, mbv_s, if_neg c1, if_neg c2, if_neg c3, m_wrong, mbm_s, rM_39, fltM 1 p 1 rfl]
  rw [Classical.not_not] at cl
  have hpN : p < N := sg_lt hX (fun z => by rw [z] at cl; revert cl; decide)
  have hx0 : ∀ (f : Int32) (st va : Nat → Int32), vs_LawReading_readClause (xM μ (nI p) f (nI s) st va) = vs_LawReading_readClause_j29 (xM μ (nI p) f (nI s) st va) (sg p) := by
    intro f st va
    unfold vs_LawReading_readClause
    rw [x_sign hX hp, mbv_s]
    rcases cl with h | h | h
    · rw [if_pos h]
    · rw [if_neg (by rw [h]; decide), if_pos h]
    · rw [if_neg (by rw [h]; decide), if_neg (by rw [h]; decide), if_pos h]
  have hm0 : ∀ (f o w nb : Int32) (cd wa : Nat → Int32), md_readsClause (rM ν (nI p) f o (nI s) w nb cd wa) = md_readsClause_j33 (rM ν (nI p) f o (nI s) w nb cd wa) (sg p) := by
    intro f o w nb cd wa
    unfold md_readsClause
    rw [m_here hM hp, mbv_s]
    rcases cl with h | h | h
    · rw [if_pos h]
    · rw [if_neg (by rw [h]; decide), if_pos h]
    · rw [if_neg (by rw [h]; decide), if_neg (by rw [h]; decide), if_pos h]
  have xb : ∀ (p f k : Int32) (st va : Nat → Int32), xM μ p f k st va 11 8 = nI t := fun _ _ _ _ _ => hμ
  have mb : ∀ (p f o k w nb : Int32) (cd wa : Nat → Int32), rM ν p f o k w nb cd wa 0 45 = nI t := fun _ _ _ _ _ _ _ _ => hν
  by_cases ct : t = 14
  · left
    refine ⟨4000 + p, by omega, fun f st va => ⟨xM μ (nI p) (nI (4000 + p)) (nI s) st va, ?_, rfl, absX_xM⟩, fun f o w nb cd wa => ⟨rM ν (nI p) (-(nI (4000 + p))) o (nI s) w nb cd wa, ?_, rfl, absM_rM⟩⟩
    · rw [hx0]
      unfold vs_LawReading_readClause_j29
      rw [xb, if_neg (show ¬ (nI t < (14 : Int32)) by rw [ct]; decide), x_fail, mbm_s, flt 4 p 4 rfl]
    · rw [hm0]
      unfold md_readsClause_j33
      rw [mb, if_pos (show nI t = (14 : Int32) by rw [ct]; rfl), m_wrong, mbm_s, rM_39, fltM 4 p 4 rfl]
  have ht14 : t < 14 := by omega
  have aX1 : ∀ x, absX (cl1 μ 72 t (sg p) x) = absX μ := fun x => (absX_s rfl).trans (absX_s rfl)
  have aM1 : ∀ x, absM (cl1 ν 33 t (sg p) x) = absM ν := fun x => (absM_s rfl).trans (absM_s rfl)
  have hX1 : txX (cl1 μ 72 t (sg p) s) N sg := hX
  have hM1 : txM (cl1 ν 33 t (sg p) s) N sg := hM
  have hx1 : ∀ (f : Int32) (st va : Nat → Int32), vs_LawReading_readClause (xM μ (nI p) f (nI s) st va) = mbm (vs_LawReading_rec RF 3 (xM (cl1 μ 72 t (sg p) s) (nI (p + 1)) f (nI s) st va) (nI 0)) fun x7 μ8 => if (bI x7) = 0 then some (false, μ8) else mwr μ8 74 14 (nI t) (μ8 11 7) fun μ10 => mbm (xCond μ10) fun x17 μ18 => if (bI x17) = 0 then some (false, μ18) else mwr μ18 75 14 (nI t) (μ18 11 7) fun μ20 => mst μ20 11 8 ((μ20 11 8) + 1) fun μ21 => some (true, μ21) := by
    intro f st va
    rw [hx0]
    unfold vs_LawReading_readClause_j29
    rw [xb, if_pos (show nI t < (14 : Int32) from nI_lt (b := 14) ht14 (by decide)), mst_s, xM_3, xMs3, nI_1, mwr_nI ht14 (by decide), xM_b (by decide) (by decide) (by decide) (by decide), xM_7, mwr_nI ht14 (by decide), xM_b (by decide) (by decide) (by decide) (by decide)]
    simp only [xc_eq]
    rfl
  have hm1 : ∀ (f o w nb : Int32) (cd wa : Nat → Int32), md_readsClause (rM ν (nI p) f o (nI s) w nb cd wa) = mbm (md_readsSum (rM (cl1 ν 33 t (sg p) s) (nI (p + 1)) f (nI 0) (nI s) (nI 0) nb cd wa)) fun x9 μ10 => if (bI x9) = 0 then some (false, μ10) else mwr μ10 35 14 (μ10 0 45) (μ10 0 43) fun μ12 => mbm (md_readsCondition μ12) fun x13 μ14 => if (bI x13) = 0 then some (false, μ14) else mwr μ14 36 14 (μ14 0 45) (μ14 0 43) fun μ16 => mst μ16 0 45 ((μ16 0 45) + 1) fun μ17 => some (true, μ17) := by
    intro f o w nb cd wa
    rw [hm0]
    unfold md_readsClause_j33
    have b1 : ∀ (x y z k w nb : Int32) (cd wa : Nat → Int32), rM (mset ν 33 t (sg p)) x y z k w nb cd wa 0 45 = nI t := fun _ _ _ _ _ _ _ _ => hν
    rw [mb, if_neg (show ¬ (nI t = (14 : Int32)) from nI_ne (b := 14) (by omega) (by decide) (by omega)), mwr_nI ht14 (by decide), rM_b (by decide) (by decide) (by decide), mst_s, rM_39, rMs39, nI_1, b1, rM_43, mwr_nI ht14 (by decide), rM_b (by decide) (by decide) (by decide), mst_s, rMs42, mst_s, rMs44]
    rfl
  rcases sum_all hX1 hM1 (n := RF) (a := 0) (p := p + 1) (s := s) (by omega) (by unfold RF; omega) (by omega) (by omega) with ⟨φ, k1, k2⟩ | ⟨q, c, q1, q2, q3, q5, k1, k2⟩
  · left
    obtain ⟨_, _, _, _, hφ, _⟩ := k1 0 (fun _ => 0) (fun _ => 0)
    refine ⟨φ, hφ.2, fun f st va => ?_, fun f o w nb cd wa => ?_⟩
    · obtain ⟨p', k', st', va', z1, z2⟩ := k1 f st va
      refine ⟨xM (cl1 μ 72 t (sg p) s) p' (nI φ) (nI k') st' va', by rw [hx1, z2, mbm_s, ifb_f'], rfl, absX_xM.trans (aX1 s)⟩
    · obtain ⟨p', o', k', w', nb', cd', wa', z⟩ := k2 f 0 nb cd wa (noS_0 wa) (by omega)
      refine ⟨rM (cl1 ν 33 t (sg p) s) p' (-(nI φ)) o' k' w' nb' cd' wa', by rw [hm1, z, mbm_s, ifb_f'], rfl, absM_rM.trans (aM1 s)⟩
  have hX2 : txX (mset (cl1 μ 72 t (sg p) s) 74 t (nI (s + c.length))) N sg := hX
  have hM2 : txM (mset (cl1 ν 33 t (sg p) s) 35 t (nI (s + c.length))) N sg := hM
  have hx2 : ∀ (f : Int32) (st va : Nat → Int32), ∃ st' va', vs_LawReading_readClause (xM μ (nI p) f (nI s) st va) = (mbm (xCond (xM (mset (cl1 μ 72 t (sg p) s) 74 t (nI (s + c.length))) (nI q) f (nI (s + c.length)) st' va')) fun x17 μ18 => if (bI x17) = 0 then some (false, μ18) else mwr μ18 75 14 (nI t) (μ18 11 7) fun μ20 => mst μ20 11 8 ((μ20 11 8) + 1) fun μ21 => some (true, μ21)) ∧ (∀ i, i < s → st' i = st i ∧ va' i = va i) ∧ AtL (fun k o => opX k o (st' k) (va' k)) s c := by
    intro f st va
    obtain ⟨st', va', z1, z2, z3⟩ := k1 f st va
    refine ⟨st', va', ?_, z2, z3⟩
    rw [hx1, z1, mbm_s, ifb_t', xM_7, mwr_nI ht14 (by decide), xM_b (by decide) (by decide) (by decide) (by decide)]
  have hm2 : ∀ (f o w nb : Int32) (cd wa : Nat → Int32), ∃ nb' cd' wa', md_readsClause (rM ν (nI p) f o (nI s) w nb cd wa) = (mbm (md_readsCondition (rM (mset (cl1 ν 33 t (sg p) s) 35 t (nI (s + c.length))) (nI q) f (nI 0) (nI (s + c.length)) (nI 0) nb' cd' wa')) fun x13 μ14 => if (bI x13) = 0 then some (false, μ14) else mwr μ14 36 14 (μ14 0 45) (μ14 0 43) fun μ16 => mst μ16 0 45 ((μ16 0 45) + 1) fun μ17 => some (true, μ17)) ∧ (∀ i, i < s → cd' i = cd i) ∧ AtL (fun k o => cd' k = enc o) s c := by
    intro f o w nb cd wa
    obtain ⟨nb', cd', wa', z1, z2, z3, z4⟩ := k2 f 0 nb cd wa (noS_0 wa) (by omega)
    refine ⟨nb', cd', wa', ?_, z2, z4⟩
    have b2 : rM (cl1 ν 33 t (sg p) s) (nI q) f (nI 0) (nI (s + c.length)) (nI 0) nb' cd' wa' 0 45 = nI t := hν
    rw [hm1, z1, mbm_s, ifb_t', b2, rM_43, mwr_nI ht14 (by decide), rM_b (by decide) (by decide) (by decide)]
  rcases cond_all hX2 hM2 (p := q) (s := s + c.length) (by omega) q2 with ⟨φ, l1, l2⟩ | ⟨q', d, r1, r2, r3, r5, l1, l2⟩
  · left
    obtain ⟨_, _, _, _, hφ, _⟩ := l1 0 (fun _ => 0) (fun _ => 0)
    refine ⟨φ, hφ.2, fun f st va => ?_, fun f o w nb cd wa => ?_⟩
    · obtain ⟨st', va', z1, z2, z3⟩ := hx2 f st va
      obtain ⟨p', k', st2, va2, y1, y2⟩ := l1 f st' va'
      refine ⟨xM (mset (cl1 μ 72 t (sg p) s) 74 t (nI (s + c.length))) p' (nI φ) (nI k') st2 va2, by rw [z1, y2, mbm_s, ifb_f'], rfl, absX_xM.trans ((absX_s rfl).trans (aX1 s))⟩
    · obtain ⟨nb', cd', wa', z1, z2, z3⟩ := hm2 f o w nb cd wa
      obtain ⟨p', o', k', w', nb2, cd2, wa2, y⟩ := l2 f (nI 0) (nI 0) nb' cd' wa'
      refine ⟨rM (mset (cl1 ν 33 t (sg p) s) 35 t (nI (s + c.length))) p' (-(nI φ)) o' k' w' nb2 cd2 wa2, by rw [z1, y, mbm_s, ifb_f'], rfl, absM_rM.trans ((absM_s rfl).trans (aM1 s))⟩
  · right
    refine ⟨q', c, d, by omega, r2, ht14, by omega, smE_up q5 (by omega), smC_up r5 (by omega), fun f st va => ?_, fun f o w nb cd wa => ?_⟩
    · obtain ⟨st', va', z1, z2, z3⟩ := hx2 f st va
      obtain ⟨st2, va2, y1, y2, y3⟩ := l1 f st' va'
      refine ⟨st2, va2, ?_, fun j hj => ⟨(y2 j (by omega)).1.trans (z2 j hj).1, (y2 j (by omega)).2.trans (z2 j hj).2⟩, AtL_mono (fun k o g1 g2 g3 => ?_) z3, y3⟩
      · have b3 : ∀ st va : Nat → Int32, xM (mset (mset (cl1 μ 72 t (sg p) s) 74 t (nI (s + c.length))) 75 t (nI (s + c.length + d.length))) (nI q') f (nI (s + c.length + d.length)) st va 11 8 = nI t := fun _ _ => hμ
        rw [z1, y1, mbm_s, ifb_t', xM_7, mwr_nI ht14 (by decide), xM_b (by decide) (by decide) (by decide) (by decide), mst_s, b3, xM_b8, nI_1]
        rfl
      · show opX k o (st2 k) (va2 k)
        rw [(y2 k (by omega)).1, (y2 k (by omega)).2]
        exact g3
    · obtain ⟨nb', cd', wa', z1, z2, z3⟩ := hm2 f o w nb cd wa
      obtain ⟨o2, w2, nb2, cd2, wa2, y1, y2, y3⟩ := l2 f (nI 0) (nI 0) nb' cd' wa'
      refine ⟨o2, w2, nb2, cd2, wa2, ?_, fun j hj => by rw [y2 j (by omega), z2 j hj], AtL_mono (fun k o g1 g2 g3 => ?_) z3, y3⟩
      · have b3 : rM (mset (cl1 ν 33 t (sg p) s) 35 t (nI (s + c.length))) (nI q') f o2 (nI (s + c.length + d.length)) w2 nb2 cd2 wa2 0 45 = nI t := hν
        have b4 : rM (mset (mset (cl1 ν 33 t (sg p) s) 35 t (nI (s + c.length))) 36 t (nI (s + c.length + d.length))) (nI q') f o2 (nI (s + c.length + d.length)) w2 nb2 cd2 wa2 0 45 = nI t := hν
        rw [z1, y1, mbm_s, ifb_t', b3, rM_43, mwr_nI ht14 (by decide), rM_b (by decide) (by decide) (by decide), mst_s, b4, rM_b45, nI_1]
        rfl
      · show cd2 k = enc o
        rw [y2 k (by omega)]
        exact g3
end
