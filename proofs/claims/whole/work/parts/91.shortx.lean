/-! shortest rounds: the class -/
def wyOK (μ : Mm) (k : Nat) (w : Nat → Nat → Nat) : Prop := ∀ a b, a ≤ k → b ≤ k → μ 54 (9 * a + b) = nI (w a b)
def hmOK (T : Nat → Int32) (k : Nat) (w : Nat → Nat → Nat) (n : Nat) : Prop := ∀ m b, m < n → b < k → m.testBit b = false → T (9 * m + b) = nI (HH w k m b)
def enX (o : Option (Nat × Nat)) : Int32 × Int32 := match o with
  | none => (0, -1)
  | some q => (nI q.1, nI q.2)
section
variable {μ : Mm} {k : Nat} {w : Nat → Nat → Nat}
theorem x_next (h8 : μ 8 4 = nI k) (hk : k ≤ 8) (hw : ∀ a b, w a b ≤ 198) (hy : wyOK μ k w) {m a : Nat} (hm : m < 2 ^ k) (hT : hmOK (μ 55) k w m) (ha : a ≤ k) : vs_Rounds_nextHome μ (nI m) (nI a) = some (nI (nx w k m a)) := by
  have h2k : 2 ^ k ≤ 256 := Nat.pow_le_pow_right (by decide) hk
  unfold vs_Rounds_nextHome vs_Rounds_nextHome_l8
  have key := seq_loop (f := fun q : Int32 × Int32 × Int32 => vs_Rounds_nextHome_b8 μ (nI m) (nI a) q.1 q.2.1 q.2.2) (fun i => ((enX (bst (fH w k m a) (fun b => m.testBit b) i)).1, (enX (bst (fH w k m a) (fun b => m.testBit b) i)).2, nI i)) k (nI (nx w k m a)) (fun i hi => by
    show vs_Rounds_nextHome_b8 μ (nI m) (nI a) (enX (bst (fH w k m a) (fun b => m.testBit b) i)).1 (enX (bst (fH w k m a) (fun b => m.testBit b) i)).2 (nI i) = some (.inl ((enX (bst (fH w k m a) (fun b => m.testBit b) (i + 1))).1, (enX (bst (fH w k m a) (fun b => m.testBit b) (i + 1))).2, nI (i + 1)))
    unfold vs_Rounds_nextHome_b8
    have hf := fH_le hk hw (a := a) hm hi
    rw [h8, if_neg (nI_ge hi (by omega)), hasBit_eq _ (by omega), mbv_s, tb_nI (by omega), bst_S, nI_1]
    by_cases c : m.testBit i = true
    · obtain ⟨c1, c2, c3, c4⟩ := clr_f m (by omega) i (by omega)
      rw [ifb_t c, if_pos c, c1]
      refine (mrd_at (ix3 9 a i) (by omega) (by decide)).trans ?_
      refine (mrd_at (ix3 9 (clr m i) i) (by omega) (by decide)).trans ?_
      rw [hy a i ha (by omega), hT (clr m i) i (c3 c) hi c4, nI_add, show w a i + HH w k (clr m i) i = fH w k m a i from rfl]
      cases e : bst (fH w k m a) (fun b => m.testBit b) i with
      | none => exact if_pos rfl
      | some q =>
        obtain ⟨_, q2⟩ := bH_le hk hw hm i (by omega) q e
        show (if nI q.2 = -1 then _ else if nI q.2 ≤ nI (fH w k m a i) then _ else _) = some (Sum.inl ((enX (if fH w k m a i < q.2 then some (i, fH w k m a i) else some q)).1, (enX (if fH w k m a i < q.2 then some (i, fH w k m a i) else some q)).2, nI (i + 1)))
        rw [if_neg (nI_m1 (by omega))]
        by_cases c5 : fH w k m a i < q.2
        · rw [if_pos c5, if_neg (nI_ge c5 (by omega))]; rfl
        · rw [if_neg c5, if_pos (nI_le (by omega) (by omega))]
    · rw [ifb_f c, if_neg c]) (by
    show vs_Rounds_nextHome_b8 μ (nI m) (nI a) (enX (bst (fH w k m a) (fun b => m.testBit b) k)).1 (enX (bst (fH w k m a) (fun b => m.testBit b) k)).2 (nI k) = _
    unfold vs_Rounds_nextHome_b8
    rw [h8, if_pos (nI_le (Nat.le_refl _) (by omega))]
    unfold nx bH
    cases bst (fH w k m a) (fun b => m.testBit b) k <;> rfl) k 0 FU (by omega) (by unfold FU; omega)
  have key' : miter (fun q : Int32 × Int32 × Int32 => vs_Rounds_nextHome_b8 μ (nI m) (nI a) q.1 q.2.1 q.2.2) FU (0, -1, 0) = some (nI (nx w k m a)) := key
  rw [key', mbv_s]
theorem x_sHome (h8 : μ 8 4 = nI k) (hk : k ≤ 8) (hw : ∀ a b, w a b ≤ 198) (hy : wyOK μ k w) {m a : Nat} (hm : m < 2 ^ k) (hT : hmOK (μ 55) k w m) (ha : a ≤ k) : vs_Rounds_shortestHome μ (nI m) (nI a) = some (nI (HH w k m a)) := by
  have h2k : 2 ^ k ≤ 256 := Nat.pow_le_pow_right (by decide) hk
  unfold vs_Rounds_shortestHome
  by_cases c : m = 0
  · subst c
    rw [if_pos (show nI 0 = (0 : Int32) from rfl), h8]
    refine (mrd_at (ix3 9 a k) (by omega) (by decide)).trans ?_
    rw [hy a k ha (Nat.le_refl _), HH_0]
  · rw [if_neg (show ¬ (nI m = 0) from nI_ne (b := 0) (by omega) (by decide) c), x_next h8 hk hw hy hm hT ha, mbv_s]
    obtain ⟨_, n1, n2⟩ := bH_s (w := w) (a := a) hk hm c
    obtain ⟨c1, c2, c3, c4⟩ := clr_f m (by omega) (nx w k m a) (by omega)
    rw [c1]
    refine (mrd_at (ix3 9 a (nx w k m a)) (by omega) (by decide)).trans ?_
    refine (mrd_at (ix3 9 (clr m (nx w k m a)) (nx w k m a)) (by omega) (by decide)).trans ?_
    rw [hy a _ ha (by omega), hT _ _ (c3 n2) n1 c4, nI_add, HH_s hk hm c]
    rfl
theorem x_row {T : Nat → Int32} (h8 : μ 8 4 = nI k) (hk : k ≤ 8) (hw : ∀ a b, w a b ≤ 198) (hy : wyOK μ k w) {m : Nat} (hm : m < 2 ^ k) (hT : hmOK T k w m) (a2 : Int32) : ∃ T', vs_Rounds_shortest_l96 (mrp μ 55 T) a2 (nI m) 0 = some (mrp μ 55 T') ∧ hmOK T' k w (m + 1) := by
  have h2k : 2 ^ k ≤ 256 := Nat.pow_le_pow_right (by decide) hk
  unfold vs_Rounds_shortest_l96
  obtain ⟨e, h1, T', h2, h3⟩ := miter_cnt (f := fun q : Int32 × Mm => vs_Rounds_shortest_b96 q.2 a2 (nI m) q.1) (fun i (G : Nat → Int32) => (nI i, mrp μ 55 G)) k (fun i G => hmOK G k w m ∧ ∀ b, b < i → m.testBit b = false → G (9 * m + b) = nI (HH w k m b)) (fun e => ∃ T', e = mrp μ 55 T' ∧ hmOK T' k w (m + 1)) (fun i G hi hI => by
      left
      obtain ⟨i1, i2⟩ := hI
      have hb : vs_Rounds_shortest_b96 (mrp μ 55 G) a2 (nI m) (nI i) = if m.testBit i = true then some (.inl (nI (i + 1), mrp μ 55 G)) else some (.inl (nI (i + 1), mrp μ 55 (upd G (9 * m + i) (nI (HH w k m i))))) := by
        unfold vs_Rounds_shortest_b96
        rw [show mrp μ 55 G 8 4 = nI k from h8, if_neg (nI_ge hi (by omega)), hasBit_eq _ (by omega), mbv_s, tb_nI (by omega), x_sHome (μ := mrp μ 55 G) h8 hk hw hy hm i1 (by omega), mbv_s, nI_1]
        by_cases c : m.testBit i = true
        · rw [ifb_t c, if_pos c]
        · rw [ifb_f c, if_neg c]
          refine (mwr_at (ix3 9 m i) (by omega) (by decide)).trans ?_
          rw [mset_mrp]
      by_cases c : m.testBit i = true
      · rw [if_pos c] at hb
        refine ⟨G, hb, i1, fun b hb1 hb2 => ?_⟩
        by_cases e : b = i
        · subst e; rw [c] at hb2; cases hb2
        · exact i2 b (by omega) hb2
      · rw [if_neg c] at hb
        refine ⟨_, hb, fun m' b' z1 z2 z3 => ?_, fun b hb1 hb2 => ?_⟩
        · rw [upd_n (by omega)]; exact i1 m' b' z1 z2 z3
        · by_cases e : b = i
          · subst e; rw [upd_s]
          · rw [upd_n (by omega)]; exact i2 b (by omega) hb2) (fun G hI => ⟨mrp μ 55 G, by
      show vs_Rounds_shortest_b96 (mrp μ 55 G) a2 (nI m) (nI k) = _
      unfold vs_Rounds_shortest_b96
      rw [show mrp μ 55 G 8 4 = nI k from h8, if_pos (nI_le (Nat.le_refl _) (by omega))], G, rfl, fun m' b' z1 z2 z3 => by
      by_cases e : m' = m
      · subst e; exact hI.2 b' z2 z3
      · exact hI.1 m' b' (by omega) z2 z3⟩) FU 0 T (by omega) (by unfold FU; omega) ⟨hT, fun b hb => absurd hb (Nat.not_lt_zero b)⟩
  exact ⟨T', by rw [← h2]; exact h1, h3⟩
theorem x_table (h8 : μ 8 4 = nI k) (hk : k ≤ 8) (hw : ∀ a b, w a b ≤ 198) (hy : wyOK μ k w) : ∃ T', vs_Rounds_shortest_l88 μ (nI (2 ^ k - 1)) 0 = some (mrp μ 55 T') ∧ hmOK T' k w (2 ^ k - 1) := by
  have h2k : 2 ^ k ≤ 256 := Nat.pow_le_pow_right (by decide) hk
  have h2p : 0 < 2 ^ k := Nat.pow_pos (by decide)
  unfold vs_Rounds_shortest_l88
  obtain ⟨e, h1, T', h2, h3⟩ := miter_cnt (f := fun q : Int32 × Mm => vs_Rounds_shortest_b88 q.2 (nI (2 ^ k - 1)) q.1) (fun i (G : Nat → Int32) => (nI i, mrp μ 55 G)) (2 ^ k - 1) (fun i G => hmOK G k w i) (fun e => ∃ T', e = mrp μ 55 T' ∧ hmOK T' k w (2 ^ k - 1)) (fun i G hi hI => by
      left
      obtain ⟨T', t1, t2⟩ := x_row (μ := μ) (T := G) h8 hk hw hy (m := i) (by omega) hI (nI (2 ^ k - 1))
      refine ⟨T', ?_, t2⟩
      show vs_Rounds_shortest_b88 (mrp μ 55 G) (nI (2 ^ k - 1)) (nI i) = _
      unfold vs_Rounds_shortest_b88
      rw [if_neg (nI_ge hi (by omega)), t1, mbv_s, nI_1]) (fun G hI => ⟨mrp μ 55 G, by
      show vs_Rounds_shortest_b88 (mrp μ 55 G) (nI (2 ^ k - 1)) (nI (2 ^ k - 1)) = _
      unfold vs_Rounds_shortest_b88
      rw [if_pos (nI_le (Nat.le_refl _) (by omega))], G, rfl, hI⟩) FU 0 (μ 55) (by omega) (by unfold FU; omega) (fun m b h => absurd h (Nat.not_lt_zero m))
  rw [mrp_self] at h1
  exact ⟨T', by rw [← h2]; exact h1, h3⟩
end
def cOK (f : Nat → Int32) (p : Nat → Bool) (S : Nat) : Prop := ∀ a, a < cn p S → f a = nI (psn p S a)
section
variable {μ ν : Mm} {p : Nat → Bool}
theorem g_xy (g : Good ν) {s : Nat} (hs : s < nS ν) : (∃ x, x ≤ 99 ∧ ν 10 s = nI x) ∧ ∃ y, y ≤ 99 ∧ ν 11 s = nI y := ⟨(g.2.2.2.1.2 s hs).1, (g.2.2.2.1.2 s hs).2.1⟩
theorem cx_10 (g : Good ν) {a : Nat} (ha : a < cn p (nS ν)) : ν 10 (psn p (nS ν) a) = nI (cxN ν 10 p a) := by
  obtain ⟨x, x1, x2⟩ := (g_xy g (psn_ok ha).1).1
  unfold cxN
  rw [if_pos ha, x2, nI_clamp (by omega), Nat.min_eq_left x1]
theorem cx_11 (g : Good ν) {a : Nat} (ha : a < cn p (nS ν)) : ν 11 (psn p (nS ν) a) = nI (cxN ν 11 p a) := by
  obtain ⟨x, x1, x2⟩ := (g_xy g (psn_ok ha).1).2
  unfold cxN
  rw [if_pos ha, x2, nI_clamp (by omega), Nat.min_eq_left x1]
theorem x_xOf (h : Rel μ ν) (hc : cn p (nS ν) ≤ 8) (h8 : μ 8 4 = nI (cn p (nS ν))) (hr : cOK (μ 53) p (nS ν)) {a : Nat} (ha : a ≤ cn p (nS ν)) : vs_Rounds_xOf μ (nI a) = some (nI (cxN ν 10 p a)) := by
  have hS := g_S h.2
  unfold vs_Rounds_xOf
  rw [h8]
  by_cases c : a < cn p (nS ν)
  · have ho := psn_ok c
    rw [if_neg (nI_ge c (by omega)), mrd_nI (by omega) (by decide), hr a c, mrd_nI (by omega) (by decide), h.1.2.2.1.1, cx_10 h.2 c]
  · rw [if_pos (nI_le (by omega) (by omega))]
    unfold cxN
    rw [if_neg c]
    rfl
theorem x_yOf (h : Rel μ ν) (hc : cn p (nS ν) ≤ 8) (h8 : μ 8 4 = nI (cn p (nS ν))) (hr : cOK (μ 53) p (nS ν)) {a : Nat} (ha : a ≤ cn p (nS ν)) : vs_Rounds_yOf μ (nI a) = some (nI (cxN ν 11 p a)) := by
  have hS := g_S h.2
  unfold vs_Rounds_yOf
  rw [h8]
  by_cases c : a < cn p (nS ν)
  · have ho := psn_ok c
    rw [if_neg (nI_ge c (by omega)), mrd_nI (by omega) (by decide), hr a c, mrd_nI (by omega) (by decide), h.1.2.2.1.2.1, cx_11 h.2 c]
  · rw [if_pos (nI_le (by omega) (by omega))]
    unfold cxN
    rw [if_neg c]
    rfl
theorem x_ways (h : Rel μ ν) (hc : cn p (nS ν) ≤ 8) (h8 : μ 8 4 = nI (cn p (nS ν))) (hr : cOK (μ 53) p (nS ν)) : ∃ T, vs_Rounds_measureWays μ = some (mrp μ 54 T) ∧ ∀ a b, a ≤ cn p (nS ν) → b ≤ cn p (nS ν) → T (9 * a + b) = nI (wyR ν p a b) := by
  have rl : ∀ T, Rel (mrp μ 54 T) ν := fun T => Rel_abs (absX_mrp (fun _ => rfl)) rfl h
  have inner : ∀ (a : Nat) (T : Nat → Int32), a ≤ cn p (nS ν) → (∀ a' b, a' < a → b ≤ cn p (nS ν) → T (9 * a' + b) = nI (wyR ν p a' b)) → ∃ T', vs_Rounds_measureWays_l12 (mrp μ 54 T) (nI a) 0 = some (mrp μ 54 T') ∧ ∀ a' b, a' < a + 1 → b ≤ cn p (nS ν) → T' (9 * a' + b) = nI (wyR ν p a' b) := by
    intro a T ha hT
    unfold vs_Rounds_measureWays_l12
    obtain ⟨e, h1, T', h2, h3⟩ := miter_cnt (f := fun q : Int32 × Mm => vs_Rounds_measureWays_b12 q.2 (nI a) q.1) (fun i (G : Nat → Int32) => (nI i, mrp μ 54 G)) (cn p (nS ν) + 1) (fun i G => (∀ a' b, a' < a → b ≤ cn p (nS ν) → G (9 * a' + b) = nI (wyR ν p a' b)) ∧ ∀ b, b < i → G (9 * a + b) = nI (wyR ν p a b)) (fun e => ∃ T', e = mrp μ 54 T' ∧ ∀ a' b, a' < a + 1 → b ≤ cn p (nS ν) → T' (9 * a' + b) = nI (wyR ν p a' b)) (fun i G hi hI => by
        left
        obtain ⟨i1, i2⟩ := hI
        refine ⟨upd G (9 * a + i) (nI (wyR ν p a i)), ?_, fun a' b z1 z2 => ?_, fun b z1 => ?_⟩
        · show vs_Rounds_measureWays_b12 (mrp μ 54 G) (nI a) (nI i) = _
          unfold vs_Rounds_measureWays_b12
          rw [show mrp μ 54 G 8 4 = nI (cn p (nS ν)) from h8, if_neg (fun z => by have := (nI_ltI (a := cn p (nS ν)) (b := i) (by omega) (by omega)).mp z; omega), x_xOf (μ := mrp μ 54 G) (rl G) hc h8 hr ha, mbv_s, x_xOf (μ := mrp μ 54 G) (rl G) hc h8 hr (a := i) (by omega), mbv_s, x_yOf (μ := mrp μ 54 G) (rl G) hc h8 hr ha, mbv_s, x_yOf (μ := mrp μ 54 G) (rl G) hc h8 hr (a := i) (by omega), mbv_s, jabs_f (cxN_le _ _ _ _) (cxN_le _ _ _ _), jabs_f (cxN_le _ _ _ _) (cxN_le _ _ _ _), nI_add, nI_1]
          refine (mwr_at (ix3 9 a i) (by omega) (by decide)).trans ?_
          rw [mset_mrp]
          rfl
        · rw [upd_n (by omega)]; exact i1 a' b z1 z2
        · by_cases e : b = i
          · subst e; rw [upd_s]
          · rw [upd_n (by omega)]; exact i2 b (by omega)) (fun G hI => ⟨mrp μ 54 G, by
        show vs_Rounds_measureWays_b12 (mrp μ 54 G) (nI a) (nI (cn p (nS ν) + 1)) = _
        unfold vs_Rounds_measureWays_b12
        rw [show mrp μ 54 G 8 4 = nI (cn p (nS ν)) from h8, if_pos (nI_lt (by omega) (by omega))], G, rfl, fun a' b z1 z2 => by
        by_cases e : a' = a
        · subst e; exact hI.2 b (by omega)
        · exact hI.1 a' b (by omega) z2⟩) FU 0 T (by omega) (by unfold FU; omega) ⟨hT, fun b hb => absurd hb (Nat.not_lt_zero b)⟩
    exact ⟨T', by rw [← h2]; exact h1, h3⟩
  unfold vs_Rounds_measureWays vs_Rounds_measureWays_l2
  obtain ⟨e, h1, T', h2, h3⟩ := miter_cnt (f := fun q : Int32 × Mm => vs_Rounds_measureWays_b2 q.2 q.1) (fun i (G : Nat → Int32) => (nI i, mrp μ 54 G)) (cn p (nS ν) + 1) (fun i G => ∀ a' b, a' < i → b ≤ cn p (nS ν) → G (9 * a' + b) = nI (wyR ν p a' b)) (fun e => ∃ T', e = mrp μ 54 T' ∧ ∀ a' b, a' ≤ cn p (nS ν) → b ≤ cn p (nS ν) → T' (9 * a' + b) = nI (wyR ν p a' b)) (fun i G hi hI => by
      left
      obtain ⟨T', t1, t2⟩ := inner i G (by omega) hI
      refine ⟨T', ?_, t2⟩
      show vs_Rounds_measureWays_b2 (mrp μ 54 G) (nI i) = _
      unfold vs_Rounds_measureWays_b2
      rw [show mrp μ 54 G 8 4 = nI (cn p (nS ν)) from h8, if_neg (fun z => by have := (nI_ltI (a := cn p (nS ν)) (b := i) (by omega) (by omega)).mp z; omega), t1, mbv_s, nI_1]) (fun G hI => ⟨mrp μ 54 G, by
      show vs_Rounds_measureWays_b2 (mrp μ 54 G) (nI (cn p (nS ν) + 1)) = _
      unfold vs_Rounds_measureWays_b2
      rw [show mrp μ 54 G 8 4 = nI (cn p (nS ν)) from h8, if_pos (nI_lt (by omega) (by omega))], G, rfl, fun a' b z1 z2 => hI a' b (by omega) z2⟩) FU 0 (μ 54) (by omega) (by unfold FU; omega) (fun a' b h => absurd h (Nat.not_lt_zero a'))
  rw [mrp_self] at h1
  have h1' : miter (fun q : Int32 × Mm => vs_Rounds_measureWays_b2 q.2 q.1) FU (0, μ) = some e := h1
  rw [h1', mbv_s, h2]
  exact ⟨T', rfl, h3⟩
/-- what shortest leaves -/
def shX2 (μ ν u : Mm) (p : Nat → Bool) : Prop := absX u = absX μ ∧ u 8 4 = nI (cn p (nS ν)) ∧ cOK (u 53) p (nS ν) ∧ wyOK u (cn p (nS ν)) (wyR ν p) ∧ hmOK (u 55) (cn p (nS ν)) (wyR ν p) (2 ^ cn p (nS ν) - 1)
def miV (ν : Mm) (p : Nat → Bool) : Nat := HH (wyR ν p) (cn p (nS ν)) (2 ^ cn p (nS ν) - 1) (cn p (nS ν))
theorem bc_p {x : Int32} {S : Nat} (hS : S ≤ 32) (hx : ∀ s, s < 32 → tb x s = (decide (s < S) && p s)) : bc x = cn p S := by
  unfold bc
  rw [bcn_cn]
  refine cn_lt hS (fun q hq => ?_) (fun q q1 q2 => ?_)
  · rw [hx q (by omega)]; simp [hq]
  · rw [hx q q2]
    have : ¬ q < S := by omega
    simp [this]
theorem x_short_no (h : Rel μ ν) {x : Int32} (hx : ∀ s, s < 32 → tb x s = (decide (s < nS ν) && p s)) (hc : 8 < cn p (nS ν)) : vs_Rounds_shortest μ x = some (-2, mset μ 8 4 0) := by
  have hS := g_S h.2
  have hcl := cn_le p (nS ν)
  unfold vs_Rounds_shortest
  rw [mst_s, bitCount_eq, mbv_s, bc_p (by omega) hx, if_neg (show ¬ (nI (cn p (nS ν)) ≤ 8) from nI_ge (a := 8) hc (by omega))]
theorem x_shortest (h : Rel μ ν) {x : Int32} (hx : ∀ s, s < 32 → tb x s = (decide (s < nS ν) && p s)) (hc : cn p (nS ν) ≤ 8) : ∃ u, vs_Rounds_shortest μ x = some (nI (miV ν p), u) ∧ shX2 μ ν u p := by
  have hS := g_S h.2
  unfold vs_Rounds_shortest
  rw [mst_s, bitCount_eq, mbv_s, bc_p (by omega) hx, if_pos (show nI (cn p (nS ν)) ≤ 8 from nI_le (b := 8) hc (by decide))]
  have rows : ∃ u, vs_Rounds_shortest_l19 (mset μ 8 4 0) x 0 = some u ∧ absX u = absX μ ∧ u 8 4 = nI (cn p (nS ν)) ∧ cOK (u 53) p (nS ν) := by
    unfold vs_Rounds_shortest_l19
    obtain ⟨e, h1, h2, h3, h4⟩ := miter_cnt (f := fun q : Int32 × Mm => vs_Rounds_shortest_b19 q.2 x q.1) (fun i (u : Mm) => (nI i, u)) (nS ν) (fun i u => absX u = absX μ ∧ u 8 4 = nI (cn p i) ∧ ∀ s, s < i → p s = true → u 53 (cn p s) = nI s) (fun u => absX u = absX μ ∧ u 8 4 = nI (cn p (nS ν)) ∧ ∀ s, s < nS ν → p s = true → u 53 (cn p s) = nI s) (fun i u hi hI => by
        obtain ⟨i1, i2, i3⟩ := hI
        have hu : Rel u ν := Rel_abs i1 rfl h
        have hci := cn_le2 (p := p) (show i ≤ nS ν by omega)
        by_cases c : cn p i = 8
        · right
          refine ⟨u, ?_, i1, ?_, fun s z1 z2 => ?_⟩
          · show vs_Rounds_shortest_b19 u x (nI i) = _
            unfold vs_Rounds_shortest_b19
            rw [x_S hu.1, hS.1, if_neg (nI_ge hi (by omega)), i2, c, if_pos (by decide)]
          · rw [i2, show cn p i = cn p (nS ν) by omega]
          · rcases Nat.lt_or_ge s i with z | z
            · exact i3 s z z2
            · have := cn_lt2 z1 z2
              have := cn_le2 (p := p) z
              omega
        · left
          have hb : vs_Rounds_shortest_b19 u x (nI i) = if p i = true then some (.inl (nI (i + 1), mset (mset u 53 (cn p i) (nI i)) 8 4 (nI (cn p i + 1)))) else some (.inl (nI (i + 1), u)) := by
            unfold vs_Rounds_shortest_b19
            rw [x_S hu.1, hS.1, if_neg (nI_ge hi (by omega)), i2, if_neg (show ¬ ((8 : Int32) ≤ nI (cn p i)) from nI_ge (b := 8) (by omega) (by decide)), hasBit_eq _ (by omega), mbv_s, hx i (by omega), mwr_nI (by omega) (by decide), mst_s, mset_oo (by decide), i2, nI_1, nI_1]
            have hd : (decide (i < nS ν) && p i) = p i := by simp [hi]
            rw [hd]
            by_cases c2 : p i = true
            · rw [ifb_t c2, if_pos c2]
            · rw [ifb_f c2, if_neg c2]
          have hcn : cn p (i + 1) = cn p i + (p i).toNat := rfl
          by_cases c2 : p i = true
          · rw [if_pos c2] at hb
            refine ⟨_, hb, (absX_s rfl).trans ((absX_s rfl).trans i1), ?_, fun s z1 z2 => ?_⟩
            · rw [mset_s, hcn, c2]; rfl
            · rw [mset_oo (by decide)]
              by_cases e : s = i
              · subst e; rw [mset_s]
              · have := cn_lt2 (p := p) (show s < i by omega) z2
                rw [mset_n (by omega)]; exact i3 s (by omega) z2
          · rw [if_neg c2] at hb
            refine ⟨u, hb, i1, ?_, fun s z1 z2 => ?_⟩
            · rw [i2, hcn, show p i = false by simpa using c2]; rfl
            · by_cases e : s = i
              · subst e; exact absurd z2 c2
              · exact i3 s (by omega) z2) (fun u hI => ⟨u, by
        show vs_Rounds_shortest_b19 u x (nI (nS ν)) = _
        unfold vs_Rounds_shortest_b19
        rw [x_S (Rel_abs hI.1 rfl h : Rel u ν).1, hS.1, if_pos (nI_le (Nat.le_refl _) (by omega))], hI⟩) FU 0 (mset μ 8 4 0) (by omega) (by unfold FU; omega) ⟨absX_s rfl, rfl, fun s hs => absurd hs (Nat.not_lt_zero s)⟩
    refine ⟨e, h1, h2, h3, fun a ha => ?_⟩
    obtain ⟨z1, z2, z3⟩ := psn_ok ha
    have := h4 _ z1 z2
    rw [z3] at this
    exact this
  obtain ⟨u, u1, u2, u3, u4⟩ := rows
  rw [u1, mbv_s]
  have hu : Rel u ν := Rel_abs u2 rfl h
  unfold vs_Rounds_shortest_j73
  obtain ⟨T, t1, t2⟩ := x_ways hu hc u3 u4
  obtain ⟨af1, af2, af3⟩ := all_f (cn p (nS ν)) hc
  have h2k : 2 ^ cn p (nS ν) ≤ 256 := Nat.pow_le_pow_right (by decide) hc
  have h2p : 0 < 2 ^ cn p (nS ν) := Nat.pow_pos (by decide)
  have e8 : mrp u 54 T 8 4 = nI (cn p (nS ν)) := u3
  have hy : wyOK (mrp u 54 T) (cn p (nS ν)) (wyR ν p) := fun a b h1 h2 => by rw [mrp_s]; exact t2 a b h1 h2
  rw [t1, mbv_s, e8, af1]
  obtain ⟨T2, s1, s2⟩ := x_table (μ := mrp u 54 T) e8 hc (wyR_le ν p) hy
  have e8' : mrp (mrp u 54 T) 55 T2 8 4 = nI (cn p (nS ν)) := u3
  rw [s1, mbv_s, e8']
  have hy2 : wyOK (mrp (mrp u 54 T) 55 T2) (cn p (nS ν)) (wyR ν p) := hy
  rw [x_sHome (μ := mrp (mrp u 54 T) 55 T2) e8' hc (wyR_le ν p) hy2 (m := 2 ^ cn p (nS ν) - 1) (by omega) s2 (Nat.le_refl _), mbv_s, show nI (2 ^ cn p (nS ν) - 1) * (9 : Int32) + nI (cn p (nS ν)) = nI (9 * (2 ^ cn p (nS ν) - 1) + cn p (nS ν)) from ix3 9 _ _, mwr_nI (by omega) (by decide), mset_mrp]
  rw [show mrp (mrp u 54 T) 55 (upd T2 (9 * (2 ^ cn p (nS ν) - 1) + cn p (nS ν)) (nI (HH (wyR ν p) (cn p (nS ν)) (2 ^ cn p (nS ν) - 1) (cn p (nS ν))))) 8 4 = nI (cn p (nS ν)) from u3, show nI (2 ^ cn p (nS ν) - 1) * (9 : Int32) + nI (cn p (nS ν)) = nI (9 * (2 ^ cn p (nS ν) - 1) + cn p (nS ν)) from ix3 9 _ _, mrd_nI (by omega) (by decide), mrp_s, upd_s]
  refine ⟨_, rfl, (absX_mrp (fun _ => rfl)).trans ((absX_mrp (fun _ => rfl)).trans u2), u3, u4, hy, fun m b z1 z2 z3 => ?_⟩
  rw [mrp_s, upd_n (by omega)]
  exact s2 m b z1 z2 z3
end
