/-! the stops of a round -/
def pth (w : Nat → Nat → Nat) (k : Nat) : Nat → Nat × Nat
  | 0 => (2 ^ k - 1, k)
  | i + 1 => (clr (pth w k i).1 (nx w k (pth w k i).1 (pth w k i).2), nx w k (pth w k i).1 (pth w k i).2)
theorem cn_all {p : Nat → Bool} : ∀ {n : Nat}, (∀ b, b < n → p b = true) → cn p n = n
  | 0, _ => rfl
  | n + 1, h => by
    simp only [cn]
    rw [cn_all (fun b hb => h b (by omega)), h n (by omega)]
    rfl
theorem pth_ok {w : Nat → Nat → Nat} {k : Nat} (hk : k ≤ 8) : ∀ i, i ≤ k → (pth w k i).1 < 2 ^ k ∧ (pth w k i).2 ≤ k ∧ cn (fun b => (pth w k i).1.testBit b) k = k - i ∧ (1 ≤ i → (pth w k i).2 < k)
  | 0, _ => by
    have h2p : 0 < 2 ^ k := Nat.pow_pos (by decide)
    exact ⟨by show 2 ^ k - 1 < 2 ^ k; omega, Nat.le_refl _, cn_all (all_f k hk).2.2, fun h => by omega⟩
  | i + 1, hi => by
    obtain ⟨h1, h2, h3, -⟩ := pth_ok hk i (by omega)
    have h2k : 2 ^ k ≤ 256 := Nat.pow_le_pow_right (by decide) hk
    have h0 : (pth w k i).1 ≠ 0 := by
      intro e
      rw [e] at h3
      have : cn (fun b => (0 : Nat).testBit b) k = 0 := cn_zero (fun b _ => Nat.zero_testBit b)
      omega
    obtain ⟨_, n1, n2⟩ := bH_s (w := w) (a := (pth w k i).2) hk h1 h0
    obtain ⟨c1, c2, c3, c4⟩ := clr_f (pth w k i).1 (by omega) (nx w k (pth w k i).1 (pth w k i).2) (by omega)
    refine ⟨by show clr _ _ < _; omega, by show nx _ _ _ _ ≤ k; omega, ?_, fun _ => n1⟩
    show cn (fun b => (clr (pth w k i).1 (nx w k (pth w k i).1 (pth w k i).2)).testBit b) k = k - (i + 1)
    rw [cn_cong (g := fun b => (pth w k i).1.testBit b && !decide (b = nx w k (pth w k i).1 (pth w k i).2)) (fun b hb => clr_b _ (by omega) _ (by omega) b (by omega))]
    have := cn_dn (p := fun b => (pth w k i).1.testBit b) (p' := fun b => (pth w k i).1.testBit b && !decide (b = nx w k (pth w k i).1 (pth w k i).2)) (b := nx w k (pth w k i).1 (pth w k i).2) (fun j hj => by simp [hj]) n2 (by simp) n1
    omega
theorem pth_n {w : Nat → Nat → Nat} {k : Nat} (hk : k ≤ 8) {i : Nat} (hi : i < k) : (pth w k i).1 ≠ 0 ∧ nx w k (pth w k i).1 (pth w k i).2 < k := by
  obtain ⟨h1, h2, h3, -⟩ := pth_ok (w := w) hk i (by omega)
  have h0 : (pth w k i).1 ≠ 0 := by
    intro e
    rw [e] at h3
    have : cn (fun b => (0 : Nat).testBit b) k = 0 := cn_zero (fun b _ => Nat.zero_testBit b)
    omega
  exact ⟨h0, (bH_s (w := w) hk h1 h0).2.1⟩
section
variable {μ ν : Mm} {p : Nat → Bool}
theorem x_stopAt {u : Mm} (hS : nS ν ≤ 10) (hc : cn p (nS ν) ≤ 8) (h : shX2 μ ν u p) {j : Nat} (hj : j < cn p (nS ν)) : vs_Rounds_stopAt u (nI j) = some (nI (psn p (nS ν) (pth (wyR ν p) (cn p (nS ν)) (j + 1)).2)) := by
  obtain ⟨_, h8, hr, hy, hT⟩ := h
  have h2k : 2 ^ cn p (nS ν) ≤ 256 := Nat.pow_le_pow_right (by decide) hc
  obtain ⟨af1, af2, af3⟩ := all_f (cn p (nS ν)) hc
  unfold vs_Rounds_stopAt
  rw [h8, if_pos (nI_lt hj (by omega)), af1]
  have key : vs_Rounds_stopAt_l27 u (nI j) (nI (2 ^ cn p (nS ν) - 1)) (nI (cn p (nS ν))) 0 = some (nI (pth (wyR ν p) (cn p (nS ν)) (j + 1)).2) := by
    unfold vs_Rounds_stopAt_l27
    exact seq_loop (f := fun q : Int32 × Int32 × Int32 => vs_Rounds_stopAt_b27 u (nI j) q.1 q.2.1 q.2.2) (fun i => (nI (pth (wyR ν p) (cn p (nS ν)) i).1, nI (pth (wyR ν p) (cn p (nS ν)) i).2, nI i)) (j + 1) _ (fun i hi => by
      show vs_Rounds_stopAt_b27 u (nI j) (nI (pth (wyR ν p) (cn p (nS ν)) i).1) (nI (pth (wyR ν p) (cn p (nS ν)) i).2) (nI i) = _
      obtain ⟨h1, h2, h3, -⟩ := pth_ok (w := wyR ν p) hc i (by omega)
      obtain ⟨h4, h5⟩ := pth_n (w := wyR ν p) hc (i := i) (by omega)
      unfold vs_Rounds_stopAt_b27
      rw [if_neg (fun z => by have := (nI_ltI (a := j) (b := i) (by omega) (by omega)).mp z; omega), x_next h8 hc (wyR_le ν p) hy h1 (fun m b z1 z2 z3 => hT m b (by omega) z2 z3) h2, mbv_s, (clr_f _ (by omega) _ (by omega)).1, nI_1]
      rfl) (by
      show vs_Rounds_stopAt_b27 u (nI j) (nI (pth (wyR ν p) (cn p (nS ν)) (j + 1)).1) (nI (pth (wyR ν p) (cn p (nS ν)) (j + 1)).2) (nI (j + 1)) = _
      unfold vs_Rounds_stopAt_b27
      rw [if_pos (nI_lt (by omega) (by omega))]) (j + 1) 0 FU (by omega) (by unfold FU; omega)
  have hlt := (pth_ok (w := wyR ν p) hc (j + 1) (by omega)).2.2.2 (by omega)
  rw [key, mbv_s, mrd_nI (by omega) (by decide), hr _ hlt]
def atI (k a : Nat) : Int32 := if a = k then -1 else nI a
def enS (o : Option (Nat × Nat)) : Int32 × Int32 := match o with
  | none => (-1, 0)
  | some q => (nI q.1, nI q.2)
theorem m_stnx (g : Good ν) (hc : cn p (nS ν) ≤ 8) (h7 : ν 0 77 = nI (cn p (nS ν))) (hr : cOK (ν 56) p (nS ν)) {m a : Nat} (hm : m < 2 ^ cn p (nS ν)) (h0 : m ≠ 0) (hT : hoOK (ν 57) (cn p (nS ν)) (wyR ν p) m) (ha : a ≤ cn p (nS ν)) (a1 a4 : Int32) : md_stopAt_l29 ν a1 (nI m) (atI (cn p (nS ν)) a) a4 (-1) 0 0 = some (nI (nx (wyR ν p) (cn p (nS ν)) m a)) := by
  have h2k : 2 ^ cn p (nS ν) ≤ 256 := Nat.pow_le_pow_right (by decide) hc
  unfold md_stopAt_l29
  exact seq_loop (f := fun q : Int32 × Int32 × Int32 => md_stopAt_b29 ν a1 (nI m) (atI (cn p (nS ν)) a) a4 q.1 q.2.1 q.2.2) (fun i => ((enS (bst (fH (wyR ν p) (cn p (nS ν)) m a) (fun b => m.testBit b) i)).1, (enS (bst (fH (wyR ν p) (cn p (nS ν)) m a) (fun b => m.testBit b) i)).2, nI i)) (cn p (nS ν)) _ (fun i hi => by
    show md_stopAt_b29 ν a1 (nI m) (atI (cn p (nS ν)) a) a4 (enS (bst (fH (wyR ν p) (cn p (nS ν)) m a) (fun b => m.testBit b) i)).1 (enS (bst (fH (wyR ν p) (cn p (nS ν)) m a) (fun b => m.testBit b) i)).2 (nI i) = some (Sum.inl ((enS (bst (fH (wyR ν p) (cn p (nS ν)) m a) (fun b => m.testBit b) (i + 1))).1, (enS (bst (fH (wyR ν p) (cn p (nS ν)) m a) (fun b => m.testBit b) (i + 1))).2, nI (i + 1)))
    unfold md_stopAt_b29
    have hf := fH_le hc (wyR_le ν p) (a := a) hm hi
    rw [h7, if_neg (nI_ge hi (by omega)), bst_S]
    by_cases c : m.testBit i = true
    · obtain ⟨c1, c2, c3, c4⟩ := clr_f m (by omega) i (by omega)
      rw [if_neg (fun z => by rw [tb_sshr0 _ (by omega), tb_nI (by omega), c] at z; cases z), if_pos c]
      have j86 : md_stopAt_j86 ν a1 (nI m) (atI (cn p (nS ν)) a) a4 (enS (bst (fH (wyR ν p) (cn p (nS ν)) m a) (fun b => m.testBit b) i)).1 (enS (bst (fH (wyR ν p) (cn p (nS ν)) m a) (fun b => m.testBit b) i)).2 (nI i) (nI (wyR ν p a i)) = some (Sum.inl ((enS (upB (bst (fH (wyR ν p) (cn p (nS ν)) m a) (fun b => m.testBit b) i) i (fH (wyR ν p) (cn p (nS ν)) m a i))).1, (enS (upB (bst (fH (wyR ν p) (cn p (nS ν)) m a) (fun b => m.testBit b) i) i (fH (wyR ν p) (cn p (nS ν)) m a i))).2, nI (i + 1))) := by
        unfold md_stopAt_j86
        rw [c1]
        refine (mrd_at (ix2 8 (clr m i) i) (by omega) (by decide)).trans ?_
        rw [hT (clr m i) i (c3 c) hi, nI_add, show wyR ν p a i + HH (wyR ν p) (cn p (nS ν)) (clr m i) i = fH (wyR ν p) (cn p (nS ν)) m a i from rfl, nI_1]
        cases e : bst (fH (wyR ν p) (cn p (nS ν)) m a) (fun b => m.testBit b) i with
        | none => exact if_pos rfl
        | some q =>
          obtain ⟨q1, q2⟩ := bH_le hc (wyR_le ν p) hm i (by omega) q e
          show (if nI q.1 = -1 then _ else if nI (fH (wyR ν p) (cn p (nS ν)) m a i) < nI q.2 then _ else _) = some (Sum.inl ((enS (if fH (wyR ν p) (cn p (nS ν)) m a i < q.2 then some (i, fH (wyR ν p) (cn p (nS ν)) m a i) else some q)).1, (enS (if fH (wyR ν p) (cn p (nS ν)) m a i < q.2 then some (i, fH (wyR ν p) (cn p (nS ν)) m a i) else some q)).2, nI (i + 1)))
          rw [if_neg (nI_m1 (by omega))]
          by_cases c5 : fH (wyR ν p) (cn p (nS ν)) m a i < q.2
          · rw [if_pos c5, if_pos (nI_lt c5 (by omega))]; rfl
          · rw [if_neg c5, if_neg (fun z => c5 ((nI_ltI (by omega) (by omega)).mp z))]
      rw [mrd_nI (by omega) (by decide), hr i hi, m_toDepot g hi, mbv_s]
      by_cases c6 : a = cn p (nS ν)
      · rw [if_pos (by unfold atI; rw [if_pos c6]), ← wy_d.2, ← c6]
        rw [← c6] at j86
        exact j86
      · have hac : a < cn p (nS ν) := by omega
        have eat : atI (cn p (nS ν)) a = nI a := if_neg c6
        rw [eat] at j86 ⊢
        rw [if_neg (nI_m1 (by omega)), mrd_nI (by omega) (by decide), mrd_nI (by omega) (by decide), hr a hac, hr i hi, m_apart g hac hi, mbv_s]
        exact j86
    · rw [if_pos ((tb_sshr0 _ (by omega)).mpr (by rw [tb_nI (by omega)]; simpa using c)), if_neg c, nI_1]) (by
    show md_stopAt_b29 ν a1 (nI m) (atI (cn p (nS ν)) a) a4 (enS (bst (fH (wyR ν p) (cn p (nS ν)) m a) (fun b => m.testBit b) (cn p (nS ν)))).1 (enS (bst (fH (wyR ν p) (cn p (nS ν)) m a) (fun b => m.testBit b) (cn p (nS ν)))).2 (nI (cn p (nS ν))) = _
    unfold md_stopAt_b29
    rw [h7, if_pos (nI_le (Nat.le_refl _) (by omega)), show bst (fH (wyR ν p) (cn p (nS ν)) m a) (fun b => m.testBit b) (cn p (nS ν)) = bH (wyR ν p) (cn p (nS ν)) m a from rfl, (bH_s hc hm h0).1]
    rfl) (cn p (nS ν)) 0 FU (by omega) (by unfold FU; omega)
theorem m_stopAt (g : Good ν) (hc : cn p (nS ν) ≤ 8) (h7 : ν 0 77 = nI (cn p (nS ν))) (hr : cOK (ν 56) p (nS ν)) (hT : hoOK (ν 57) (cn p (nS ν)) (wyR ν p) (2 ^ cn p (nS ν))) {j : Nat} (hj : j < cn p (nS ν)) : md_stopAt ν (nI j) = some (nI (psn p (nS ν) (pth (wyR ν p) (cn p (nS ν)) (j + 1)).2)) := by
  have h2k : 2 ^ cn p (nS ν) ≤ 256 := Nat.pow_le_pow_right (by decide) hc
  obtain ⟨af1, af2, af3⟩ := all_f (cn p (nS ν)) hc
  unfold md_stopAt
  rw [h7, af1]
  have hlt := (pth_ok (w := wyR ν p) hc (j + 1) (by omega)).2.2.2 (by omega)
  have key : md_stopAt_l14 ν (nI j) (nI (2 ^ cn p (nS ν) - 1)) (-1) 0 = some (nI (pth (wyR ν p) (cn p (nS ν)) (j + 1)).2) := by
    unfold md_stopAt_l14
    have k2 := seq_loop (f := fun q : Int32 × Int32 × Int32 => md_stopAt_b14 ν (nI j) q.1 q.2.1 q.2.2) (fun i => (nI (pth (wyR ν p) (cn p (nS ν)) i).1, atI (cn p (nS ν)) (pth (wyR ν p) (cn p (nS ν)) i).2, nI i)) (j + 1) (nI (pth (wyR ν p) (cn p (nS ν)) (j + 1)).2) (fun i hi => by
      show md_stopAt_b14 ν (nI j) (nI (pth (wyR ν p) (cn p (nS ν)) i).1) (atI (cn p (nS ν)) (pth (wyR ν p) (cn p (nS ν)) i).2) (nI i) = _
      obtain ⟨h1, h2, h3, -⟩ := pth_ok (w := wyR ν p) hc i (by omega)
      obtain ⟨h4, h5⟩ := pth_n (w := wyR ν p) hc (i := i) (by omega)
      have hl1 := (pth_ok (w := wyR ν p) hc (i + 1) (by omega)).2.2.2 (by omega)
      unfold md_stopAt_b14
      rw [if_neg (fun z => by have := (nI_ltI (a := j) (b := i) (by omega) (by omega)).mp z; omega), m_stnx g hc h7 hr h1 h4 (fun m b z1 z2 => hT m b (by omega) z2) h2, mbv_s, (clr_f _ (by omega) _ (by omega)).1, nI_1]
      have eat : atI (cn p (nS ν)) (pth (wyR ν p) (cn p (nS ν)) (i + 1)).2 = nI (pth (wyR ν p) (cn p (nS ν)) (i + 1)).2 := if_neg (by omega)
      rw [eat]
      rfl) (by
      show md_stopAt_b14 ν (nI j) (nI (pth (wyR ν p) (cn p (nS ν)) (j + 1)).1) (atI (cn p (nS ν)) (pth (wyR ν p) (cn p (nS ν)) (j + 1)).2) (nI (j + 1)) = _
      have eat : atI (cn p (nS ν)) (pth (wyR ν p) (cn p (nS ν)) (j + 1)).2 = nI (pth (wyR ν p) (cn p (nS ν)) (j + 1)).2 := if_neg (by omega)
      unfold md_stopAt_b14
      rw [if_pos (nI_lt (by omega) (by omega)), eat]) (j + 1) 0 FU (by omega) (by unfold FU; omega)
    have e0 : atI (cn p (nS ν)) (pth (wyR ν p) (cn p (nS ν)) 0).2 = -1 := if_pos rfl
    rw [e0] at k2
    exact k2
  rw [key, mbv_s, mrd_nI (by omega) (by decide), hr _ hlt]
theorem sum_loopA {f : Int32 → Int32 → Option ((Int32 × Int32) ⊕ Int32)} {n : Nat} (g : Nat → Int32) (a0 : Int32) (hn : n < 10000) (hs : ∀ i a, i < n → f a (nI i) = some (.inl (a + g i, nI i + 1))) (he : ∀ a, f a (nI n) = some (.inr a)) : miter (fun q => f q.1 q.2) FU (a0, 0) = some (a0 + sm g n) := by
  obtain ⟨e, h1, h2⟩ := miter_cnt (f := fun q : Int32 × Int32 => f q.1 q.2) (fun i (a : Int32) => (a, nI i)) n (fun i a => a = a0 + sm g i) (fun e => e = a0 + sm g n)
    (fun i a hi hI => Or.inl ⟨a + g i, by show f a (nI i) = _; rw [hs i a hi, nI_1], by rw [hI, Int32.add_assoc]; rfl⟩)
    (fun a hI => ⟨a, he a, hI⟩) FU 0 a0 (Nat.zero_le _) (by have : FU = 1048576 := rfl; omega) (by show a0 = a0 + 0; rw [add0])
  rw [← h2]
  exact h1
theorem x_minutes (h : Rel μ ν) {x : Int32} (hx : ∀ s, s < 32 → tb x s = (decide (s < nS ν) && p s)) (y : Int32) : vs_Rounds_minutes μ x y = some (y * ν 0 4 + sm (fun s => if p s = true then ν 12 s else 0) (nS ν)) := by
  have hS := g_S h.2
  have e34 : μ 34 = ν 12 := h.1.2.2.1.2.2.1
  have e85 : μ 8 5 = ν 0 4 := h.1.1.2.2.2.2.1
  unfold vs_Rounds_minutes vs_Rounds_minutes_l10
  rw [e85, sum_loopA (f := vs_Rounds_minutes_b10 μ x) (n := nS ν) (fun s => if p s = true then ν 12 s else 0) (y * ν 0 4) (by omega) (fun i a hi => by
    unfold vs_Rounds_minutes_b10
    have hd : (decide (i < nS ν) && p i) = p i := by simp [hi]
    rw [x_S h.1, hS.1, if_neg (nI_ge hi (by omega)), hasBit_eq _ (by omega), mbv_s, hx i (by omega), hd, mrd_nI (by omega) (by decide), e34]
    by_cases c : p i = true
    · rw [ifb_t c, if_pos c]
    · rw [ifb_f c, if_neg c, add0]) (fun a => by
    unfold vs_Rounds_minutes_b10
    rw [x_S h.1, hS.1, if_pos (nI_le (Nat.le_refl _) (by omega))]), mbv_s]
end
