theorem cn_z {p : Nat → Bool} : ∀ {n : Nat}, cn p n = 0 → ∀ k, k < n → p k = false
  | 0, _, k, hk => absurd hk (Nat.not_lt_zero k)
  | n + 1, h, k, hk => by
    have h' : cn p n + (p n).toNat = 0 := h
    by_cases e : k = n
    · subst e
      cases q : p k
      · rfl
      · rw [q] at h'; simp at h'
    · exact cn_z (n := n) (by omega) k (by omega)
theorem wnt_z {ν : Mm} (hR : nR ν ≤ 16) {v b : Nat} {lim y : Int32} (hy : ∀ r, r < 32 → tb y r = (decide (r < nR ν) && wntB ν v b lim r)) : y = 0 ↔ nI (cn (wntB ν v b lim) (nR ν)) = 0 := by
  have hle := cn_le (wntB ν v b lim) (nR ν)
  constructor
  · intro e
    rw [← wnt_bc hR hy, e]
    decide +kernel
  · intro e
    have e2 : cn (wntB ν v b lim) (nR ν) = 0 := (nI_eq (b := 0) (by omega) (by decide)).mp e
    refine tb_ext (fun j hj => ?_)
    rw [hy j hj, tb_zero]
    by_cases c : j < nR ν
    · rw [cn_z e2 j c]; simp
    · simp [c]
theorem st_dull : ST_dull Rel := by
  intro μ ν a1 a2 h
  unfold vs_dull md_dull
  have hB := g_B h.2
  have hR := (g_R h.2).2
  rw [x_isVan, m_isVan, x_isMuch, in_eq, mbv_s, mbv_s, mbv_s, mbv_s]
  by_cases c1 : ¬ (ix a1 3 = true)
  · rw [ifb_f c1, ifb_f c1]; exact ⟨-1, μ, ν, rfl, rfl, h⟩
  rw [Classical.not_not] at c1
  rw [ifb_t c1, ifb_t c1]
  obtain ⟨v, hv, rfl⟩ := ix_t c1 (by omega)
  by_cases c2 : ¬ (wi a2 1 1000 = true)
  · rw [ifb_f c2, ifb_f c2]; exact ⟨-1, μ, ν, rfl, rfl, h⟩
  rw [Classical.not_not] at c2
  rw [ifb_t c2, ifb_t c2]
  obtain ⟨x, x1, x2⟩ := x_told h (v := v)
  rw [x1, mbv_s]
  unfold vs_dull_l30 md_dull_l27
  have ep : (1 : Int32) + nI v = nI (1 + v) := nI_add 1 v
  obtain ⟨e, e', h1, h2, h3, h4, h5⟩ := lock_loop (f := fun q : Int32 × Int32 × Mm => vs_dull_b30 q.2.2 (nI v) a2 x q.1 q.2.1) (f' := fun q : Int64 × Int32 × Mm => md_dull_b27 q.2.2 (nI v) a2 q.1 q.2.1) (A := Int32 × Mm × Mm) (fun i a => (a.1, nI i, a.2.1)) (fun i a => (asL a.1, nI i, a.2.2)) (nB ν) (fun _ a => absX a.2.1 = absX μ ∧ absM a.2.2 = absM ν) (fun e e' => asL e.1 = e'.1 ∧ absX e.2 = absX μ ∧ absM e'.2 = absM ν) (fun i a hi hI => by
      obtain ⟨p, m, m'⟩ := a
      obtain ⟨i1, i2⟩ := hI
      have i1' : absX m = absX μ := i1
      have i2' : absM m' = absM ν := i2
      have hm : Rel m ν := Rel_abs i1' rfl h
      have hm' : Rel μ m' := Rel_abs rfl i2' h
      have xB : m 2 10 = nI (nB ν) := (x_B hm.1).trans hB.1
      have mB : m' 0 1 = nI (nB ν) := by rw [← nB_abs i2']; exact (g_B hm'.2).1
      have m5 : m' 5 i = ν 5 i := by
        have e1 : m' 5 i = absM m' 5 i := rfl
        rw [e1, i2']; rfl
      obtain ⟨y, u, y1, y2, y3⟩ := x_wanters hm hi x2 a2
      obtain ⟨w, w1, w2⟩ := m_wanted hm' (v := v) (b := i) (by rw [nB_abs i2']; exact hi) a2
      rw [wntB_abs i2', nR_abs i2'] at w1
      have f1 : vs_dull_b30 m (nI v) a2 x p (nI i) = if ν 5 i = nI (1 + v) then (if nI (cn (wntB ν v i a2) (nR ν)) = 0 then some (.inl (p ||| ((1 : Int32) <<< (nI i &&& 31)), nI (i + 1), u)) else some (.inl (p, nI (i + 1), u))) else some (.inl (p, nI (i + 1), m)) := by
        unfold vs_dull_b30
        rw [xB, if_neg (nI_ge hi (by omega)), x_vanOf hm.1 (by omega), mbv_s, y1, nI_1]
        simp only [mbm, van_iff _ hv, wnt_z hR y3]
      have f2 : md_dull_b27 m' (nI v) a2 (asL p) (nI i) = if ν 5 i = nI (1 + v) then (if nI (cn (wntB ν v i a2) (nR ν)) = 0 then some (.inl (asL (p ||| ((1 : Int32) <<< (nI i &&& 31))), nI (i + 1), w)) else some (.inl (asL p, nI (i + 1), w))) else some (.inl (asL p, nI (i + 1), m')) := by
        unfold md_dull_b27
        rw [mB, if_neg (nI_ge hi (by omega)), mrd_nI (by omega) (by decide), m5, ep, w1, nI_1, asL_or, asL_bit i (by omega)]
        rfl
      by_cases c : ν 5 i = nI (1 + v)
      · rw [if_pos c] at f1 f2
        by_cases c3 : nI (cn (wntB ν v i a2) (nR ν)) = 0
        · rw [if_pos c3] at f1 f2
          exact ⟨(p ||| ((1 : Int32) <<< (nI i &&& 31)), u, w), f1, f2, y2.trans i1', w2.trans i2'⟩
        · rw [if_neg c3] at f1 f2
          exact ⟨(p, u, w), f1, f2, y2.trans i1', w2.trans i2'⟩
      · rw [if_neg c] at f1 f2
        exact ⟨(p, m, m'), f1, f2, i1', i2'⟩) (fun a hI => by
      obtain ⟨p, m, m'⟩ := a
      have hm : Rel m ν := Rel_abs hI.1 rfl h
      have hm' : Rel μ m' := Rel_abs rfl hI.2 h
      have xB : m 2 10 = nI (nB ν) := (x_B hm.1).trans hB.1
      have mB : m' 0 1 = nI (nB ν) := by rw [← nB_abs hI.2]; exact (g_B hm'.2).1
      refine ⟨(p, m), (asL p, m'), ?_, ?_, rfl, hI.1, hI.2⟩
      · show vs_dull_b30 m (nI v) a2 x p (nI (nB ν)) = _
        unfold vs_dull_b30
        rw [xB, if_pos (nI_le (Nat.le_refl _) (by omega))]
      · show md_dull_b27 m' (nI v) a2 (asL p) (nI (nB ν)) = _
        unfold md_dull_b27
        rw [mB, if_pos (nI_le (Nat.le_refl _) (by omega))]) (nB ν) 0 FU (0, μ, ν) (by omega) (by unfold FU; omega) ⟨rfl, rfl⟩
  have h1' : miter (fun q : Int32 × Int32 × Mm => vs_dull_b30 q.2.2 (nI v) a2 x q.1 q.2.1) FU (0, 0, μ) = some e := h1
  have h2' : miter (fun q : Int64 × Int32 × Mm => md_dull_b27 q.2.2 (nI v) a2 q.1 q.2.1) FU (asL 0, 0, ν) = some e' := h2
  rw [asL_0] at h2'
  rw [h1', h2']
  refine ⟨asL e.1, e.2, e'.2, rfl, ?_, Rel_abs h4 h5 h⟩
  show some (e'.1, e'.2) = _
  rw [h3]
