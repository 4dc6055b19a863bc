theorem tellB_abs {ν ν' : Mm} (h : absM ν' = absM ν) (v r : Nat) : tellB ν' v r = tellB ν v r := by
  have e1 : tellB ν' v r = tellB (absM ν') v r := rfl
  have e2 : tellB ν v r = tellB (absM ν) v r := rfl
  rw [e1, e2, h]
theorem wntB_abs {ν ν' : Mm} (h : absM ν' = absM ν) (v b : Nat) (lim : Int32) : wntB ν' v b lim = wntB ν v b lim := by
  funext r
  unfold wntB
  rw [tellB_abs h, wishV_abs h]
theorem nR_abs {ν ν' : Mm} (h : absM ν' = absM ν) : nR ν' = nR ν := by
  have e1 : nR ν' = nR (absM ν') := rfl
  rw [e1, h]; rfl
theorem nB_abs {ν ν' : Mm} (h : absM ν' = absM ν) : nB ν' = nB ν := by
  have e1 : nB ν' = nB (absM ν') := rfl
  rw [e1, h]; rfl
theorem wnt_bc {ν : Mm} (hR : nR ν ≤ 16) {v b : Nat} {lim y : Int32} (hy : ∀ r, r < 32 → tb y r = (decide (r < nR ν) && wntB ν v b lim r)) : bc y = cn (wntB ν v b lim) (nR ν) := by
  unfold bc
  rw [bcn_cn]
  refine cn_lt (by omega) (fun q hq => ?_) (fun q h1 h2 => ?_)
  · rw [hy q (by omega)]; simp [hq]
  · rw [hy q h2]
    have : ¬ q < nR ν := by omega
    simp [this]
theorem st_onward : ST_onward Rel := by
  intro μ ν a1 a2 h
  unfold vs_onward md_onward
  have hB := (g_B h.2).2
  have hR := (g_R h.2).2
  rw [x_hasB h.1 h.2, m_isB h.2, x_isMuch, in_eq, mbv_s, mbv_s, mbv_s, mbv_s]
  by_cases c1 : ¬ (ix a1 (nB ν) = true)
  · rw [ifb_f c1, ifb_f c1]; exact ⟨-1, μ, ν, rfl, rfl, h⟩
  rw [Classical.not_not] at c1
  rw [ifb_t c1, ifb_t c1]
  obtain ⟨b, hb, rfl⟩ := ix_t c1 (by omega)
  by_cases c2 : ¬ (wi a2 1 1000 = true)
  · rw [ifb_f c2, ifb_f c2]; exact ⟨-1, μ, ν, rfl, rfl, h⟩
  rw [Classical.not_not] at c2
  rw [ifb_t c2, ifb_t c2]
  unfold vs_onward_l29 md_onward_l30
  obtain ⟨e, e', h1, h2, h3, h4, h5⟩ := lock_loop (f := fun q : Int32 × Int32 × Int32 × Mm => vs_onward_b29 q.2.2.2 (nI b) a2 q.1 q.2.1 q.2.2.1) (f' := fun q : Int32 × Int32 × Int32 × Mm => md_onward_b30 q.2.2.2 (nI b) a2 q.1 q.2.1 q.2.2.1) (A := Int32 × Int32 × Mm × Mm) (fun i a => (a.1, a.2.1, nI i, a.2.2.1)) (fun i a => (a.1, a.2.1, nI i, a.2.2.2)) 3 (fun _ a => absX a.2.2.1 = absX μ ∧ absM a.2.2.2 = absM ν) (fun e e' => e.1 = e'.1 ∧ absX e.2 = absX μ ∧ absM e'.2 = absM ν) (fun i a hi hI => by
      obtain ⟨p, q, m, m'⟩ := a
      obtain ⟨i1, i2⟩ := hI
      have i1' : absX m = absX μ := i1
      have i2' : absM m' = absM ν := i2
      have hm : Rel m ν := Rel_abs i1' rfl h
      have hm' : Rel μ m' := Rel_abs rfl i2' h
      obtain ⟨x, x1, x2⟩ := x_told hm (v := i)
      obtain ⟨y, u, y1, y2, y3⟩ := x_wanters hm hb x2 a2
      obtain ⟨w, w1, w2⟩ := m_wanted hm' (v := i) (b := b) (by rw [nB_abs i2']; exact hb) a2
      rw [wntB_abs i2', nR_abs i2'] at w1
      have f1 : vs_onward_b29 m (nI b) a2 p q (nI i) = if nI (cn (wntB ν i b a2) (nR ν)) ≤ q then some (.inl (p, q, nI (i + 1), u)) else some (.inl (nI i, nI (cn (wntB ν i b a2) (nR ν)), nI (i + 1), u)) := by
        unfold vs_onward_b29
        rw [if_neg (by exact nI_ge (b := 3) hi (by decide)), x1, mbv_s, y1]
        simp only [mbm]
        rw [bitCount_eq, mbv_s, wnt_bc hR y3, nI_1]
      have f2 : md_onward_b30 m' (nI b) a2 p q (nI i) = if q < nI (cn (wntB ν i b a2) (nR ν)) then some (.inl (nI i, nI (cn (wntB ν i b a2) (nR ν)), nI (i + 1), w)) else some (.inl (p, q, nI (i + 1), w)) := by
        unfold md_onward_b30
        rw [if_neg (by exact nI_ge (b := 3) hi (by decide)), w1]
        simp only [mbm]
        rw [nI_1]
      by_cases c : q < nI (cn (wntB ν i b a2) (nR ν))
      · rw [if_neg (i32_nle.mpr c)] at f1
        rw [if_pos c] at f2
        exact ⟨(nI i, nI (cn (wntB ν i b a2) (nR ν)), u, w), f1, f2, y2.trans i1', w2.trans i2'⟩
      · rw [if_pos (Classical.not_not.mp (fun z => c (i32_nle.mp z)))] at f1
        rw [if_neg c] at f2
        exact ⟨(p, q, u, w), f1, f2, y2.trans i1', w2.trans i2'⟩) (fun a hI => by
      obtain ⟨p, q, m, m'⟩ := a
      exact ⟨(p, m), (p, m'), rfl, rfl, rfl, hI.1, hI.2⟩) 3 0 FU (-2, 0, μ, ν) (by omega) (by unfold FU; omega) ⟨rfl, rfl⟩
  have h1' : miter (fun q : Int32 × Int32 × Int32 × Mm => vs_onward_b29 q.2.2.2 (nI b) a2 q.1 q.2.1 q.2.2.1) FU (-2, 0, 0, μ) = some e := h1
  have h2' : miter (fun q : Int32 × Int32 × Int32 × Mm => md_onward_b30 q.2.2.2 (nI b) a2 q.1 q.2.1 q.2.2.1) FU (-2, 0, 0, ν) = some e' := h2
  rw [h1', h2']
  refine ⟨e.1, e.2, e'.2, rfl, ?_, Rel_abs h4 h5 h⟩
  show some (e'.1, e'.2) = _
  rw [h3]
