def wntB (ν : Mm) (v b : Nat) (lim : Int32) (r : Nat) : Bool := tellB ν v r && !decide (wishV ν r b 0 < lim)
theorem x_wanters {μ ν : Mm} (h : Rel μ ν) {v b : Nat} (hb : b < nB ν) {x : Int32} (hx : ∀ r, r < 32 → tb x r = (decide (r < nR ν) && tellB ν v r)) (lim : Int32) : ∃ y μ', vs_wantersOf μ (nI b) x lim = some (y, μ') ∧ absX μ' = absX μ ∧ ∀ r, r < 32 → tb y r = (decide (r < nR ν) && wntB ν v b lim r) := by
  have hR := g_R h.2
  unfold vs_wantersOf vs_wantersOf_l6
  obtain ⟨e, h1, h2, h3⟩ := miter_cnt (f := fun q : Int32 × Int32 × Mm => vs_wantersOf_b6 q.2.2 (nI b) x lim q.1 q.2.1) (fun i (a : Int32 × Mm) => (a.1, nI i, a.2)) (nR ν) (fun i a => absX a.2 = absX μ ∧ ∀ r, r < 32 → tb a.1 r = (decide (r < i) && wntB ν v b lim r)) (fun e => absX e.2 = absX μ ∧ ∀ r, r < 32 → tb e.1 r = (decide (r < nR ν) && wntB ν v b lim r)) (fun i a hi hI => by
      left
      obtain ⟨acc, m⟩ := a
      obtain ⟨i1, i2⟩ := hI
      have hm : Rel m ν := Rel_abs i1 rfl h
      have xR : m 3 7 = nI (nR ν) := (x_R hm.1).trans hR.1
      obtain ⟨m', w1, w2, -⟩ := x_wish hm hi hb 0
      have hbit := hx i (by omega)
      have hd : decide (i < nR ν) = true := by simp [hi]
      rw [hd, Bool.true_and] at hbit
      have hstep : ∀ z : Int32, (∀ r, r < 32 → tb z r = (decide (r < i) && wntB ν v b lim r)) → wntB ν v b lim i = false → ∀ r, r < 32 → tb z r = (decide (r < i + 1) && wntB ν v b lim r) := by
        intro z hz hw r hr
        rw [hz r hr]
        by_cases c : r = i
        · subst c; rw [hw]; simp
        · have : (r < i) ↔ (r < i + 1) := by omega
          simp [this]
      have hb6 : vs_wantersOf_b6 m (nI b) x lim acc (nI i) = if tellB ν v i = true then (if wishV ν i b 0 < lim then some (.inl (acc, nI (i + 1), m')) else some (.inl (acc ||| ((1 : Int32) <<< (nI i &&& 31)), nI (i + 1), m'))) else some (.inl (acc, nI (i + 1), m)) := by
        unfold vs_wantersOf_b6
        rw [xR, if_neg (nI_ge hi (by omega)), hasBit_eq _ (by omega), mbv_s, hbit, x_T hm.1, w1, nI_1]
        by_cases c : tellB ν v i = true
        · rw [ifb_t c, if_pos c]; rfl
        · rw [ifb_f c, if_neg c]
      by_cases c : tellB ν v i = true
      · rw [if_pos c] at hb6
        by_cases c2 : wishV ν i b 0 < lim
        · rw [if_pos c2] at hb6
          exact ⟨(acc, m'), hb6, w2.trans i1, hstep acc i2 (by unfold wntB; simp [c2])⟩
        · rw [if_neg c2] at hb6
          refine ⟨(acc ||| ((1 : Int32) <<< (nI i &&& 31)), m'), hb6, w2.trans i1, fun r hr => ?_⟩
          show tb (acc ||| ((1 : Int32) <<< (nI i &&& 31))) r = _
          rw [tb_set _ (by omega) hr, i2 r hr]
          by_cases c3 : r = i
          · subst c3
            have : wntB ν v b lim r = true := by unfold wntB; simp [c, c2]
            rw [this]; simp
          · have : (r < i) ↔ (r < i + 1) := by omega
            simp [this, c3]
      · rw [if_neg c] at hb6
        exact ⟨(acc, m), hb6, i1, hstep acc i2 (by unfold wntB; simp [c])⟩) (fun a hI => by
      obtain ⟨acc, m⟩ := a
      have hm : Rel m ν := Rel_abs hI.1 rfl h
      have xR : m 3 7 = nI (nR ν) := (x_R hm.1).trans hR.1
      refine ⟨(acc, m), ?_, hI⟩
      show vs_wantersOf_b6 m (nI b) x lim acc (nI (nR ν)) = _
      unfold vs_wantersOf_b6
      rw [xR, if_pos (nI_le (Nat.le_refl _) (by omega))]) FU 0 (0, μ) (by omega) (by unfold FU; omega) ⟨rfl, fun r hr => by show tb 0 r = _; rw [tb_zero]; simp⟩
  have h1' : miter (fun q : Int32 × Int32 × Mm => vs_wantersOf_b6 q.2.2 (nI b) x lim q.1 q.2.1) FU (0, 0, μ) = some e := h1
  rw [h1']
  exact ⟨e.1, e.2, rfl, h2, h3⟩
theorem m_wanted {μ ν : Mm} (h : Rel μ ν) {v b : Nat} (hb : b < nB ν) (lim : Int32) : ∃ ν', md_wantedOn ν (nI v) (nI b) lim = some (nI (cn (wntB ν v b lim) (nR ν)), ν') ∧ absM ν' = absM ν := by
  have hR := g_R h.2
  unfold md_wantedOn md_wantedOn_l6
  obtain ⟨e, h1, h2, h3⟩ := miter_cnt (f := fun q : Int32 × Int32 × Mm => md_wantedOn_b6 q.2.2 (nI v) (nI b) lim q.1 q.2.1) (fun i (a : Int32 × Mm) => (a.1, nI i, a.2)) (nR ν) (fun i a => absM a.2 = absM ν ∧ a.1 = nI (cn (wntB ν v b lim) i)) (fun e => absM e.2 = absM ν ∧ e.1 = nI (cn (wntB ν v b lim) (nR ν))) (fun i a hi hI => by
      left
      obtain ⟨acc, m⟩ := a
      obtain ⟨i1, i2⟩ := hI
      have i2' : acc = nI (cn (wntB ν v b lim) i) := i2
      have hm : Rel μ m := Rel_abs rfl i1 h
      have hnR : nR m = nR ν := by
        have e1 : nR m = nR (absM m) := rfl
        rw [e1, i1]; rfl
      have hnB : nB m = nB ν := by
        have e1 : nB m = nB (absM m) := rfl
        rw [e1, i1]; rfl
      have xR : m 0 3 = nI (nR ν) := by rw [← hnR]; exact (g_R hm.2).1
      have him : i < nR m := by rw [hnR]; exact hi
      obtain ⟨s, hs, es⟩ := g_home hm.2 him
      have hS := (g_S hm.2).2
      obtain ⟨m', w1, w2, -⟩ := m_wish hm him (by rw [hnB]; exact hb) 0
      rw [wishV_abs i1] at w1
      have htl : tellB ν v i = decide (m 13 s = nI v) := by
        have e1 : tellB ν v i = tellB (absM ν) v i := rfl
        rw [e1, ← i1]
        show tellB m v i = _
        unfold tellB
        rw [es, nI_clamp (by omega)]
      have hcn : cn (wntB ν v b lim) (i + 1) = cn (wntB ν v b lim) i + (wntB ν v b lim i).toNat := rfl
      have hb6 : md_wantedOn_b6 m (nI v) (nI b) lim acc (nI i) = if m 13 s = nI v then (if wishV ν i b 0 < lim then some (.inl (acc, nI (i + 1), m')) else some (.inl (acc + 1, nI (i + 1), m'))) else some (.inl (acc, nI (i + 1), m)) := by
        unfold md_wantedOn_b6
        rw [xR, if_neg (nI_ge hi (by omega)), mrd_nI (by omega) (by decide), es, mrd_nI (by omega) (by decide), w1, nI_1, add0]
        rfl
      by_cases c : m 13 s = nI v
      · rw [if_pos c] at hb6
        by_cases c2 : wishV ν i b 0 < lim
        · rw [if_pos c2] at hb6
          refine ⟨(acc, m'), hb6, w2.trans i1, ?_⟩
          have : wntB ν v b lim i = false := by unfold wntB; simp [c2]
          show acc = _
          rw [hcn, this, i2']; rfl
        · rw [if_neg c2] at hb6
          refine ⟨(acc + 1, m'), hb6, w2.trans i1, ?_⟩
          have : wntB ν v b lim i = true := by unfold wntB; rw [htl]; simp [c, c2]
          show acc + 1 = _
          rw [hcn, this, i2', nI_1]; rfl
      · rw [if_neg c] at hb6
        refine ⟨(acc, m), hb6, i1, ?_⟩
        have : wntB ν v b lim i = false := by unfold wntB; rw [htl]; simp [c]
        show acc = _
        rw [hcn, this, i2']; rfl) (fun a hI => by
      obtain ⟨acc, m⟩ := a
      have i1 : absM m = absM ν := hI.1
      have hm : Rel μ m := Rel_abs rfl i1 h
      have hnR : nR m = nR ν := by
        have e1 : nR m = nR (absM m) := rfl
        rw [e1, i1]; rfl
      have xR : m 0 3 = nI (nR ν) := by rw [← hnR]; exact (g_R hm.2).1
      refine ⟨(acc, m), ?_, hI⟩
      show md_wantedOn_b6 m (nI v) (nI b) lim acc (nI (nR ν)) = _
      unfold md_wantedOn_b6
      rw [xR, if_pos (nI_le (Nat.le_refl _) (by omega))]) FU 0 (0, ν) (by omega) (by unfold FU; omega) ⟨rfl, rfl⟩
  have h1' : miter (fun q : Int32 × Int32 × Mm => md_wantedOn_b6 q.2.2 (nI v) (nI b) lim q.1 q.2.1) FU (0, 0, ν) = some e := h1
  rw [h1']
  refine ⟨e.2, ?_, h2⟩
  show some (e.1, e.2) = _
  rw [h3]
