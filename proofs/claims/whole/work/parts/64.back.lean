theorem st_back : ST_back Rel := by
  intro μ ν a1 a2 a3 h
  unfold vs_back md_back
  have hB := (g_B h.2).2
  have hR := (g_R h.2).2
  have hS := (g_S h.2).2
  have hT := g_T h.2
  rw [x_pair h.1 h.2, m_isOut h.2, x_isVan, m_isVan, m_isR h.2, mbv_s, mbv_s, mbv_s, mbv_s, mbv_s]
  by_cases c1 : ¬ (ix a1 (nB ν) = true)
  · have c1' : ix a1 (nB ν) = false := by cases q : ix a1 (nB ν) <;> simp_all
    rw [c1', Bool.and_false, Bool.false_and, ifb_f', ifb_f']
    exact ⟨-1, μ, ν, rfl, rfl, h⟩
  rw [Classical.not_not] at c1
  obtain ⟨b, hb, rfl⟩ := ix_t c1 (by omega)
  have hb32 : b < 32 := by omega
  rw [c1, Bool.and_true, Bool.true_and, nI_clamp (by omega)]
  by_cases c3 : ¬ (ix a3 (nR ν) = true)
  · rw [ifb_f c3]
    refine ⟨-1, μ, ν, rfl, ?_, h⟩
    split
    · rfl
    · split
      · rfl
      · rw [ifb_f c3]
  rw [Classical.not_not] at c3
  rw [ifb_t c3, ifb_t c3]
  obtain ⟨r3, hr3, rfl⟩ := ix_t c3 (by omega)
  by_cases c2 : ¬ (ix a2 3 = true)
  · rw [ifb_f c2, ifb_f c2]
    refine ⟨-1, μ, ν, rfl, ?_, h⟩
    split <;> rfl
  rw [Classical.not_not] at c2
  rw [ifb_t c2, ifb_t c2]
  obtain ⟨v, hv, rfl⟩ := ix_t c2 (by omega)
  obtain ⟨n, hn, hA⟩ := g_A h.2
  have xA : μ 6 4 = nI n := (x_A h.1).trans hA
  rw [x_isFull xA hn, mbv_s, x_holder h.1 hb32, mbv_s]
  by_cases hw : ¬ (wi (ν 5 b) 10 25 = true)
  · rw [if_neg hw, ifb_f hw, if_pos rfl]
    refine ⟨-1, μ, ν, ?_, rfl, h⟩
    split <;> rfl
  rw [Classical.not_not] at hw
  obtain ⟨r, hr, er⟩ := place_out (h.2.2.1.1 b hb).2.2.2.2.1 hw hR
  have hr16 : r < 16 := Nat.lt_of_lt_of_le hr hR
  have hr316 : r3 < 16 := Nat.lt_of_lt_of_le hr3 hR
  have e10 : ν 5 b - 10 = nI r := by rw [er, sub10]
  have cr : ¬ (nI r = -1) := nI_v (by omega)
  obtain ⟨s, hs, es⟩ := g_home h.2 hr3
  have hs10 : s < 10 := Nat.lt_of_lt_of_le hs hS
  have e25 : μ 25 r3 = nI s := by rw [h.1.2.2.2.1.1, es]
  rw [if_pos hw, ifb_t hw, e10, if_neg cr, mrd_nI hr316 (by decide), e25, x_T h.1, hT.1, x_goesTo h.1 h.2 hv hs (by omega), mbv_s, x_fits h.1 h.2 hb32 hv, mbv_s]
  rw [mrd_nI hr316 (by decide), es, m_isVisited hv hs10 (by omega), mbv_s, m_fits h.2 hb32 hv, mbv_s]
  by_cases hf : n = 200
  · rw [ifb_t (by simp [hf]), if_pos (show ν 0 61 = 200 by rw [hA, hf]; rfl)]
    refine ⟨-1, μ, ν, rfl, ?_, h⟩
    split
    · rfl
    · split <;> rfl
  have c61 : ¬ (ν 0 61 = 200) := by rw [hA]; exact nI_ne (b := 200) (by omega) (by decide) hf
  rw [ifb_f (by simp [hf]), if_neg c61]
  by_cases cv : ¬ (visB ν v s (nT ν) = true)
  · rw [ifb_f cv, ifb_f cv]
    exact ⟨-1, μ, ν, rfl, rfl, h⟩
  rw [Classical.not_not] at cv
  rw [ifb_t cv, ifb_t cv]
  by_cases cf : ¬ (fitV ν b v = true)
  · rw [ifb_f cf, ifb_f cf]
    exact ⟨-1, μ, ν, rfl, rfl, h⟩
  rw [Classical.not_not] at cf
  rw [ifb_t cf, ifb_t cf]
  have hd : gI (ν 6 b) 300 := (h.2.2.1.1 b hb).2.2.2.2.2.2 ⟨r, er, hr16⟩
  obtain ⟨μ', x1, x2, x3⟩ := x_fine h hr hb hd
  obtain ⟨ν', l1, m2, m3⟩ := m_law h hr hb (lateV ν b) 102 0 10000 0 (by decide) (by decide)
  have h' : Rel μ' ν' := Rel_abs x2 m2 h
  have n0 := m3 0 (by decide) (by decide)
  have hA' : ν' 0 61 = nI n := by rw [n0]; exact hA
  have xA' : μ' 6 4 = nI n := (x_A h'.1).trans hA'
  have hnB : nB ν' = nB ν := by unfold nB; rw [n0]
  have hnR : nR ν' = nR ν := by unfold nR; rw [n0]
  have er' : ν' 5 b = nI (10 + r) := by rw [m3 5 (by decide) (by decide)]; exact er
  have ep : (1 : Int32) + nI v = nI (1 + v) := nI_add 1 v
  have hp : ∀ r', r' < 16 → nI (1 + v) ≠ nI (10 + r') := fun r' hr' => nI_ne (by omega) (by omega) (by omega)
  have hn2 : n < 200 := by omega
  rw [← hT.1, x1]
  rw [mrd_nI hb32 (by decide), mrd_nI hb32 (by decide), mrd_nI hb32 (by decide), e10]
  have hj : ∀ y3, y3 = lateV ν b → md_back_j105 ν (nI b) (nI v) (nI r3) (nI r) (nI r) (nI b) y3 = (if nI r = nI r3 then some (fineV ν r b, stM ν' n b r (fineV ν r b) (nI (1 + v))) else some (fineV ν r b, stM (mset (mset ν' 8 b (ν' 8 b + 1)) 29 s (ν' 29 s + 1)) n b r (fineV ν r b) (nI (1 + v)))) := by
    intro y3 hy
    subst hy
    unfold md_back_j105
    rw [m_feels h.2 hr hb, mbv_s, l1]
    simp only [mbm]
    rw [mrd_nI hr16 (by decide), mwr_nI hr16 (by decide), mwr_nI hb32 (by decide), ep]
    rw [m_logs (ν := mset (mset ν' 18 r (ν' 18 r + bnd (lawV ν r b (lateV ν b) 102 0) 0 10000)) 6 b (-1)) hA' hn2 hb32, mbv_s]
    rw [mrd_nI hb32 (by decide), mwr_nI hb32 (by decide), mrd_nI hr316 (by decide)]
    have e15 : mset (mset ν' 18 r (ν' 18 r + bnd (lawV ν r b (lateV ν b) 102 0) 0 10000)) 8 b (mset ν' 18 r (ν' 18 r + bnd (lawV ν r b (lateV ν b) 102 0) 0 10000) 8 b + 1) 15 r3 = nI s := by
      show ν' 15 r3 = nI s
      rw [m3 15 (by decide) (by decide)]; exact es
    rw [e15, mrd_nI hr316 (by decide), e15, mrd_nI hs10 (by decide), mwr_nI hs10 (by decide), mwr_nI hb32 (by decide)]
    rw [m_logs (n := n) (by exact hA') hn2 hb32, mbv_s]
    by_cases c : nI r = nI r3
    · rw [if_pos c, if_pos c]; rfl
    · rw [if_neg c, if_neg c]
      unfold stM fineV
      rw [mset_comm (ν := ν') (c := 18) (c' := 8) (by decide), mset_comm (c := 18) (c' := 29) (by decide)]
      rfl
  have hm : (if ν 0 0 ≤ ν 6 b then md_back_j105 ν (nI b) (nI v) (nI r3) (nI r) (nI r) (nI b) 0 else md_back_j105 ν (nI b) (nI v) (nI r3) (nI r) (nI r) (nI b) (ν 0 0 - ν 6 b)) = (if nI r = nI r3 then some (fineV ν r b, stM ν' n b r (fineV ν r b) (nI (1 + v))) else some (fineV ν r b, stM (mset (mset ν' 8 b (ν' 8 b + 1)) 29 s (ν' 29 s + 1)) n b r (fineV ν r b) (nI (1 + v)))) := by
    by_cases c : ν 0 0 ≤ ν 6 b
    · rw [if_pos c]; exact hj 0 (by unfold lateV; rw [if_pos c])
    · rw [if_neg c]; exact hj _ (by unfold lateV; rw [if_neg c])
  rw [hm]
  simp only [mbm]
  by_cases c : nI r = nI r3
  · rw [if_pos c, if_pos c, ep, x_settle xA' hn2 hb32 hr16, mbv_s]
    exact ⟨_, _, _, rfl, rfl, settle_rel h' hn2 hA' (by rw [hnB]; exact hb) hr16 er' hp (Or.inl ⟨1 + v, by omega, rfl⟩)⟩
  · rw [if_neg c, if_neg c, mrd_nI hb32 (by decide), mwr_nI hb32 (by decide), mrd_nI hr316 (by decide)]
    have e25' : mset μ' 22 b (μ' 22 b + 1) 25 r3 = nI s := by
      show μ' 25 r3 = nI s
      rw [x3 25 (by decide) (by decide) (by decide)]; exact e25
    rw [e25', mrd_nI hs10 (by decide), mwr_nI hs10 (by decide), ep, x_settle (n := n) (by exact xA') hn2 hb32 hr16, mbv_s]
    exact ⟨_, _, _, rfl, rfl, settle_rel (mix_rel h' b s) hn2 hA' (by show b < nB ν'; rw [hnB]; exact hb) hr16 er' hp (Or.inl ⟨1 + v, by omega, rfl⟩)⟩
