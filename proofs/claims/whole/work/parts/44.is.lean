theorem st_bookIs : ST_bookIs Rel := by
  intro μ ν a1 a2 h
  unfold vs_bookIs md_bookIs
  simp only [x_hasB h.1 h.2, m_isB h.2, mbv_s]
  have hB := (g_B h.2).2
  cases h1 : ix a1 (nB ν)
  · exact ⟨-1, rfl, rfl, h⟩
  obtain ⟨b, hb, rfl⟩ := ix_t h1 (by omega)
  have hb32 : b < 32 := by omega
  obtain ⟨b1, b2, b3, b4, b5, b6, b7, b8⟩ := h.1.2.1
  simp only [ifT, mrd_nI hb32 (show 32 < 2 ^ 31 by decide), b5, b6, b7, b8, bitCount_eq, mbv_s, m_whoHad h.2 hb32, x_whoHad h.1 h.2 hb32]
  by_cases e0 : a2 = 0
  · simp only [e0, if_true]; exact ⟨_, rfl, rfl, h⟩
  by_cases e1 : a2 = 1
  · simp only [if_neg e0, if_pos e1]; exact ⟨_, rfl, rfl, h⟩
  by_cases e2 : a2 = 2
  · simp only [if_neg e0, if_neg e1, if_pos e2]; exact ⟨_, rfl, rfl, h⟩
  by_cases e3 : a2 = 3
  · simp only [if_neg e0, if_neg e1, if_neg e2, if_pos e3]; exact ⟨_, rfl, rfl, h⟩
  by_cases e4 : a2 = 4
  · simp only [if_neg e0, if_neg e1, if_neg e2, if_neg e3, if_pos e4]; exact ⟨_, rfl, rfl, h⟩
  simp only [if_neg e0, if_neg e1, if_neg e2, if_neg e3, if_neg e4]; exact ⟨_, rfl, rfl, h⟩
theorem st_readerIs : ST_readerIs Rel := by
  intro μ ν a1 a2 h
  unfold vs_readerIs md_readerIs
  simp only [x_hasR h.1 h.2, m_isR h.2, mbv_s]
  have hR := (g_R h.2).2
  cases h1 : ix a1 (nR ν)
  · exact ⟨-1, rfl, rfl, h⟩
  obtain ⟨r, hr, rfl⟩ := ix_t h1 (by omega)
  have hr16 : r < 16 := by omega
  obtain ⟨r1, r2, r3, r4, r5⟩ := h.1.2.2.2.1
  have ho := h.1.2.2.2.2.2.2.2.2.2.1 r hr16
  simp only [ifT, mrd_nI hr16 (show 16 < 2 ^ 31 by decide), r4, r5, bitCount_eq, mbv_s, m_outWith h.2 r, m_had3 h.2 hr16, x_had3 h.1 h.2 hr16, ho, m_asksOf h.2 hr, x_ofReader h.1 h.2 hr]
  by_cases e0 : a2 = 0
  · simp only [e0, if_true]; exact ⟨_, rfl, rfl, h⟩
  by_cases e1 : a2 = 1
  · simp only [if_neg e0, if_pos e1]; exact ⟨_, rfl, rfl, h⟩
  by_cases e2 : a2 = 2
  · simp only [if_neg e0, if_neg e1, if_pos e2]; exact ⟨_, rfl, rfl, h⟩
  by_cases e3 : a2 = 3
  · simp only [if_neg e0, if_neg e1, if_neg e2, if_pos e3]; exact ⟨_, rfl, rfl, h⟩
  by_cases e4 : a2 = 4
  · simp only [if_neg e0, if_neg e1, if_neg e2, if_neg e3, if_pos e4]; exact ⟨_, rfl, rfl, h⟩
  simp only [if_neg e0, if_neg e1, if_neg e2, if_neg e3, if_neg e4]; exact ⟨_, rfl, rfl, h⟩
theorem st_council : ST_council Rel := by
  intro μ ν a1 a2 h
  unfold vs_council md_council
  simp only [x_hasS h.1 h.2, m_isS h.2, within_eq, in_eq, mbv_s]
  have hS := (g_S h.2).2
  cases h1 : ix a1 (nS ν)
  · exact ⟨-1, rfl, rfl, h⟩
  cases h2 : wi a2 1 16
  · exact ⟨-1, rfl, rfl, h⟩
  obtain ⟨s, hs, rfl⟩ := ix_t h1 (by omega)
  have hs10 : s < 10 := by omega
  simp only [ifT, mrd_nI hs10 (show 10 < 2 ^ 31 by decide), bitCount_eq, mbv_s, m_readersOf h.2 s, x_readersOf h.1 h.2 hs10]
  by_cases e : a2 ≤ nI (cntR ν s)
  · simp only [if_pos e]; exact ⟨_, rfl, rfl, h⟩
  · simp only [if_neg e]; exact ⟨_, rfl, rfl, h⟩
theorem st_put : ST_put Rel := by
  intro μ ν a1 a2 h
  unfold vs_put md_put
  simp only [x_hasS h.1 h.2, m_isS h.2, in_eq, mbv_s]
  have hS := (g_S h.2).2
  cases h1 : ix a1 (nS ν)
  · exact ⟨-1, rfl, rfl, h⟩
  obtain ⟨s, hs, rfl⟩ := ix_t h1 (by omega)
  have hs10 : s < 10 := by omega
  have e37 : μ 37 = ν 24 := h.1.2.2.1.2.2.2.2.2.1
  have hp := h.1.2.2.2.2.2.2.1 s hs
  simp only [ifT, mrd_nI hs10 (show 10 < 2 ^ 31 by decide), e37]
  by_cases e0 : a2 = 0
  · subst e0
    rw [if_pos rfl]
    refine ⟨ν 24 s, rfl, ?_, h⟩
    show (if ν 24 s = -1 then some (-1) else if (0 : Int32) = 0 then some (ν 24 s) else some (ν 25 s)) = some (ν 24 s)
    by_cases e : ν 24 s = -1
    · rw [if_pos e, e]
    · rw [if_neg e, if_pos rfl]
  by_cases e1 : a2 = 1
  · subst e1
    rw [if_neg e0, if_pos rfl]
    refine ⟨μ 38 s, rfl, ?_, h⟩
    show (if ν 24 s = -1 then some (-1) else if (1 : Int32) = 0 then some (ν 24 s) else some (ν 25 s)) = some (μ 38 s)
    by_cases e : ν 24 s = -1
    · rw [if_pos e, hp.2 e]
    · rw [if_neg e, if_neg e0, hp.1 e]
  · rw [if_neg e0, if_neg e1]
    have : wi a2 0 1 = false := by
      cases hw : wi a2 0 1
      · rfl
      · obtain ⟨k, -, hk, rfl⟩ := wi_r (lo := 0) (hi := 1) hw (by decide) (by decide)
        rcases (show k = 0 ∨ k = 1 by omega) with rfl | rfl
        · exact absurd rfl e0
        · exact absurd rfl e1
    rw [this]
    exact ⟨-1, rfl, rfl, h⟩
theorem st_where : ST_where Rel := by
  intro μ ν a1 a2 a3 h
  unfold vs_where md_where
  simp only [x_hasB h.1 h.2, m_isB h.2, within_eq, in_eq, mbv_s, x_T h.1]
  cases h1 : ix a1 (nB ν)
  · exact ⟨-1, rfl, rfl, h⟩
  cases h2 : wi a2 0 (ν 0 0)
  · exact ⟨-1, rfl, rfl, h⟩
  cases h3 : wi a3 a2 199
  · exact ⟨-1, rfl, rfl, h⟩
  simp only [ifT]
  unfold vs_Acts_placeOf vs_Acts_placeOf_l6 md_where_l39
  obtain ⟨n, hn, e61⟩ := h.2.1.2.2.2.2.2.2
  have e6 : μ 6 4 = ν 0 61 := h.1.1.2.2.2.2.2.2.2.2
  obtain ⟨t1, t2, t3, t4⟩ := h.1.2.2.2.2.2.1
  have eb : (fun q : Int32 × Int32 => vs_Acts_placeOf_b6 μ a1 a2 a3 q.1 q.2) = fun q => md_where_b39 ν a1 a2 a3 q.1 q.2 := by
    funext q
    show vs_Acts_placeOf_b6 μ a1 a2 a3 q.1 q.2 = md_where_b39 ν a1 a2 a3 q.1 q.2
    unfold vs_Acts_placeOf_b6 md_where_b39 mrd
    rw [e6, t1, t2, t3, t4]
  rw [eb]
  obtain ⟨e, he⟩ := loop_some (f := md_where_b39 ν a1 a2 a3) (n := n) (by omega) (fun i a hi => by
    unfold md_where_b39
    rw [e61, if_neg (nI_ge hi (by omega))]
    have hi2 : i < 200 := by omega
    simp only [mrd_nI hi2 (show 200 < 2 ^ 31 by decide)]
    split
    · split
      · exact ⟨_, rfl⟩
      · split
        · exact ⟨_, rfl⟩
        · exact ⟨_, rfl⟩
    · exact ⟨_, rfl⟩) (fun a => by
    unfold md_where_b39
    rw [e61, if_pos (nI_le (Nat.le_refl _) (by omega))]
    exact ⟨_, rfl⟩) 0
  rw [he]
  exact ⟨e, rfl, rfl, h⟩
theorem st_counts : ST_counts Rel := by
  intro μ ν a1 a2 h
  unfold vs_counts md_counts
  have hS := (g_S h.2).2
  simp only [x_hasS h.1 h.2, m_isS h.2, within_eq, in_eq, x_isVan, m_isVan, mbv_s]
  by_cases e0 : a1 = 0
  · simp only [if_pos e0]
    cases h1 : ix a2 (nS ν)
    · exact ⟨-1, rfl, rfl, h⟩
    obtain ⟨s, hs, rfl⟩ := ix_t h1 (by omega)
    simp only [ifT, mrd_nI (show s < 10 by omega) (show 10 < 2 ^ 31 by decide), x_loansOf h.1 h.2 (show s < 10 by omega), mbv_s]
    exact ⟨_, rfl, rfl, h⟩
  simp only [if_neg e0]
  by_cases e1 : a1 = 1
  · simp only [if_pos e1]
    cases h1 : wi a2 0 7
    · exact ⟨-1, rfl, rfl, h⟩
    obtain ⟨k, -, hk, rfl⟩ := wi_r (lo := 0) (hi := 7) h1 (by decide) (by decide)
    simp only [ifT, mrd_nI (show k < 8 by omega) (show 8 < 2 ^ 31 by decide), x_loansOfKind h.1 h.2 (show k < 8 by omega), mbv_s]
    exact ⟨_, rfl, rfl, h⟩
  simp only [if_neg e1]
  by_cases e2 : a1 = 2
  · simp only [if_pos e2]
    cases h1 : ix a2 3
    · exact ⟨-1, rfl, rfl, h⟩
    obtain ⟨v, hv, rfl⟩ := ix_t h1 (by decide)
    simp only [ifT, mrd_nI hv (show 3 < 2 ^ 31 by decide), h.1.2.2.2.2.1.2]
    exact ⟨_, rfl, rfl, h⟩
  simp only [if_neg e2]
  by_cases e3 : a1 = 3
  · simp only [if_pos e3]
    cases h1 : ix a2 (nS ν)
    · exact ⟨-1, rfl, rfl, h⟩
    obtain ⟨s, hs, rfl⟩ := ix_t h1 (by omega)
    simp only [ifT, x_borrowersOf h.1 h.2 s, m_borrowersOf h.2 s, mbv_s]
    exact ⟨_, rfl, rfl, h⟩
  simp only [if_neg e3]
  by_cases e4 : a1 = 4
  · simp only [if_pos e4]
    cases h1 : ix a2 (nS ν)
    · exact ⟨-1, rfl, rfl, h⟩
    obtain ⟨s, hs, rfl⟩ := ix_t h1 (by omega)
    simp only [ifT, mrd_nI (show s < 10 by omega) (show 10 < 2 ^ 31 by decide), h.1.2.2.1.2.2.2.2.2.2]
    exact ⟨_, rfl, rfl, h⟩
  simp only [if_neg e4]
  by_cases e5 : a1 = 5
  · simp only [if_pos e5]
    by_cases e6 : a2 = 0
    · simp only [if_pos e6]
      refine ⟨ν 0 35, ?_, rfl, h⟩
      refine (mrd_at (k := 0) rfl (by decide) (by decide)).trans ?_
      refine (mrd_at (k := 1) rfl (by decide) (by decide)).trans ?_
      refine (mrd_at (k := 2) rfl (by decide) (by decide)).trans ?_
      rw [h.1.2.2.2.2.1.2, h.2.2.2.2.2.2.2.2.2.2.2.2]
    · simp only [if_neg e6]; exact ⟨_, rfl, rfl, h⟩
  simp only [if_neg e5]; exact ⟨_, rfl, rfl, h⟩
