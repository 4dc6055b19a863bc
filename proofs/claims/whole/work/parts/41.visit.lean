def vmem (μ : Mm) (to : Nat → Int32) (s : Nat) (a d : Int32) : Mm := fun c => if c = 41 then to else if c = 35 then upd (μ 35) s a else if c = 36 then upd (μ 36) s d else μ c
theorem vmem_0 (μ : Mm) (s : Nat) (a d : Int32) : mset (mset μ 35 s a) 36 s d = vmem μ (μ 41) s a d := by
  funext c
  by_cases h1 : c = 36
  · subst h1; rfl
  by_cases h2 : c = 35
  · subst h2; rfl
  by_cases h3 : c = 41
  · subst h3; rfl
  simp [mset, vmem, h1, h2, h3]
theorem vmem_1 (μ : Mm) (s i : Nat) (w a d : Int32) : mset (mset (mset μ 41 i w) 35 s a) 36 s d = vmem μ (upd (μ 41) i w) s a d := by
  funext c
  by_cases h1 : c = 36
  · subst h1; rfl
  by_cases h2 : c = 35
  · subst h2; rfl
  by_cases h3 : c = 41
  · subst h3; rfl
  simp [mset, vmem, h1, h2, h3]
theorem vmem_2 (μ : Mm) (s i j : Nat) (w z a d : Int32) : mset (mset (mset (mset μ 41 i w) 41 j z) 35 s a) 36 s d = vmem μ (upd (upd (μ 41) i w) j z) s a d := by
  funext c
  by_cases h1 : c = 36
  · subst h1; rfl
  by_cases h2 : c = 35
  · subst h2; rfl
  by_cases h3 : c = 41
  · subst h3; rfl
  simp [mset, vmem, h1, h2, h3]
theorem visit_rel {μ ν : Mm} (h : Rel μ ν) {s d : Nat} {a : Int32} {to : Nat → Int32} (hs : s < nS ν) (hd : d < 14) (ha : gO a 2) (ht : dTold (nS ν) to (upd (ν 13) s a) (upd (ν 14) s (nI d))) : Rel (vmem μ to s a (nI d)) (mset (mset ν 13 s a) 14 s (nI d)) := by
  obtain ⟨⟨n, rb, ⟨s1, s2, s3, s4, s5, s6⟩, rr, rv, ra, hpv, hhad, hkind, hout, hrd, htold, hrest⟩, ⟨gn, gb, gsh, gst, grest⟩⟩ := h
  refine ⟨⟨n, rb, ⟨s1, s2, s3, ?_, ?_, s6⟩, rr, rv, ra, hpv, hhad, hkind, hout, hrd, ht, hrest⟩, ⟨gn, gb, gsh, ⟨fun s' hs' => ?_, fun s' hs' => ?_⟩, grest⟩⟩
  · show upd (μ 35) s a = upd (ν 13) s a; rw [s4]
  · show upd (μ 36) s (nI d) = upd (ν 14) s (nI d); rw [s5]
  · have hs2 : nS ν ≤ s' := hs'
    show upd (ν 14) s (nI d) s' = 0
    rw [upd_n (by omega)]
    exact gst.1 s' hs'
  · obtain ⟨q1, q2, q3, q4, q5, q6, q7⟩ := gst.2 s' hs'
    show gI (ν 10 s') 99 ∧ gI (ν 11 s') 99 ∧ gI (ν 12 s') 200 ∧ gO (upd (ν 13) s a s') 2 ∧ gI (upd (ν 14) s (nI d) s') 13 ∧ gO (ν 24 s') 199 ∧ (ν 24 s' ≠ -1 → gI (ν 25 s') 2)
    by_cases e : s' = s
    · subst e; rw [upd_s, upd_s]; exact ⟨q1, q2, q3, ha, ⟨d, by omega, rfl⟩, q6, q7⟩
    · rw [upd_n e, upd_n e]; exact ⟨q1, q2, q3, q4, q5, q6, q7⟩
theorem x_tell {μ ν : Mm} (h : Rel μ ν) {s d : Nat} {a : Int32} (hs : s < nS ν) (hd : d < 14) (ha : gO a 2) : ∃ to, vs_Stops_tell μ (nI s) a (nI d) = some (vmem μ to s a (nI d)) ∧ dTold (nS ν) to (upd (ν 13) s a) (upd (ν 14) s (nI d)) := by
  have hS := (g_S h.2).2
  have ev : μ 35 = ν 13 := h.1.2.2.1.2.2.2.1
  have ed : μ 36 = ν 14 := h.1.2.2.1.2.2.2.2.1
  have ht : dTold (nS ν) (μ 41) (ν 13) (ν 14) := h.1.2.2.2.2.2.2.2.2.2.2.2.1
  obtain ⟨-, -, -, q4, q5, -⟩ := h.2.2.2.2.1.2 s hs
  have hs10 : s < 10 := by omega
  have j39 : ∀ (ξ : Mm), dT0 (nS ν) s (ξ 41) (ν 13) (ν 14) → ∃ to, vs_Stops_tell_j39 ξ (nI s) a (nI d) = some (vmem ξ to s a (nI d)) ∧ dTold (nS ν) to (upd (ν 13) s a) (upd (ν 14) s (nI d)) := by
    intro ξ h0
    unfold vs_Stops_tell_j39
    rcases ha with rfl | ⟨v, hv, rfl⟩
    · rw [if_pos rfl, mwr_nI hs10 (by decide), mwr_nI hs10 (by decide), vmem_0]
      exact ⟨_, rfl, told_off _ h0⟩
    · rw [if_neg (nI_v (by omega))]
      refine ⟨upd (ξ 41) (14 * v + d) (ξ 41 (14 * v + d) ||| ((1 : Int32) <<< (nI s &&& 31))), ?_, told_on h0 (by omega) hd hs (by omega)⟩
      refine (mrd_at (ix3 14 v d) (by omega) (by decide)).trans ?_
      refine (mwr_at (ix3 14 v d) (by omega) (by decide)).trans ?_
      rw [mwr_nI hs10 (by decide), mwr_nI hs10 (by decide), vmem_1]
  unfold vs_Stops_tell
  rw [mrd_nI hs10 (by decide), ev]
  rcases q4 with q4 | ⟨v1, hv1, q4⟩
  · rw [if_pos q4]
    exact j39 μ (told_none ht q4)
  · rw [if_neg (by rw [q4]; exact nI_v (by omega))]
    obtain ⟨d1, hd1, q5⟩ := q5
    obtain ⟨to, h1, h2⟩ := j39 (mset μ 41 (14 * v1 + d1) (μ 41 (14 * v1 + d1) &&& (((1 : Int32) <<< (nI s &&& 31)) ^^^ (-1)))) (told_clr ht (by omega) (by omega) (by omega) q4 q5)
    refine ⟨to, ?_, h2⟩
    rw [mrd_nI hs10 (by decide), mrd_nI hs10 (by decide), ev, ed, q4, q5]
    refine (mrd_at (ix3 14 v1 d1) (by omega) (by decide)).trans ?_
    refine (mwr_at (ix3 14 v1 d1) (by omega) (by decide)).trans ?_
    rw [h1]
    congr 1
    funext c
    by_cases z : c = 41
    · subst z; rfl
    · simp only [vmem, z, if_false, mset_o z, mset_o (show (35 : Nat) ≠ 41 by decide), mset_o (show (36 : Nat) ≠ 41 by decide)]
theorem st_visit : ST_visit Rel := by
  intro μ ν a1 a2 a3 h
  unfold vs_visit md_visit
  simp only [x_hasS h.1 h.2, m_isS h.2, x_isVan, m_isVan, mbv_s]
  have hS := (g_S h.2).2
  cases h1 : ix a1 (nS ν)
  · exact ⟨false, μ, ν, rfl, rfl, h⟩
  obtain ⟨s, hs, rfl⟩ := ix_t h1 (by omega)
  simp only [ifT]
  have key : gO a2 2 → ∃ v u w, vs_visit_j23 μ (nI s) a2 a3 = some (v, u) ∧ md_visit_j20 ν (nI s) a2 a3 = some (v, w) ∧ Rel u w := by
    intro ha
    unfold vs_visit_j23 md_visit_j20
    rw [within_eq, in_eq, mbv_s, mbv_s]
    cases h3 : wi a3 0 13
    · exact ⟨false, μ, ν, rfl, rfl, h⟩
    obtain ⟨d, -, hd, rfl⟩ := wi_r (lo := 0) (hi := 13) h3 (by decide) (by decide)
    simp only [ifT]
    obtain ⟨to, e1, e2⟩ := x_tell h hs (show d < 14 by omega) ha
    rw [e1, mbv_s, mwr_nI (by omega) (by decide), mwr_nI (by omega) (by decide)]
    exact ⟨true, _, _, rfl, rfl, visit_rel h hs (by omega) ha e2⟩
  by_cases ha : a2 = -1
  · rw [if_pos ha, if_pos ha]
    exact key (Or.inl ha)
  · rw [if_neg ha, if_neg ha]
    cases h2 : ix a2 3
    · exact ⟨false, μ, ν, rfl, rfl, h⟩
    simp only [ifT]
    obtain ⟨v, hv, rfl⟩ := ix_t h2 (by decide)
    exact key (Or.inr ⟨v, by omega, rfl⟩)
