theorem x_askrem (y : Mm) {r b : Nat} (hr : r < 16) (hb : b < 32) : vs_Asks_remove y (nI r) (nI b) = if y 44 (32 * r + b) = -1 then some (false, y) else some (true, mset (mset y 44 (32 * r + b) (-1)) 5 4 (y 5 4 - 1)) := by
  have e32 : nI r * 32 + nI b = nI (32 * r + b) := ix3 32 r b
  unfold vs_Asks_remove vs_Asks_dayOf
  rw [e32, mrd_nI (by omega) (by decide), mbv_s, mwr_nI (by omega) (by decide)]
  rfl
theorem x_lendw {μ : Mm} {n b r v : Nat} {u w : Int32} (xA : μ 6 4 = nI n) (hn : n < 200) (hb : b < 32) (hr : r < 16) (hv : v < 3) : (mbv (vs_transfer μ (nI b) (nI (10 + r))) fun μ13 => mwr μ13 20 32 (nI b) u fun μ14 => mrd μ14 21 32 (nI b) fun x15 => mwr μ14 21 32 (nI b) (x15 + 1) fun μ16 => mrd μ16 30 16 (nI r) fun x17 => mwr μ16 30 16 (nI r) (x17 + 1) fun μ18 => mrd μ18 29 16 (nI r) fun x19 => mwr μ18 29 16 (nI r) (x19 + 1) fun μ20 => mrd μ20 13 3 (nI v) fun x21 => mwr μ20 13 3 (nI v) (x21 + 1) fun μ22 => mbv (vs_remember μ22 (nI r) (nI b)) fun μ24 => mbm (vs_Asks_remove μ24 (nI r) (nI b)) fun x25 μ26 => some (w, μ26)) = some (w, lnX2 μ n b r v u) := by
  rw [x_transfer xA hn hb, mbv_s, mwr_nI hb (by decide), mrd_nI hb (by decide), mwr_nI hb (by decide), mrd_nI hr (by decide), mwr_nI hr (by decide), mrd_nI hr (by decide), mwr_nI hr (by decide), mrd_nI hv (by decide), mwr_nI hv (by decide), x_remember _ hr hb, mbv_s]
  show mbm (vs_Asks_remove (lnX μ n b r v u) (nI r) (nI b)) (fun x25 μ26 => some (w, μ26)) = _
  rw [x_askrem _ hr hb]
  unfold lnX2
  have e : lnX μ n b r v u 44 (32 * r + b) = μ 44 (32 * r + b) := rfl
  rw [e]
  by_cases c : μ 44 (32 * r + b) = -1
  · rw [if_pos c, if_pos c]; rfl
  · rw [if_neg c, if_neg c]; rfl
theorem m_lendw {ν : Mm} {n b r v s k : Nat} {u : Int32} (hA : ν 0 61 = nI n) (hn : n < 200) (hb : b < 32) (hr : r < 16) (hv : v < 3) (hs : ν 15 r = nI s) (hs10 : s < 10) (hk : ν 1 b = nI k) (hk8 : k < 8) : (mwr ν 6 32 (nI b) u fun μ18 => mbv (md_logs μ18 (nI b) (nI (10 + r))) fun μ20 => mwr μ20 21 512 (32 * nI r + nI b) (vp_nar .boolean 1) fun μ21 => mwr μ21 20 512 (32 * nI r + nI b) (-1) fun μ22 => mrd μ22 7 32 (nI b) fun x23 => mwr μ22 7 32 (nI b) (x23 + 1) fun μ24 => mrd μ24 19 16 (nI r) fun x25 => mwr μ24 19 16 (nI r) (x25 + 1) fun μ26 => mrd μ26 15 16 (nI r) fun x27 => mrd μ26 15 16 (nI r) fun x28 => mrd μ26 26 10 x28 fun x29 => mwr μ26 26 10 x27 (x29 + 1) fun μ30 => mrd μ30 1 32 (nI b) fun x31 => mrd μ30 1 32 (nI b) fun x32 => mrd μ30 27 8 x32 fun x33 => mwr μ30 27 8 x31 (x33 + 1) fun μ34 => mrd μ34 28 3 (nI v) fun x35 => mwr μ34 28 3 (nI v) (x35 + 1) fun μ36 => mst μ36 0 35 ((μ36 0 35) + 1) fun μ37 => mrd μ37 6 32 (nI b) fun x38 => some (x38, μ37)) = some (u, lnM ν n b r v s k u) := by
  have e32 : (32 : Int32) * nI r + nI b = nI (32 * r + b) := ix2 32 r b
  rw [mwr_nI hb (by decide), m_logs (ν := mset ν 6 b u) hA hn hb, mbv_s, e32, nar1, mwr_nI (by omega) (by decide), mwr_nI (by omega) (by decide), mrd_nI hb (by decide), mwr_nI hb (by decide), mrd_nI hr (by decide), mwr_nI hr (by decide)]
  refine (mrd_nI hr (by decide)).trans ?_
  refine (mrd_nI hr (by decide)).trans ?_
  refine (mrd_at (k := s) hs hs10 (by decide)).trans ?_
  refine (mwr_at (k := s) hs hs10 (by decide)).trans ?_
  refine (mrd_nI hb (by decide)).trans ?_
  refine (mrd_nI hb (by decide)).trans ?_
  refine (mrd_at (k := k) hk hk8 (by decide)).trans ?_
  refine (mwr_at (k := k) hk hk8 (by decide)).trans ?_
  refine (mrd_nI hv (by decide)).trans ?_
  refine (mwr_nI hv (by decide)).trans ?_
  unfold mst
  refine (mrd_nI hb (by decide)).trans ?_
  show some (upd (ν 6) b u b, lnM ν n b r v s k u) = _
  rw [upd_s]
theorem st_lend : ST_lend Rel := by
  intro μ ν a1 a2 h
  unfold vs_lend md_lend
  have hB := (g_B h.2).2
  have hR := (g_R h.2).2
  have hS := (g_S h.2).2
  have hT := g_T h.2
  rw [x_pair h.1 h.2, m_isB h.2, m_isR h.2, mbv_s, mbv_s, mbv_s]
  by_cases c1 : ¬ (ix a1 (nB ν) = true)
  · have c1' : ix a1 (nB ν) = false := by cases q : ix a1 (nB ν) <;> simp_all
    rw [c1', Bool.and_false, ifb_f', ifb_f']
    exact ⟨-1, μ, ν, rfl, rfl, h⟩
  rw [Classical.not_not] at c1
  obtain ⟨b, hb, rfl⟩ := ix_t c1 (by omega)
  have hb32 : b < 32 := by omega
  rw [c1, Bool.and_true, ifb_t']
  by_cases c3 : ¬ (ix a2 (nR ν) = true)
  · rw [ifb_f c3, ifb_f c3]
    exact ⟨-1, μ, ν, rfl, rfl, h⟩
  rw [Classical.not_not] at c3
  rw [ifb_t c3, ifb_t c3]
  obtain ⟨r, hr, rfl⟩ := ix_t c3 (by omega)
  have hr16 : r < 16 := by omega
  obtain ⟨n, hn, hA⟩ := g_A h.2
  have xA : μ 6 4 = nI n := (x_A h.1).trans hA
  rw [x_isFull xA hn, mbv_s, x_vanOf h.1 hb32, mbv_s, mrd_nI hb32 (by decide), in_eq, mbv_s]
  by_cases hw : ¬ (wi (ν 5 b) 1 3 = true)
  · rw [if_neg hw, ifb_f hw, if_pos rfl]
    refine ⟨-1, μ, ν, ?_, rfl, h⟩
    split <;> rfl
  rw [Classical.not_not] at hw
  obtain ⟨v, hv, ev⟩ : ∃ v, v < 3 ∧ ν 5 b = nI (v + 1) := by
    obtain ⟨k, k1, k2, k3⟩ := wi_r (lo := 1) (hi := 3) hw (by decide) (by decide)
    exact ⟨k - 1, by omega, by rw [k3]; congr 1; omega⟩
  have e1 : ν 5 b - 1 = nI v := by rw [ev, nI_pred]
  have cv1 : ¬ (nI v = -1) := nI_v (by omega)
  obtain ⟨s, hs, es⟩ := g_home h.2 hr
  obtain ⟨k, hk8, ek⟩ := g_kind h.2 hb
  have hs10 : s < 10 := by omega
  have e25 : μ 25 r = nI s := by rw [h.1.2.2.2.1.1, es]
  rw [if_pos hw, ifb_t hw, e1, if_neg cv1, mrd_nI hr16 (by decide), e25, x_T h.1, hT.1, x_goesTo h.1 h.2 hv hs (by omega), mbv_s]
  rw [mrd_nI hb32 (by decide), mrd_nI hr16 (by decide), e1, es, m_isVisited hv hs10 (by omega), mbv_s]
  by_cases hf : n = 200
  · rw [ifb_t (by simp [hf]), if_pos (show ν 0 61 = 200 by rw [hA, hf]; rfl)]
    refine ⟨-1, μ, ν, rfl, ?_, h⟩
    split <;> rfl
  have c61 : ¬ (ν 0 61 = 200) := by rw [hA]; exact nI_ne (b := 200) (by omega) (by decide) hf
  rw [ifb_f (by simp [hf]), if_neg c61]
  by_cases cv : ¬ (visB ν v s (nT ν) = true)
  · rw [ifb_f cv, ifb_f cv]
    exact ⟨-1, μ, ν, rfl, rfl, h⟩
  rw [Classical.not_not] at cv
  rw [ifb_t cv, ifb_t cv, ← hT.1]
  have hn2 : n < 200 := by omega
  obtain ⟨μ', l1, x2, x3⟩ := x_law h hr hb 0 100 14
  obtain ⟨ν', m1, m2, m3⟩ := m_law h hr hb 0 100 1 60 14 (by decide) (by decide)
  have h' : Rel μ' ν' := Rel_abs x2 m2 h
  have n0 := m3 0 (by decide) (by decide)
  have hA' : ν' 0 61 = nI n := by rw [n0]; exact hA
  have xA' : μ' 6 4 = nI n := (x_A h'.1).trans hA'
  have hdl : vs_Wishes_daysLent μ (nI r) (nI b) (ν 0 0) = some (bnd (lawV ν r b 0 100 14) 1 60, μ') := by
    unfold vs_Wishes_daysLent
    rw [x_look h.1 h.2 hr hb, mbv_s, l1]
    rfl
  obtain ⟨d, d1, d2, d3⟩ := bnd_gI (x := lawV ν r b 0 100 14)
  have ep : (10 : Int32) + nI r = nI (10 + r) := nI_add 10 r
  rw [hdl, mrd_nI hb32 (by decide), e1, m_feels h.2 hr hb, mbv_s, m1]
  simp only [mbm]
  rw [wm12_o (by decide), ep]
  refine ⟨ν 0 0 + bnd (lawV ν r b 0 100 14) 1 60, lnX2 μ' n b r v (ν 0 0 + bnd (lawV ν r b 0 100 14) 1 60), lnM ν' n b r v s k (ν 0 0 + bnd (lawV ν r b 0 100 14) 1 60), x_lendw xA' hn2 hb32 hr16 hv, m_lendw hA' hn2 hb32 hr16 hv (by rw [m3 15 (by decide) (by decide)]; exact es) hs10 (by rw [m3 1 (by decide) (by decide)]; exact ek) hk8, ?_⟩
  refine lend_rel h' hn2 hA' (by unfold nB; rw [n0]; exact hb) (by unfold nR; rw [n0]; exact hr) hv (fun r' hr' => ?_) (by rw [m3 15 (by decide) (by decide)]; exact es) hs10 (by rw [m3 1 (by decide) (by decide)]; exact ek) hk8 ?_
  · rw [m3 5 (by decide) (by decide), ev]; exact nI_ne (by omega) (by omega) (by omega)
  · exact ⟨nT ν + d, by omega, by rw [hT.1, d3, nI_add]⟩
