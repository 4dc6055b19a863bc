/-- the reference's row of asks for a new reader -/
theorem m_row (ν : Mm) (R : Nat) (hR : ν 0 3 = nI R) (hlt : R < 16) : ∃ u, md_reader_l50 ν 0 = some u ∧ (∀ c, c ≠ 20 → u c = ν c) ∧ ∀ i, u 20 i = if 32 * R ≤ i ∧ i < 32 * R + 32 then -1 else ν 20 i := by
  unfold md_reader_l50
  have := miter_cnt (f := fun q : Int32 × Mm => md_reader_b50 q.2 q.1) (fun i (ξ : Mm) => (nI i, ξ)) 32 (fun i ξ => (∀ c, c ≠ 20 → ξ c = ν c) ∧ ∀ j, ξ 20 j = if 32 * R ≤ j ∧ j < 32 * R + i then -1 else ν 20 j) (fun u => (∀ c, c ≠ 20 → u c = ν c) ∧ ∀ i, u 20 i = if 32 * R ≤ i ∧ i < 32 * R + 32 then -1 else ν 20 i)
    (fun i ξ hi hI => Or.inl ⟨mset ξ 20 (32 * R + i) (-1), by
      show md_reader_b50 ξ (nI i) = _
      unfold md_reader_b50
      rw [if_neg (by exact nI_ge hi (by decide))]
      have e : ξ 0 3 = nI R := by rw [hI.1 0 (by decide)]; exact hR
      rw [e]
      refine (mwr_at (ix2 32 R i) (by omega) (by decide)).trans ?_
      rw [nI_1], fun c hc => by rw [mset_o hc]; exact hI.1 c hc, fun j => by
        by_cases e : j = 32 * R + i
        · rw [e, mset_s, if_pos (by omega)]
        · rw [mset_n e, hI.2 j]
          by_cases e2 : 32 * R ≤ j ∧ j < 32 * R + i
          · rw [if_pos e2, if_pos (by omega)]
          · rw [if_neg e2, if_neg (by omega)]⟩)
    (fun ξ hI => ⟨ξ, by
      show md_reader_b50 ξ (nI 32) = _
      unfold md_reader_b50
      rw [if_pos (by decide)], hI⟩) FU 0 ν (Nat.zero_le _) (by decide) ⟨fun _ _ => rfl, fun j => by rw [if_neg (by omega)]⟩
  exact this
theorem cn_zero {p : Nat → Bool} : ∀ {n : Nat}, (∀ k, k < n → p k = false) → cn p n = 0
  | 0, _ => rfl
  | n + 1, h => by simp only [cn]; rw [cn_zero (fun k hk => h k (by omega)), h n (by omega)]; rfl
theorem st_reader : ST_reader Rel := by
  intro μ ν a1 a2 h
  unfold vs_reader md_reader
  simp only [x_hasS h.1 h.2, m_isS h.2, within_eq, in_eq, mbv_s]
  obtain ⟨hS, hS10⟩ := g_S h.2
  cases h1 : ix a1 (nS ν)
  · exact ⟨-1, μ, ν, rfl, rfl, h⟩
  cases h2 : wi a2 0 2
  · exact ⟨-1, μ, ν, rfl, rfl, h⟩
  simp only [ifT]
  unfold vs_Readers_add
  obtain ⟨s0, hs0, rfl⟩ := ix_t h1 (by omega)
  obtain ⟨hR, hR16⟩ := g_R h.2
  have xR : μ 3 7 = nI (nR ν) := (x_R h.1).trans hR
  obtain ⟨R, eR⟩ : ∃ R, R = nR ν := ⟨_, rfl⟩
  rw [← eR] at hR hR16 xR
  by_cases hlt : R < 16
  · rw [if_pos (by rw [xR]; exact nI_lt hlt (by decide)), if_neg (by rw [hR]; exact nI_ne (b := 16) (by omega) (by decide) (by omega))]
    obtain ⟨w, hw1, hw2, hw3⟩ := m_row (mset (mset ν 15 R (nI s0)) 16 R a2) R hR hlt
    have xr : (mwr μ 25 16 (μ 3 7) (nI s0) fun μ2 => mwr μ2 26 16 (μ2 3 7) a2 fun μ3 => mst μ3 3 7 (μ3 3 7 + 1) fun μ4 => some (μ4 3 7 - 1, μ4)) = some (nI R, mset (mset (mset μ 25 R (nI s0)) 26 R a2) 3 7 (μ 3 7 + 1)) := by
      refine (mwr_at xR hlt (by decide)).trans ?_
      refine (mwr_at xR hlt (by decide)).trans ?_
      exact congrArg (fun z => some (z, _)) (inc_dec xR)
    rw [xr, mbm_s, if_neg (nI_v (by omega))]
    refine ⟨nI R, mset (mset (mset (mset μ 25 R (nI s0)) 26 R a2) 3 7 (μ 3 7 + 1)) 39 s0 (μ 39 s0 ||| ((1 : Int32) <<< (nI R &&& 31))), mset w 0 3 (ν 0 3 + 1), ?_, ?_, ?_⟩
    · refine (mrd_nI (by omega) (by decide)).trans ?_
      exact mwr_nI (by omega) (by decide)
    · refine (mwr_at hR hlt (by decide)).trans ?_
      refine (mwr_at hR hlt (by decide)).trans ?_
      rw [hw1, mbv_s, mst_s]
      have e3 : w 0 3 = ν 0 3 := by rw [hw2 0 (by decide)]; rfl
      rw [mset_s, e3, inc_dec hR]
    · obtain ⟨⟨⟨n1, n2, n3, n4, n5⟩, rb, rs, ⟨r1, r2, r3, r4⟩, rv, ra, hpv, hhad, hkind, hout, hrd, htold, hput, hlost, ⟨ha1, ha2⟩, hrest⟩, ⟨⟨g1, g2, g3, g4, g5⟩, gb, gsh, gst, grd, gas, gha, glo, gpu, ⟨gl1, gl2⟩⟩⟩ := h
      rw [← eR] at gb grd gas gha gl1 hrd ha1 ha2
      -- the reference's other cells
      have hc : ∀ c, c ≠ 0 → c ≠ 15 → c ≠ 16 → c ≠ 20 → mset w 0 3 (ν 0 3 + 1) c = ν c := fun c q1 q2 q3 q4 => by rw [mset_o q1, hw2 c q4, mset_o q3, mset_o q2]
      have h0 : ∀ i, i ≠ 3 → mset w 0 3 (ν 0 3 + 1) 0 i = ν 0 i := fun i q => by rw [mset_n q, hw2 0 (by decide)]; rfl
      have h15 : mset w 0 3 (ν 0 3 + 1) 15 = upd (ν 15) R (nI s0) := by rw [mset_o (by decide), hw2 15 (by decide)]; rfl
      have h16 : mset w 0 3 (ν 0 3 + 1) 16 = upd (ν 16) R a2 := by rw [mset_o (by decide), hw2 16 (by decide)]; rfl
      have h20 : ∀ i, mset w 0 3 (ν 0 3 + 1) 20 i = if 32 * R ≤ i ∧ i < 32 * R + 32 then -1 else ν 20 i := fun i => by rw [mset_o (by decide), hw3 i]; rfl
      obtain ⟨ω, hω⟩ : ∃ ω, ω = mset w 0 3 (ν 0 3 + 1) := ⟨_, rfl⟩
      have h03 : ω 0 3 = nI (R + 1) := by rw [hω, mset_s, hR, nI_1]
      rw [← hω] at hc h0 h15 h16 h20 ⊢
      have enR : nR ω = R + 1 := by unfold nR; rw [h03, nI_clamp (by omega)]
      have enB : nB ω = nB ν := by unfold nB; rw [h0 1 (by decide)]
      have enS : nS ω = nS ν := by unfold nS; rw [h0 2 (by decide)]
      unfold Rel RX Good rNum rBook rStop rRead rVan rAct
      rw [enR, enB, enS, h0 0 (by decide), h0 1 (by decide), h0 2 (by decide), h03, h0 4 (by decide), h0 5 (by decide), h0 35 (by decide), h0 36 (by decide), h0 38 (by decide), h0 58 (by decide), h0 61 (by decide), h15, h16]
      rw [hc 1 (by decide) (by decide) (by decide) (by decide), hc 2 (by decide) (by decide) (by decide) (by decide), hc 3 (by decide) (by decide) (by decide) (by decide), hc 4 (by decide) (by decide) (by decide) (by decide), hc 5 (by decide) (by decide) (by decide) (by decide), hc 6 (by decide) (by decide) (by decide) (by decide), hc 7 (by decide) (by decide) (by decide) (by decide), hc 8 (by decide) (by decide) (by decide) (by decide), hc 9 (by decide) (by decide) (by decide) (by decide), hc 10 (by decide) (by decide) (by decide) (by decide), hc 11 (by decide) (by decide) (by decide) (by decide), hc 12 (by decide) (by decide) (by decide) (by decide), hc 13 (by decide) (by decide) (by decide) (by decide), hc 14 (by decide) (by decide) (by decide) (by decide)]
      rw [hc 17 (by decide) (by decide) (by decide) (by decide), hc 18 (by decide) (by decide) (by decide) (by decide), hc 19 (by decide) (by decide) (by decide) (by decide), hc 21 (by decide) (by decide) (by decide) (by decide), hc 22 (by decide) (by decide) (by decide) (by decide), hc 23 (by decide) (by decide) (by decide) (by decide), hc 24 (by decide) (by decide) (by decide) (by decide), hc 25 (by decide) (by decide) (by decide) (by decide), hc 26 (by decide) (by decide) (by decide) (by decide), hc 27 (by decide) (by decide) (by decide) (by decide), hc 28 (by decide) (by decide) (by decide) (by decide), hc 29 (by decide) (by decide) (by decide) (by decide), hc 30 (by decide) (by decide) (by decide) (by decide), hc 37 (by decide) (by decide) (by decide) (by decide), hc 38 (by decide) (by decide) (by decide) (by decide), hc 39 (by decide) (by decide) (by decide) (by decide), hc 40 (by decide) (by decide) (by decide) (by decide), hc 41 (by decide) (by decide) (by decide) (by decide), hc 44 (by decide) (by decide) (by decide) (by decide), hc 45 (by decide) (by decide) (by decide) (by decide), hc 46 (by decide) (by decide) (by decide) (by decide), hc 47 (by decide) (by decide) (by decide) (by decide)]
      refine ⟨⟨⟨n1, n2, n3, by show μ 3 7 + 1 = _; rw [xR, nI_1], n5⟩, rb, rs, ⟨?_, ?_, r3, r4⟩, rv, ra, hpv, hhad, hkind, hout, ?_, htold, hput, hlost, ⟨fun r hr b hb => ?_, ?_⟩, hrest⟩, ⟨⟨g1, g2, g3, ⟨R + 1, by omega, rfl⟩, g5⟩, ⟨fun b hb => ?_, gb.2⟩, gsh, gst, ⟨fun r hr => ?_, fun r hr => grd.2 r (by omega)⟩, fun r hr b hb => ?_, fun r hr b hb => ?_, glo, gpu, ⟨fun s hs => ?_, gl2⟩⟩⟩
      · show upd (μ 25) R (nI s0) = _; rw [r1]
      · show upd (μ 26) R a2 = _; rw [r2]
      · intro s hs r hr
        show tb (upd (μ 39) s0 (μ 39 s0 ||| ((1 : Int32) <<< (nI R &&& 31))) s) r = (decide (r < R + 1) && decide (upd (ν 15) R (nI s0) r = nI s))
        have hz := hrd s hs r hr
        by_cases e : s = s0
        · subst e
          rw [upd_s, tb_set _ (by omega) hr, hz]
          by_cases e2 : r = R
          · subst e2; rw [upd_s]; simp
          · rw [upd_n e2]
            have : (r < R + 1) ↔ (r < R) := by omega
            simp [this, e2]
        · rw [upd_n e, hz]
          by_cases e2 : r = R
          · subst e2
            rw [upd_s]
            have : ¬ (nI s0 = nI s) := nI_ne (by omega) (by omega) (fun q => e q.symm)
            simp [this]
          · rw [upd_n e2]
            have : (r < R + 1) ↔ (r < R) := by omega
            simp [this]
      · show μ 44 (32 * r + b) = if r < R + 1 then ω 20 (32 * r + b) else -1
        rw [ha1 r hr b hb, h20]
        by_cases e : r = R
        · subst e; rw [if_neg (by omega), if_pos (by omega), if_pos (by omega)]
        · rcases Nat.lt_or_ge r R with e2 | e2
          · rw [if_pos e2, if_pos (by omega), if_neg (by omega)]
          · rw [if_neg (by omega), if_neg (by omega)]
      · show μ 5 4 = sm (fun r => nI (cn (fun b => decide (ω 20 (32 * r + b) ≠ -1)) 32)) (R + 1)
        rw [ha2]
        simp only [sm]
        have e1 : cn (fun b => decide (ω 20 (32 * R + b) ≠ -1)) 32 = 0 := cn_zero (fun b hb => by
          rw [h20, if_pos (by omega)]; rfl)
        rw [e1]
        rw [sm_cong (f := fun r => nI (cn (fun b => decide (ω 20 (32 * r + b) ≠ -1)) 32)) (g := fun r => nI (cn (fun b => decide (ν 20 (32 * r + b) ≠ -1)) 32)) (fun r hr => by
          rw [cn_cong (f := fun b => decide (ω 20 (32 * r + b) ≠ -1)) (g := fun b => decide (ν 20 (32 * r + b) ≠ -1)) (fun b hb => by rw [h20, if_neg (by omega)])])]
        simp [nI_0]
      · obtain ⟨q1, q2, q3, q4, q5, q6⟩ := gb.1 b hb
        exact ⟨q1, q2, q3, q4, gPlace_mono q5 (by omega), q6⟩
      · by_cases e : r = R
        · subst e; rw [upd_s, upd_s]; exact ⟨⟨s0, hs0, rfl⟩, wi_c 0 2 h2 rfl rfl (by decide)⟩
        · rw [upd_n e, upd_n e]; exact grd.1 r (by omega)
      · rw [h20]
        by_cases e : r = R
        · subst e; rw [if_pos (by omega)]; exact ⟨Or.inl rfl, fun _ => rfl⟩
        · rw [if_neg (by omega)]; exact gas r (by omega) b hb
      · obtain ⟨q1, q2⟩ := gha r hr b hb
        exact ⟨q1, fun h5 => q2 (by omega)⟩
      · rw [gl1 s hs]
        simp only [sm, upd_s]
        rw [sm_cong (f := fun r => if upd (ν 15) R (nI s0) r = nI s then ν 19 r else 0) (g := fun r => if ν 15 r = nI s then ν 19 r else 0) (fun r hr => by
          show (if upd (ν 15) R (nI s0) r = _ then _ else _) = _
          rw [upd_n (by omega)])]
        rw [grd.2 R (Nat.le_refl R)]
        simp
  · have eR2 : R = 16 := by omega
    rw [if_neg (by rw [xR, eR2]; decide), if_pos (by rw [hR, eR2]; rfl), mbm_s]
    exact ⟨-1, μ, ν, rfl, rfl, h⟩
