theorem nI_v {v : Nat} (h : v < 100) : nI v ≠ -1 := by
  intro e
  have := congrArg Int32.toInt e
  rw [nI_toInt (by omega)] at this
  have e2 : (-1 : Int32).toInt = -1 := rfl
  omega
theorem st_book : ST_book Rel := by
  intro μ ν a1 a2 a3 a4 h
  unfold vs_book md_book
  simp only [within_eq, in_eq, mbv_s]
  cases h1 : wi a1 0 7
  · exact ⟨-1, μ, ν, rfl, rfl, h⟩
  cases h2 : wi a2 1 9
  · exact ⟨-1, μ, ν, rfl, rfl, h⟩
  cases h3 : wi a3 0 2
  · exact ⟨-1, μ, ν, rfl, rfl, h⟩
  cases h4 : wi a4 0 1000
  · exact ⟨-1, μ, ν, rfl, rfl, h⟩
  simp only [ifT]
  unfold vs_Books_add
  obtain ⟨hB, hB32⟩ := g_B h.2
  have xB : μ 2 10 = nI (nB ν) := (x_B h.1).trans hB
  obtain ⟨B, eB⟩ : ∃ B, B = nB ν := ⟨_, rfl⟩
  rw [← eB] at hB hB32 xB
  obtain ⟨k, -, hk, rfl⟩ := wi_r (lo := 0) (hi := 7) h1 (by decide) (by decide)
  by_cases hlt : B < 32
  · rw [if_pos (by rw [xB]; exact nI_lt hlt (by decide)), if_neg (by rw [hB]; exact nI_ne (b := 32) (by omega) (by decide) (by omega))]
    refine ⟨nI B, mset (mset (mset (mset (mset (mset (mset (mset μ 15 B (nI k)) 16 B a2) 17 B a3) 18 B a4) 19 B 0) 20 B (-1)) 24 k (μ 24 k ||| ((1 : Int32) <<< (μ 2 10 &&& 31)))) 2 10 (μ 2 10 + 1), mset (mset (mset (mset (mset (mset (mset ν 1 B (nI k)) 2 B a2) 3 B a3) 4 B a4) 5 B 0) 6 B (-1)) 0 1 (ν 0 1 + 1), ?_, ?_, ?_⟩
    · have : ∀ {x : Option (Int32 × Mm)} {v : Int32} {u : Mm}, x = some (v, u) → mbm x (fun x7 μ8 => some (x7, μ8)) = some (v, u) := fun e => by rw [e]; rfl
      refine this ?_
      refine (mwr_at xB hlt (by decide)).trans ?_
      refine (mwr_at xB hlt (by decide)).trans ?_
      refine (mwr_at xB hlt (by decide)).trans ?_
      refine (mwr_at xB hlt (by decide)).trans ?_
      refine (mwr_at xB hlt (by decide)).trans ?_
      refine (mwr_at xB hlt (by decide)).trans ?_
      refine (mrd_at (k := k) rfl (by omega) (by decide)).trans ?_
      refine (mwr_at (k := k) rfl (by omega) (by decide)).trans ?_
      exact congrArg (fun z => some (z, _)) (inc_dec xB)
    · refine (mwr_at hB hlt (by decide)).trans ?_
      refine (mwr_at hB hlt (by decide)).trans ?_
      refine (mwr_at hB hlt (by decide)).trans ?_
      refine (mwr_at hB hlt (by decide)).trans ?_
      refine (mwr_at hB hlt (by decide)).trans ?_
      refine (mwr_at hB hlt (by decide)).trans ?_
      exact congrArg (fun z => some (z, _)) (inc_dec hB)
    · obtain ⟨⟨⟨n1, n2, n3⟩, ⟨b1, b2, b3, b4, b5, b6, b7, b8⟩, rs, rr, rv, ra, hpv, hhad, hkind, hout, hrd, hrest⟩, ⟨⟨g1, g2, g3⟩, gb, gsh, gst, grd, gas, gha, glo, gpu, ⟨gl1, gl2, gl3⟩⟩⟩ := h
      have enB : nB (mset (mset (mset (mset (mset (mset (mset ν 1 B (nI k)) 2 B a2) 3 B a3) 4 B a4) 5 B 0) 6 B (-1)) 0 1 (ν 0 1 + 1)) = B + 1 := by
        show (ν 0 1 + 1).toNatClampNeg = _
        rw [hB, nI_1, nI_clamp (by omega)]
      rw [← eB] at gb
      refine ⟨⟨⟨n1, by show μ 2 10 + 1 = ν 0 1 + 1; rw [n2], n3⟩, ⟨?_, ?_, ?_, ?_, ?_, ?_, b7, b8⟩, rs, rr, rv, ra, hpv, hhad, ?_, ?_, hrd, hrest⟩, ⟨⟨g1, ⟨B + 1, by omega, by show ν 0 1 + 1 = _; rw [hB, nI_1]⟩, g3⟩, ⟨fun b hb => ?_, fun b hb => ?_⟩, gsh, gst, grd, fun r hr b hb => ?_, fun r hr b hb => ?_, glo, gpu, ⟨gl1, fun k' hk' => ?_, gl3⟩⟩⟩
      · show upd (μ 15) B (nI k) = upd (ν 1) B (nI k); rw [b1]
      · show upd (μ 16) B a2 = upd (ν 2) B a2; rw [b2]
      · show upd (μ 17) B a3 = upd (ν 3) B a3; rw [b3]
      · show upd (μ 18) B a4 = upd (ν 4) B a4; rw [b4]
      · show upd (μ 19) B 0 = upd (ν 5) B 0; rw [b5]
      · show upd (μ 20) B (-1) = upd (ν 6) B (-1); rw [b6]
      · intro k' hk' b hb
        rw [enB]
        show tb (upd (μ 24) k (μ 24 k ||| ((1 : Int32) <<< (μ 2 10 &&& 31))) k') b = (decide (b < B + 1) && decide (upd (ν 1) B (nI k) b = nI k'))
        have hz := hkind k' hk' b hb
        rw [← eB] at hz
        by_cases e : k' = k
        · subst e
          rw [upd_s, xB, tb_set _ hlt hb, hz]
          by_cases e2 : b = B
          · subst e2; rw [upd_s]; simp
          · rw [upd_n e2]
            have : (b < B + 1) ↔ (b < B) := by omega
            simp [this, e2]
        · rw [upd_n e, hz]
          by_cases e2 : b = B
          · subst e2
            rw [upd_s]
            have : ¬ (nI k = nI k') := nI_ne (by omega) (by omega) (fun q => e q.symm)
            simp [this]
          · rw [upd_n e2]
            have : (b < B + 1) ↔ (b < B) := by omega
            simp [this]
      · intro r hr
        rw [enB]
        show μ 29 r = nI (cn (fun b => decide (upd (ν 5) B 0 b = nI (10 + r))) (B + 1))
        rw [hout r hr, ← eB]
        simp only [cn, upd_s]
        have e0 : ¬ ((0 : Int32) = nI (10 + r)) := fun q => nI_ne (a := 0) (b := 10 + r) (by decide) (by omega) (by omega) q
        rw [cn_cong (f := fun b => decide (upd (ν 5) B 0 b = nI (10 + r))) (g := fun b => decide (ν 5 b = nI (10 + r))) (fun b hb => by
          show decide (upd (ν 5) B 0 b = _) = _
          rw [upd_n (by omega)])]
        simp [e0]
      · rw [enB] at hb
        show gI (upd (ν 1) B (nI k) b) 7 ∧ (gI (upd (ν 2) B a2 b) 9 ∧ upd (ν 2) B a2 b ≠ 0) ∧ gI (upd (ν 3) B a3 b) 2 ∧ gI (upd (ν 4) B a4 b) 1000 ∧ gPlace (upd (ν 5) B 0 b) (nR ν) ∧ gO (upd (ν 6) B (-1) b) 300 ∧ ((∃ r : Nat, upd (ν 5) B 0 b = nI (10 + r) ∧ r < 16) → gI (upd (ν 6) B (-1) b) 300)
        by_cases e : b = B
        · subst e
          rw [upd_s, upd_s, upd_s, upd_s, upd_s, upd_s]
          obtain ⟨k2, h21, h22, h23⟩ := wi_r (lo := 1) (hi := 9) h2 (by decide) (by decide)
          exact ⟨⟨k, hk, rfl⟩, ⟨⟨k2, h22, h23⟩, by rw [h23]; exact nI_ne (b := 0) (by omega) (by decide) (by omega)⟩, wi_c 0 2 h3 rfl rfl (by decide), wi_c 0 1000 h4 rfl rfl (by decide), Or.inl ⟨0, by decide, rfl⟩, Or.inl rfl, fun ⟨r, hr, hr2⟩ => absurd hr (fun q => nI_ne (a := 0) (b := 10 + r) (by decide) (by omega) (by omega) q)⟩
        · rw [upd_n e, upd_n e, upd_n e, upd_n e, upd_n e, upd_n e]
          exact gb.1 b (by omega)
      · rw [enB] at hb
        show ν 7 b = 0 ∧ upd (ν 5) B 0 b = 0
        rw [upd_n (by omega)]
        exact gb.2 b (by omega)
      · obtain ⟨q1, q2⟩ := gas r hr b hb
        exact ⟨q1, fun h5 => q2 (by rw [enB] at h5; omega)⟩
      · obtain ⟨q1, q2⟩ := gha r hr b hb
        exact ⟨q1, fun h5 => q2 (h5.elim (fun z => Or.inl z) (fun z => Or.inr (by rw [enB] at z; omega)))⟩
      · rw [enB]
        show ν 27 k' = sm (fun b => if upd (ν 1) B (nI k) b = nI k' then ν 7 b else 0) (B + 1)
        rw [gl2 k' hk', ← eB]
        simp only [sm, upd_s]
        rw [sm_cong (f := fun b => if upd (ν 1) B (nI k) b = nI k' then ν 7 b else 0) (g := fun b => if ν 1 b = nI k' then ν 7 b else 0) (fun b hb => by
          show (if upd (ν 1) B (nI k) b = _ then _ else _) = _
          rw [upd_n (by omega)])]
        rw [(gb.2 B (Nat.le_refl B)).1]
        simp
  · have eB2 : B = 32 := by omega
    rw [if_neg (by rw [xB, eB2]; decide), if_pos (by rw [hB, eB2]; rfl)]
    exact ⟨-1, μ, ν, rfl, rfl, h⟩
