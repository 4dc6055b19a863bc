theorem mwr_at {α : Type} {μ : Mm} {c n k : Nat} {i v : Int32} {K : Mm → Option α} (hi : i = nI k) (h : k < n) (hn : n < 2 ^ 31) : mwr μ c n i v K = K (mset μ c k v) := by subst hi; exact mwr_nI h hn
theorem mrd_at {α : Type} {μ : Mm} {c n k : Nat} {i : Int32} {K : Int32 → Option α} (hi : i = nI k) (h : k < n) (hn : n < 2 ^ 31) : mrd μ c n i K = K (μ c k) := by subst hi; exact mrd_nI h hn
theorem ix2 (c r k : Nat) : nI c * nI r + nI k = nI (c * r + k) := by rw [pk_mul, nI_add]
theorem ix3 (c r k : Nat) : nI r * nI c + nI k = nI (c * r + k) := by rw [pk_mul, nI_add, Nat.mul_comm]
theorem inc_dec {x : Int32} {n : Nat} (h : x = nI n) : x + 1 - 1 = nI n := by rw [h, nI_1, nI_pred]
theorem nI_clamp' {n : Nat} (h : n < 2 ^ 31) : (nI n + 1).toNatClampNeg = n + 1 ∨ n + 1 = 2 ^ 31 := by
  by_cases e : n + 1 < 2 ^ 31
  · left; rw [nI_1, nI_clamp e]
  · right; omega
theorem upd_s (f : Nat → Int32) (k : Nat) (v : Int32) : upd f k v k = v := pk_us
theorem upd_n {f : Nat → Int32} {k j : Nat} {v : Int32} (h : j ≠ k) : upd f k v j = f j := pk_un h
theorem gI_mono {x : Int32} {a b : Nat} (h : gI x a) (hab : a ≤ b) : gI x b := by obtain ⟨k, h1, h2⟩ := h; exact ⟨k, by omega, h2⟩
theorem gPlace_mono {x : Int32} {R R' : Nat} (h : gPlace x R) (hr : R ≤ R') : gPlace x R' := by
  rcases h with h | ⟨r, h1, h2⟩ | h
  · exact Or.inl h
  · exact Or.inr (Or.inl ⟨r, by omega, h2⟩)
  · exact Or.inr (Or.inr h)
theorem nI_ne {a b : Nat} (ha : a < 2 ^ 31) (hb : b < 2 ^ 31) (h : a ≠ b) : nI a ≠ nI b := fun e => h ((nI_eq ha hb).mp e)
theorem st_taste : ST_taste Rel := by
  intro μ ν a1 a2 a3 h
  unfold vs_taste md_taste
  simp only [x_hasR h.1 h.2, m_isR h.2, within_eq, in_eq, mbv_s]
  have hR := (g_R h.2).2
  cases h1 : ix a1 (nR ν)
  · exact ⟨false, μ, ν, rfl, rfl, h⟩
  cases h2 : wi a2 0 7
  · exact ⟨false, μ, ν, rfl, rfl, h⟩
  cases h3 : wi a3 0 9
  · exact ⟨false, μ, ν, rfl, rfl, h⟩
  obtain ⟨r, hr, rfl⟩ := ix_t h1 (by omega)
  obtain ⟨k, -, hk, rfl⟩ := wi_r (lo := 0) (hi := 7) h2 (by decide) (by decide)
  simp only [ifT]
  refine ⟨true, mset μ 27 (8 * r + k) a3, mset ν 17 (8 * r + k) a3, (mwr_at (ix3 8 r k) (by omega) (by decide)), (mwr_at (ix2 8 r k) (by omega) (by decide)), ?_⟩
  obtain ⟨⟨n, rb, rs, ⟨r1, r2, r3, r4⟩, rest⟩, hg⟩ := h
  exact ⟨⟨n, rb, rs, ⟨r1, r2, by show upd (μ 27) _ _ = upd (ν 17) _ _; rw [r3], r4⟩, rest⟩, hg⟩
theorem st_pays : ST_pays Rel := by
  intro μ ν a1 a2 h
  unfold vs_pays md_pays
  simp only [x_hasR h.1 h.2, m_isR h.2, within_eq, in_eq, mbv_s]
  have hR := (g_R h.2).2
  cases h1 : ix a1 (nR ν)
  · exact ⟨-1, μ, ν, rfl, rfl, h⟩
  obtain ⟨r, hr, rfl⟩ := ix_t h1 (by omega)
  simp only [ifT]
  have e : μ 31 = ν 18 := h.1.2.2.2.1.2.2.2.2
  have hr16 : r < 16 := by omega
  simp only [mrd_nI hr16 (show 16 < 2 ^ 31 by decide), mwr_nI hr16 (show 16 < 2 ^ 31 by decide), e, mset_s]
  cases h2 : wi a2 1 (ν 18 r)
  · exact ⟨-1, μ, ν, rfl, rfl, h⟩
  simp only [ifT]
  refine ⟨ν 18 r - a2, _, _, rfl, rfl, ?_⟩
  obtain ⟨⟨n, rb, rs, ⟨r1, r2, r3, r4, r5⟩, rest⟩, hg⟩ := h
  exact ⟨⟨n, rb, rs, ⟨r1, r2, r3, r4, by show upd (μ 31) _ _ = upd (ν 18) _ _; rw [r5]⟩, rest⟩, hg⟩
theorem st_stop : ST_stop Rel := by
  intro μ ν a1 a2 a3 h
  unfold vs_stop md_stop
  simp only [within_eq, in_eq, mbv_s]
  cases h1 : wi a1 0 99
  · exact ⟨-1, μ, ν, rfl, rfl, h⟩
  cases h2 : wi a2 0 99
  · exact ⟨-1, μ, ν, rfl, rfl, h⟩
  cases h3 : wi a3 1 200
  · exact ⟨-1, μ, ν, rfl, rfl, h⟩
  simp only [ifT]
  unfold vs_Stops_add
  obtain ⟨hS, hS10⟩ := g_S h.2
  have xS : μ 4 12 = nI (nS ν) := (x_S h.1).trans hS
  obtain ⟨S, eS⟩ : ∃ S, S = nS ν := ⟨_, rfl⟩
  rw [← eS] at hS hS10 xS
  by_cases hlt : S < 10
  · rw [if_pos (by rw [xS]; exact nI_lt hlt (by decide)), if_neg (by rw [hS]; exact nI_ne (b := 10) (by omega) (by decide) (by omega))]
    refine ⟨nI S, mset (mset (mset (mset (mset (mset (mset μ 32 S a1) 33 S a2) 34 S a3) 35 S (-1)) 37 S (-1)) 38 S (-1)) 4 12 (μ 4 12 + 1), mset (mset (mset (mset (mset (mset ν 10 S a1) 11 S a2) 12 S a3) 13 S (-1)) 24 S (-1)) 0 2 (ν 0 2 + 1), ?_, ?_, ?_⟩
    · have : ∀ {α : Type} {x : Option (Int32 × Mm)} {v : Int32} {u : Mm}, x = some (v, u) → mbm x (fun x7 μ8 => some (x7, μ8)) = some (v, u) := fun e => by rw [e]; rfl
      refine this (α := Nat) ?_
      refine (mwr_at xS hlt (by decide)).trans ?_
      refine (mwr_at xS hlt (by decide)).trans ?_
      refine (mwr_at xS hlt (by decide)).trans ?_
      refine (mwr_at xS hlt (by decide)).trans ?_
      refine (mwr_at xS hlt (by decide)).trans ?_
      refine (mwr_at xS hlt (by decide)).trans ?_
      exact congrArg (fun z => some (z, _)) (inc_dec xS)
    · refine (mwr_at hS hlt (by decide)).trans ?_
      refine (mwr_at hS hlt (by decide)).trans ?_
      refine (mwr_at hS hlt (by decide)).trans ?_
      refine (mwr_at hS hlt (by decide)).trans ?_
      refine (mwr_at hS hlt (by decide)).trans ?_
      exact congrArg (fun z => some (z, _)) (inc_dec hS)
    · obtain ⟨⟨⟨n1, n2, n3, n4⟩, rb, ⟨s1, s2, s3, s4, s5, s6, s7⟩, rr, rv, ra, hpv, hhad, hkind, hout, hrd, htold, hput, hrest⟩, ⟨⟨g1, g2, g3, g4⟩, gb, gsh, gst, grd, gas, gha, glo, gpu, gln⟩⟩ := h
      have enS : nS (mset (mset (mset (mset (mset (mset ν 10 S a1) 11 S a2) 12 S a3) 13 S (-1)) 24 S (-1)) 0 2 (ν 0 2 + 1)) = S + 1 := by
        show (ν 0 2 + 1).toNatClampNeg = _
        rw [hS, nI_1, nI_clamp (by omega)]
      refine ⟨⟨⟨n1, n2, by show μ 4 12 + 1 = ν 0 2 + 1; rw [n3], n4⟩, rb, ⟨?_, ?_, ?_, ?_, s5, ?_, s7⟩, rr, rv, ra, ?_, hhad, hkind, hout, hrd, ?_, hput, hrest⟩, ⟨⟨g1, g2, ⟨S + 1, by omega, by show ν 0 2 + 1 = _; rw [hS, nI_1]⟩, g4⟩, gb, gsh, ?_, ?_, gas, gha, glo, ?_, gln⟩⟩
      · show upd (μ 32) S a1 = upd (ν 10) S a1; rw [s1]
      · show upd (μ 33) S a2 = upd (ν 11) S a2; rw [s2]
      · show upd (μ 34) S a3 = upd (ν 12) S a3; rw [s3]
      · show upd (μ 35) S (-1) = upd (ν 13) S (-1); rw [s4]
      · show upd (μ 37) S (-1) = upd (ν 24) S (-1); rw [s6]
      · intro s hs
        rw [enS] at hs
        show (upd (ν 24) S (-1) s ≠ -1 → upd (μ 38) S (-1) s = ν 25 s) ∧ (upd (ν 24) S (-1) s = -1 → upd (μ 38) S (-1) s = -1)
        by_cases e : s = S
        · subst e; rw [upd_s, upd_s]; exact ⟨fun h => absurd rfl h, fun _ => rfl⟩
        · rw [upd_n e, upd_n e]; exact hpv s (by omega)
      · intro v hv d hd s hs
        rw [enS]
        show tb (μ 41 (14 * v + d)) s = (decide (s < S + 1) && decide (upd (ν 13) S (-1) s = nI v) && decide (ν 14 s = nI d))
        rw [htold v hv d hd s hs, ← eS]
        by_cases e : s = S
        · subst e
          rw [upd_s]
          have : ¬ ((-1 : Int32) = nI v) := by rcases (show v = 0 ∨ v = 1 ∨ v = 2 by omega) with rfl | rfl | rfl <;> decide
          simp [this]
        · rw [upd_n e]
          have : (s < S + 1) ↔ (s < S) := by omega
          simp [this]
      · refine ⟨fun s hs => gst.1 s (by rw [enS] at hs; omega), fun s hs => ?_⟩
        rw [enS] at hs
        show gI (upd (ν 10) S a1 s) 99 ∧ gI (upd (ν 11) S a2 s) 99 ∧ gI (upd (ν 12) S a3 s) 200 ∧ gO (upd (ν 13) S (-1) s) 2 ∧ gI (ν 14 s) 13 ∧ gO (upd (ν 24) S (-1) s) 199 ∧ (upd (ν 24) S (-1) s ≠ -1 → gI (ν 25 s) 2)
        by_cases e : s = S
        · subst e
          rw [upd_s, upd_s, upd_s, upd_s, upd_s]
          obtain ⟨k3, -, h31, h32⟩ := wi_r (lo := 1) (hi := 200) h3 (by decide) (by decide)
          exact ⟨wi_c 0 99 h1 rfl rfl (by decide), wi_c 0 99 h2 rfl rfl (by decide), ⟨k3, h31, h32⟩, Or.inl rfl, ⟨0, by decide, gst.1 s (by omega)⟩, Or.inl rfl, fun h => absurd rfl h⟩
        · rw [upd_n e, upd_n e, upd_n e, upd_n e, upd_n e]
          exact gst.2 s (by omega)
      · refine ⟨fun r hr => ?_, grd.2⟩
        obtain ⟨⟨s, h5, h6⟩, h7⟩ := grd.1 r hr
        exact ⟨⟨s, by rw [enS]; omega, h6⟩, h7⟩
      · intro v hv d hd s hs
        obtain ⟨h5, h6⟩ := gpu v hv d hd s hs
        exact ⟨h5, fun h7 => h6 (by rw [enS] at h7; omega)⟩
  · have eS2 : S = 10 := by omega
    rw [if_neg (by rw [xS, eS2]; decide), if_pos (by rw [hS, eS2]; rfl)]
    exact ⟨-1, μ, ν, rfl, rfl, h⟩
