theorem ifb_t' {α : Type} {x y : α} : (if bI true = 0 then x else y) = y := ifb_t (by decide)
theorem ifb_f' {α : Type} {x y : α} : (if bI false = 0 then x else y) = x := ifb_f (by decide)
theorem st_lost : ST_lost Rel := by
  intro μ ν a1 h
  unfold vs_lost md_lost
  have hB := (g_B h.2).2
  have hR := (g_R h.2).2
  rw [x_hasB h.1 h.2, m_isOut h.2, mbv_s, mbv_s]
  cases h1 : ix a1 (nB ν)
  · exact ⟨-1, μ, ν, rfl, rfl, h⟩
  obtain ⟨b, hb, rfl⟩ := ix_t h1 (by omega)
  have hb32 : b < 32 := by omega
  obtain ⟨n, hn, hA⟩ := g_A h.2
  have xA : μ 6 4 = nI n := (x_A h.1).trans hA
  rw [ifb_t', x_isFull xA hn, mbv_s, x_holder h.1 hb32, mbv_s, nI_clamp (by omega), Bool.true_and]
  by_cases hw : wi (ν 5 b) 10 25 = true
  · obtain ⟨r, hr, er⟩ := place_out (h.2.2.1.1 b hb).2.2.2.2.1 hw hR
    have hr16 : r < 16 := Nat.lt_of_lt_of_le hr hR
    have e10 : ν 5 b - 10 = nI r := by rw [er, sub10]
    rw [if_pos hw, ifb_t hw, e10]
    by_cases hf : n = 200
    · rw [ifb_t (by simp [hf]), if_pos (by rw [hA, hf]; rfl)]
      exact ⟨-1, μ, ν, rfl, rfl, h⟩
    · have c61 : ¬ (ν 0 61 = 200) := by rw [hA]; exact nI_ne (b := 200) (by omega) (by decide) hf
      have cr : ¬ (nI r = -1) := nI_v (by omega)
      rw [ifb_f (by simp [hf]), if_neg cr, if_neg c61]
      have e18 : μ 18 = ν 4 := h.1.2.1.2.2.2.1
      rw [mrd_nI hb32 (by decide), x_settle xA (by omega) hb32 (by omega), mbv_s]
      refine ⟨ν 4 b, stX μ n b r (ν 4 b) 40, stM ν n b r (ν 4 b) 40, ?_, ?_, settle_rel h (by omega) hA hb (by omega) er (fun r' hr' q => by have := (nI_eq (a := 40) (b := 10 + r') (by decide) (by omega)).mp q; omega) (Or.inr (Or.inr rfl))⟩
      · rw [e18]
        refine (mrd_nI hb32 (by decide)).trans ?_
        show some (μ 18 b, _) = _
        rw [e18]
      · rw [mrd_nI hb32 (by decide), e10, mrd_nI hr16 (by decide), mrd_nI hb32 (by decide), mwr_nI hr16 (by decide), mwr_nI hb32 (by decide)]
        rw [m_logs (ν := mset (mset ν 18 r (ν 18 r + ν 4 b)) 6 b (-1)) hA (by omega) hb32, mbv_s]
        exact mrd_nI hb32 (by decide)
  · rw [if_neg hw, ifb_f hw]
    refine ⟨-1, μ, ν, ?_, rfl, h⟩
    split <;> rfl
