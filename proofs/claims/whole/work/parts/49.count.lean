theorem ifb_t {α : Type} {b : Bool} {x y : α} (h : b = true) : (if bI b = 0 then x else y) = y := by subst h; rfl
theorem ifb_f {α : Type} {b : Bool} {x y : α} (h : ¬ (b = true)) : (if bI b = 0 then x else y) = x := by
  have h2 : b = false := by cases b <;> simp_all
  subst h2; rfl
theorem st_count : ST_count Rel := by
  intro μ ν a h
  unfold vs_count md_count
  have hS := g_S h.2
  have xS : μ 4 12 = nI (nS ν) := (x_S h.1).trans hS.1
  have e20 : (20 : Int32) + μ 4 12 - 1 = nI (19 + nS ν) := by
    rw [xS, show (20 : Int32) = nI 20 from rfl, nI_add, show 20 + nS ν = (19 + nS ν) + 1 by omega, nI_pred]
  have e19 : (19 : Int32) + ν 0 2 = nI (19 + nS ν) := by rw [hS.1, show (19 : Int32) = nI 19 from rfl, nI_add]
  simp only [within_eq, in_eq, mbv_s, e20, e19]
  obtain ⟨n1, n2, n3, n4, n5, n6, n7, n8, n9⟩ := h.1.1
  by_cases c0 : a = 0
  · subst c0; rw [wi_lo (by decide), wi_lo (by decide)]; exact ⟨_, rfl, by rw [n1]; rfl, h⟩
  by_cases c1 : a = 1
  · subst c1; rw [wi_lo (by decide), wi_lo (by decide)]; exact ⟨_, rfl, by rw [n2]; rfl, h⟩
  by_cases c2 : a = 2
  · subst c2; rw [wi_lo (by decide), wi_lo (by decide)]; exact ⟨_, rfl, by rw [n3]; rfl, h⟩
  by_cases c3 : a = 3
  · subst c3; rw [wi_lo (by decide), wi_lo (by decide)]; exact ⟨_, rfl, by rw [n4]; rfl, h⟩
  by_cases c4 : a = 4
  · subst c4; rw [wi_lo (by decide), wi_lo (by decide)]; exact ⟨_, rfl, by rw [h.1.2.2.2.2.2.2.2.2.2.2.2.2.2.2.2.2.1]; rfl, h⟩
  by_cases c5 : a = 5
  · subst c5; rw [wi_lo (by decide), wi_lo (by decide)]; exact ⟨_, rfl, by rw [n8]; rfl, h⟩
  by_cases c6 : a = 6
  · subst c6; rw [wi_lo (by decide), wi_lo (by decide)]; exact ⟨_, rfl, by rw [n9]; rfl, h⟩
  by_cases c7 : a = 7
  · subst c7; rw [wi_lo (by decide), wi_lo (by decide), m_allAsks h.1 h.2]; exact ⟨_, rfl, rfl, h⟩
  by_cases c8 : a = 8
  · subst c8; rw [wi_lo (by decide), wi_lo (by decide)]; exact ⟨_, rfl, by rw [n7]; rfl, h⟩
  simp only [if_neg c0, if_neg c1, if_neg c2, if_neg c3, if_neg c4, if_neg c5, if_neg c6, if_neg c7, if_neg c8]
  by_cases hw : wi a 10 12 = true
  · obtain ⟨k, hk, rfl⟩ := wi10 hw
    rw [ifb_t hw, ifb_t hw, sub10, x_lengthOn h.1 h.2 hk, m_lengthOn h.2 hk, mbv_s]
    exact ⟨_, rfl, rfl, h⟩
  · rw [ifb_f hw, ifb_f hw]
    by_cases hw2 : wi a 20 (nI (19 + nS ν)) = true
    · obtain ⟨k, hk, rfl⟩ := wi20 hS.2 hw2
      have hk10 : k < 10 := Nat.lt_of_lt_of_le hk hS.2
      rw [ifb_t hw2, ifb_t hw2, sub20, mrd_nI hk10 (by decide), bitCount_eq, x_readersOf h.1 h.2 hk10, m_readersOf h.2, mbv_s]
      exact ⟨_, rfl, rfl, h⟩
    · rw [ifb_f hw2, ifb_f hw2]
      exact ⟨_, rfl, rfl, h⟩
