def wishV (ν : Mm) (r b : Nat) (ag : Int32) : Int32 := if ν 21 (32 * r + b) ≠ 0 ∧ ag = 0 then 0 else if ν 16 r ≠ 0 ∧ ν 16 r ≠ ν 3 b then 0 else bnd (lawV ν r b 0 119 0) 0 1000
theorem wishV_abs {ν ν' : Mm} (h : absM ν' = absM ν) (r b : Nat) (ag : Int32) : wishV ν' r b ag = wishV ν r b ag := by
  have e1 : wishV ν' r b ag = wishV (absM ν') r b ag := rfl
  have e2 : wishV ν r b ag = wishV (absM ν) r b ag := rfl
  rw [e1, e2, h]
section
variable {μ ν : Mm}
theorem x_wish (h : Rel μ ν) {r b : Nat} (hr : r < nR ν) (hb : b < nB ν) (ag : Int32) : ∃ μ', vs_Wishes_wish μ (nI r) (nI b) ag (ν 0 0) = some (wishV ν r b ag, μ') ∧ absX μ' = absX μ ∧ ∀ c, c ≠ 52 → c ≠ 69 → c ≠ 10 → μ' c = μ c := by
  have hR := (g_R h.2).2
  have hB := (g_B h.2).2
  have hr16 : r < 16 := by omega
  have hb32 : b < 32 := by omega
  have e26 : μ 26 = ν 16 := h.1.2.2.2.1.2.1
  have e17 : μ 17 = ν 3 := h.1.2.1.2.2.1
  obtain ⟨μ', l1, l2, l3⟩ := x_law h hr hb 0 119 0
  have ja : ∀ a5 : Int32, vs_Wishes_wish_j61 μ (nI r) (nI b) (ν 0 0) a5 0 = if a5 = 0 then some (bnd (lawV ν r b 0 119 0) 0 1000, μ') else some (0, μ) := by
    intro a5
    unfold vs_Wishes_wish_j61
    rw [x_look h.1 h.2 hr hb, mbv_s, l1]
    rfl
  have jb : ∀ a5 : Int32, vs_Wishes_wish_j61 μ (nI r) (nI b) (ν 0 0) a5 1 = some (0, μ) := by
    intro a5
    unfold vs_Wishes_wish_j61
    by_cases c : a5 = 0
    · rw [if_pos c, if_neg (by decide)]
    · rw [if_neg c]
  have j21 : ∀ a5 : Int32, vs_Wishes_wish_j21 μ (nI r) (nI b) (ν 0 0) a5 = if a5 = 0 then if ν 16 r ≠ 0 ∧ ν 16 r ≠ ν 3 b then some (0, μ) else some (bnd (lawV ν r b 0 119 0) 0 1000, μ') else some (0, μ) := by
    intro a5
    unfold vs_Wishes_wish_j21 vs_Wishes_wish_j60
    rw [mrd_nI hr16 (by decide), mrd_nI hr16 (by decide), mrd_nI hb32 (by decide), e26, e17, ja, jb]
    by_cases c1 : ν 16 r = 0
    · have c3 : ¬ (ν 16 r ≠ 0 ∧ ν 16 r ≠ ν 3 b) := fun q => q.1 c1
      rw [if_pos c1, if_neg c3]
    · rw [if_neg c1]
      by_cases c2 : ν 16 r = ν 3 b
      · have c3 : ¬ (ν 16 r ≠ 0 ∧ ν 16 r ≠ ν 3 b) := fun q => q.2 c2
        rw [if_pos c2, if_neg c3]
      · have c3 : ν 16 r ≠ 0 ∧ ν 16 r ≠ ν 3 b := ⟨c1, c2⟩
        rw [if_neg c2, if_pos c3]
        split <;> rfl
  have fin : ∀ o : Option (Int32 × Mm), o = (if ν 21 (32 * r + b) ≠ 0 ∧ ag = 0 then some (0, μ) else if ν 16 r ≠ 0 ∧ ν 16 r ≠ ν 3 b then some (0, μ) else some (bnd (lawV ν r b 0 119 0) 0 1000, μ')) → ∃ μ', o = some (wishV ν r b ag, μ') ∧ absX μ' = absX μ ∧ ∀ c, c ≠ 52 → c ≠ 69 → c ≠ 10 → μ' c = μ c := by
    intro o ho
    unfold wishV
    by_cases c1 : ν 21 (32 * r + b) ≠ 0 ∧ ag = 0
    · rw [if_pos c1] at ho ⊢
      exact ⟨μ, ho, rfl, fun _ _ _ _ => rfl⟩
    · rw [if_neg c1] at ho ⊢
      by_cases c2 : ν 16 r ≠ 0 ∧ ν 16 r ≠ ν 3 b
      · rw [if_pos c2] at ho ⊢
        exact ⟨μ, ho, rfl, fun _ _ _ _ => rfl⟩
      · rw [if_neg c2] at ho ⊢
        exact ⟨μ', ho, l2, l3⟩
  apply fin
  unfold vs_Wishes_wish vs_Wishes_wish_j20
  rw [x_wasHad h.1 hr16 hb32, mbv_s, j21, j21, if_pos (show (0 : Int32) = 0 from rfl), if_neg (show ¬ ((1 : Int32) = 0) by decide)]
  by_cases ca : ag = 0
  · rw [if_pos ca]
    by_cases ch : ν 21 (32 * r + b) = 0
    · have c3 : ¬ (ν 21 (32 * r + b) ≠ 0 ∧ ag = 0) := fun q => q.1 ch
      rw [ifb_f (by simp [ch]), if_neg c3]
    · have c3 : ν 21 (32 * r + b) ≠ 0 ∧ ag = 0 := ⟨ch, ca⟩
      rw [ifb_t (by simp [ch]), if_pos c3]
  · have c3 : ¬ (ν 21 (32 * r + b) ≠ 0 ∧ ag = 0) := fun q => ca q.2
    rw [if_neg ca, if_neg c3]
theorem m_wish (h : Rel μ ν) {r b : Nat} (hr : r < nR ν) (hb : b < nB ν) (ag : Int32) : ∃ ν', md_wantsBy ν (nI r) (nI b) ag = some (wishV ν r b ag, ν') ∧ absM ν' = absM ν ∧ ∀ c, c ≠ 42 → c ≠ 43 → ν' c = ν c := by
  have hR := (g_R h.2).2
  have hB := (g_B h.2).2
  have hr16 : r < 16 := by omega
  have hb32 : b < 32 := by omega
  obtain ⟨ν', l1, l2, l3⟩ := m_law h hr hb 0 119 0 1000 0 (by decide) (by decide)
  have j18 : md_wantsBy_j18 ν (nI r) (nI b) = if ν 16 r ≠ 0 ∧ ν 16 r ≠ ν 3 b then some (0, ν) else some (bnd (lawV ν r b 0 119 0) 0 1000, ν') := by
    unfold md_wantsBy_j18
    rw [mrd_nI hr16 (by decide), mrd_nI hr16 (by decide), mrd_nI hb32 (by decide), m_feels h.2 hr hb, mbv_s, l1]
    by_cases c1 : ν 16 r = 0
    · have c3 : ¬ (ν 16 r ≠ 0 ∧ ν 16 r ≠ ν 3 b) := fun q => q.1 c1
      rw [if_pos c1, if_neg c3]; rfl
    · rw [if_neg c1]
      by_cases c2 : ν 16 r = ν 3 b
      · have c3 : ¬ (ν 16 r ≠ 0 ∧ ν 16 r ≠ ν 3 b) := fun q => q.2 c2
        rw [if_pos c2, if_neg c3]; rfl
      · have c3 : ν 16 r ≠ 0 ∧ ν 16 r ≠ ν 3 b := ⟨c1, c2⟩
        rw [if_neg c2, if_pos c3]
  have e32 : (32 : Int32) * nI r + nI b = nI (32 * r + b) := ix2 32 r b
  unfold md_wantsBy
  rw [e32, mrd_nI (by omega) (by decide), j18]
  unfold wishV
  by_cases ch : ν 21 (32 * r + b) = 0
  · have c3 : ¬ (ν 21 (32 * r + b) ≠ 0 ∧ ag = 0) := fun q => q.1 ch
    rw [if_pos ch, if_neg c3]
    by_cases c2 : ν 16 r ≠ 0 ∧ ν 16 r ≠ ν 3 b
    · rw [if_pos c2, if_pos c2]; exact ⟨ν, rfl, rfl, fun _ _ _ => rfl⟩
    · rw [if_neg c2, if_neg c2]; exact ⟨ν', rfl, l2, l3⟩
  · rw [if_neg ch]
    by_cases ca : ag = 0
    · have c3 : ν 21 (32 * r + b) ≠ 0 ∧ ag = 0 := ⟨ch, ca⟩
      rw [if_pos ca, if_pos c3]; exact ⟨ν, rfl, rfl, fun _ _ _ => rfl⟩
    · have c3 : ¬ (ν 21 (32 * r + b) ≠ 0 ∧ ag = 0) := fun q => ca q.2
      rw [if_neg ca, if_neg c3]
      by_cases c2 : ν 16 r ≠ 0 ∧ ν 16 r ≠ ν 3 b
      · rw [if_pos c2, if_pos c2]; exact ⟨ν, rfl, rfl, fun _ _ _ => rfl⟩
      · rw [if_neg c2, if_neg c2]; exact ⟨ν', rfl, l2, l3⟩
end
theorem st_wants : ST_wants Rel := by
  intro μ ν a1 a2 a3 h
  unfold vs_wants md_wants
  have hB := (g_B h.2).2
  have hR := (g_R h.2).2
  rw [x_pair h.1 h.2, m_isR h.2, m_isB h.2, mbv_s, mbv_s, mbv_s]
  cases h1 : ix a1 (nR ν)
  · exact ⟨-1, μ, ν, rfl, rfl, h⟩
  cases h2 : ix a2 (nB ν)
  · exact ⟨-1, μ, ν, rfl, rfl, h⟩
  obtain ⟨r, hr, rfl⟩ := ix_t h1 (by omega)
  obtain ⟨b, hb, rfl⟩ := ix_t h2 (by omega)
  obtain ⟨μ', x1, x2, -⟩ := x_wish h hr hb a3
  obtain ⟨ν', m1, m2, -⟩ := m_wish h hr hb a3
  rw [Bool.true_and, ifb_t', ifb_t', ifb_t', x_T h.1, x1, m1]
  exact ⟨wishV ν r b a3, μ', ν', rfl, rfl, Rel_abs x2 m2 h⟩
