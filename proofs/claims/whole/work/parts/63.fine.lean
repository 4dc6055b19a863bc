def lateV (ν : Mm) (b : Nat) : Int32 := if ν 0 0 ≤ ν 6 b then 0 else ν 0 0 - ν 6 b
theorem late_eq {t d : Nat} (ht : t ≤ 199) (hd : d ≤ 300) : jmax 0 (nI t - nI d) = if nI t ≤ nI d then 0 else nI t - nI d := by
  unfold jmax
  have e := pk_sub_toInt (a := t) (b := d) (by omega) (by omega)
  have e0 : (0 : Int32).toInt = 0 := rfl
  by_cases c : nI t ≤ nI d
  · have c' : t ≤ d := (nI_leI (by omega) (by omega)).mp c
    rw [if_pos c, if_neg (by rw [Int32.lt_iff_toInt_lt, e, e0]; omega)]
  · have c' : ¬ t ≤ d := fun q => c (nI_le q (by omega))
    rw [if_neg c, if_pos (by rw [Int32.lt_iff_toInt_lt, e, e0]; omega)]
def fineV (ν : Mm) (r b : Nat) : Int32 := bnd (lawV ν r b (lateV ν b) 102 0) 0 10000
section
variable {μ ν : Mm}
theorem x_fine (h : Rel μ ν) {r b : Nat} (hr : r < nR ν) (hb : b < nB ν) (hd : gI (ν 6 b) 300) : ∃ μ', vs_Wishes_fine μ (nI r) (nI b) (ν 0 0) = some (fineV ν r b, μ') ∧ absX μ' = absX μ ∧ ∀ c, c ≠ 52 → c ≠ 69 → c ≠ 10 → μ' c = μ c := by
  have hB := (g_B h.2).2
  have hT := g_T h.2
  obtain ⟨d, hd1, hd2⟩ := hd
  have e20 : μ 20 b = nI d := by rw [h.1.2.1.2.2.2.2.2.1, hd2]
  obtain ⟨μ', l1, l2, l3⟩ := x_law h hr hb (lateV ν b) 102 0
  refine ⟨μ', ?_, l2, l3⟩
  have el : jmax 0 (ν 0 0 - nI d) = lateV ν b := by unfold lateV; rw [hT.1, hd2, late_eq hT.2 hd1]
  unfold vs_Wishes_fine
  rw [mrd_nI (by omega) (by decide), e20, el, x_look h.1 h.2 hr hb, mbv_s, l1]
  rfl
theorem m_fine (h : Rel μ ν) {r b : Nat} (hr : r < nR ν) (hb : b < nB ν) : ∃ ν', (mbv (md_feels ν (nI r) (nI b) (lateV ν b)) fun μ17 => md_byLaw μ17 102 0 10000 0) = some (fineV ν r b, ν') ∧ absM ν' = absM ν ∧ ∀ c, c ≠ 42 → c ≠ 43 → ν' c = ν c := by
  obtain ⟨ν', l1, l2, l3⟩ := m_law h hr hb (lateV ν b) 102 0 10000 0 (by decide) (by decide)
  refine ⟨ν', ?_, l2, l3⟩
  rw [m_feels h.2 hr hb, mbv_s, l1]
  rfl
theorem mset_comm {ν : Mm} {c c' i j : Nat} {v w : Int32} (h : c ≠ c') : mset (mset ν c i v) c' j w = mset (mset ν c' j w) c i v := by
  funext q
  by_cases e : q = c
  · subst e
    rw [mset_o h]
    unfold mset
    rw [if_pos rfl, if_pos rfl]
    rw [if_neg h]
  · rw [mset_o (k := c) e]
    by_cases e2 : q = c'
    · subst e2
      unfold mset
      rw [if_pos rfl, if_pos rfl, if_neg (fun q => h q.symm)]
    · rw [mset_o e2, mset_o e2, mset_o e]
theorem mix_rel (h : Rel μ ν) (b s : Nat) : Rel (mset (mset μ 22 b (μ 22 b + 1)) 40 s (μ 40 s + 1)) (mset (mset ν 8 b (ν 8 b + 1)) 29 s (ν 29 s + 1)) := by
  obtain ⟨⟨n, ⟨b1, b2, b3, b4, b5, b6, b7, b8⟩, ⟨s1, s2, s3, s4, s5, s6, s7⟩, rest⟩, g⟩ := h
  exact ⟨⟨n, ⟨b1, b2, b3, b4, b5, b6, b7, by show upd (μ 22) b (μ 22 b + 1) = upd (ν 8) b (ν 8 b + 1); rw [b8]⟩, ⟨s1, s2, s3, s4, s5, s6, by show upd (μ 40) s (μ 40 s + 1) = upd (ν 29) s (ν 29 s + 1); rw [s7]⟩, rest⟩, g⟩
end
