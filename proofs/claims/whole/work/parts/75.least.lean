theorem st_least : ST_least Rel := by
  intro μ ν a1 h
  unfold vs_least md_least
  have hR := g_R h.2
  have hS := g_S h.2
  have hT := g_T h.2
  have xR : μ 3 7 = nI (nR ν) := (x_R h.1).trans hR.1
  have e30 : μ 30 = ν 19 := h.1.2.2.2.1.2.2.2.1
  unfold vs_least_l7 md_least_l18
  obtain ⟨e, e', h1, h2, h3, h4⟩ := lock_loop (f := fun q : Int32 × Int32 × Int32 => vs_least_b7 μ a1 q.1 q.2.1 q.2.2) (f' := fun q : Int32 × Int32 × Int32 => md_least_b18 ν a1 q.1 q.2.1 q.2.2) (A := Int32 × Int32) (fun i a => (a.1, a.2, nI i)) (fun i a => (a.1, a.2, nI i)) (nR ν) (fun _ a => a.1 = -1 ∨ ∃ r, r < 16 ∧ a.1 = nI r) (fun e e' => e = e' ∧ (e.1 = -1 ∨ ∃ r, r < 16 ∧ e.1 = nI r)) (fun i a hi hI => by
      obtain ⟨p, q⟩ := a
      have hI' : p = -1 ∨ ∃ r, r < 16 ∧ p = nI r := hI
      obtain ⟨s, hs, es⟩ := g_home h.2 hi
      have e25 : μ 25 i = nI s := by rw [h.1.2.2.2.1.1, es]
      have hle := upTo_le ν s (nT ν + 1)
      have f1 : vs_least_b7 μ a1 p q (nI i) = if upTo ν s (nT ν + 1) = 0 then some (.inl (p, q, nI (i + 1))) else if p = -1 then some (.inl (nI i, nI (upTo ν s (nT ν + 1)), nI (i + 1))) else mrd ν 19 16 p fun x7 => if x7 * nI (upTo ν s (nT ν + 1)) ≤ ν 19 i * q then some (.inl (p, q, nI (i + 1))) else some (.inl (nI i, nI (upTo ν s (nT ν + 1)), nI (i + 1))) := by
        unfold vs_least_b7
        rw [xR, if_neg (nI_ge hi (by omega)), mrd_nI (by omega) (by decide), e25, x_T h.1, hT.1, x_upTo h hs (by omega), mbv_s, mrd_nI (by omega) (by decide), nI_1, e30]
        by_cases c : upTo ν s (nT ν + 1) = 0
        · rw [if_pos c, if_pos (by rw [c]; decide)]
        · rw [if_neg c, if_neg (by exact nI_ge (a := 0) (by omega) (by omega))]
          unfold mrd
          rw [e30]
      have f2 : md_least_b18 ν a1 p q (nI i) = if upTo ν s (nT ν + 1) = 0 then some (.inl (p, q, nI (i + 1))) else if p = -1 then some (.inl (nI i, nI (upTo ν s (nT ν + 1)), nI (i + 1))) else mrd ν 19 16 p fun x7 => if ν 19 i * q < x7 * nI (upTo ν s (nT ν + 1)) then some (.inl (nI i, nI (upTo ν s (nT ν + 1)), nI (i + 1))) else some (.inl (p, q, nI (i + 1))) := by
        unfold md_least_b18
        rw [hR.1, if_neg (nI_ge hi (by omega)), mrd_nI (by omega) (by decide), es, m_visitsOf h.2 hs, mbv_s, mrd_nI (by omega) (by decide), nI_1]
        by_cases c : upTo ν s (nT ν + 1) = 0
        · rw [if_pos c, if_pos (by rw [c]; rfl)]
        · rw [if_neg c, if_neg (by exact nI_ne (b := 0) (by omega) (by omega) c)]
      by_cases c : upTo ν s (nT ν + 1) = 0
      · rw [if_pos c] at f1 f2
        exact ⟨(p, q), f1, f2, hI'⟩
      · rw [if_neg c] at f1 f2
        by_cases c2 : p = -1
        · rw [if_pos c2] at f1 f2
          exact ⟨(nI i, _), f1, f2, Or.inr ⟨i, by omega, rfl⟩⟩
        · rw [if_neg c2] at f1 f2
          obtain ⟨r, hr, er⟩ := hI'.resolve_left c2
          subst er
          rw [mrd_nI hr (by decide)] at f1 f2
          by_cases c3 : ν 19 i * q < ν 19 r * nI (upTo ν s (nT ν + 1))
          · rw [if_neg (i32_nle.mpr c3)] at f1
            rw [if_pos c3] at f2
            exact ⟨(nI i, _), f1, f2, Or.inr ⟨i, by omega, rfl⟩⟩
          · rw [if_pos (Classical.not_not.mp (fun z => c3 (i32_nle.mp z)))] at f1
            rw [if_neg c3] at f2
            exact ⟨(nI r, q), f1, f2, Or.inr ⟨r, hr, rfl⟩⟩) (fun a hI => by
      obtain ⟨p, q⟩ := a
      refine ⟨(p, q), (p, q), ?_, ?_, rfl, hI⟩
      · show vs_least_b7 μ a1 p q (nI (nR ν)) = _
        unfold vs_least_b7
        rw [xR, if_pos (nI_le (Nat.le_refl _) (by omega))]
      · show md_least_b18 ν a1 p q (nI (nR ν)) = _
        unfold md_least_b18
        rw [hR.1, if_pos (nI_le (Nat.le_refl _) (by omega))]) (nR ν) 0 FU (-1, 0) (by omega) (by unfold FU; omega) (Or.inl rfl)
  have h1' : miter (fun q : Int32 × Int32 × Int32 => vs_least_b7 μ a1 q.1 q.2.1 q.2.2) FU (-1, 0, 0) = some e := h1
  have h2' : miter (fun q : Int32 × Int32 × Int32 => md_least_b18 ν a1 q.1 q.2.1 q.2.2) FU (-1, 0, 0) = some e' := h2
  subst h3
  obtain ⟨p, q⟩ := e
  rw [h1', h2', in_eq, mbv_s, mbv_s, mbv_s]
  simp only [un2]
  have hw : wi a1 0 2 = true ↔ a1 = 0 ∨ a1 = 1 ∨ a1 = 2 := by
    constructor
    · intro z
      obtain ⟨k, k1, k2, k3⟩ := wi_r (lo := 0) (hi := 2) z (by decide) (by decide)
      rcases (show k = 0 ∨ k = 1 ∨ k = 2 by omega) with rfl | rfl | rfl
      · exact Or.inl k3
      · exact Or.inr (Or.inl k3)
      · exact Or.inr (Or.inr k3)
    · rintro (rfl | rfl | rfl) <;> decide
  by_cases c : wi a1 0 2 = true
  · rw [ifb_t c]
    by_cases c0 : p = -1
    · rw [if_pos c0, if_pos c0]; exact ⟨-1, rfl, rfl, h⟩
    · rw [if_neg c0, if_neg c0]
      obtain ⟨r, hr, er⟩ := h4.resolve_left c0
      have er' : p = nI r := er
      subst er'
      rw [mrd_nI hr (by decide), mrd_nI hr (by decide), e30]
      rcases hw.mp c with rfl | rfl | rfl
      · exact ⟨_, rfl, rfl, h⟩
      · exact ⟨_, rfl, rfl, h⟩
      · exact ⟨_, rfl, rfl, h⟩
  · rw [ifb_f c]
    have n0 : ¬ (a1 = 0) := fun z => c (hw.mpr (Or.inl z))
    have n1 : ¬ (a1 = 1) := fun z => c (hw.mpr (Or.inr (Or.inl z)))
    have n2 : ¬ (a1 = 2) := fun z => c (hw.mpr (Or.inr (Or.inr z)))
    rw [if_neg n0, if_neg n1, if_neg n2]
    refine ⟨-1, ?_, rfl, h⟩
    split <;> rfl
