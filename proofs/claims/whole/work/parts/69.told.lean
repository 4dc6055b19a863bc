def tellB (ν : Mm) (v r : Nat) : Bool := decide (ν 13 (ν 15 r).toNatClampNeg = nI v)
theorem x_told {μ ν : Mm} (h : Rel μ ν) {v : Nat} : ∃ x, vs_readersTold μ (nI v) = some x ∧ ∀ r, r < 32 → tb x r = (decide (r < nR ν) && tellB ν v r) := by
  have hS := g_S h.2
  have hR := g_R h.2
  have xS : μ 4 12 = nI (nS ν) := (x_S h.1).trans hS.1
  have e35 : μ 35 = ν 13 := h.1.2.2.1.2.2.2.1
  have hrd := h.1.2.2.2.2.2.2.2.2.2.2.1
  unfold vs_readersTold vs_readersTold_l4
  obtain ⟨e, h1, h2⟩ := miter_cnt (f := fun q : Int32 × Int32 => vs_readersTold_b4 μ (nI v) q.1 q.2) (fun i (a : Int32) => (a, nI i)) (nS ν) (fun i a => ∀ r, r < 32 → (tb a r = true ↔ r < nR ν ∧ ∃ s, s < i ∧ ν 15 r = nI s ∧ ν 13 s = nI v)) (fun e => ∀ r, r < 32 → (tb e r = true ↔ r < nR ν ∧ ∃ s, s < nS ν ∧ ν 15 r = nI s ∧ ν 13 s = nI v)) (fun i a hi hI => by
      left
      have hb : vs_readersTold_b4 μ (nI v) a (nI i) = if ν 13 i = nI v then some (.inl (a ||| μ 39 i, nI (i + 1))) else some (.inl (a, nI (i + 1))) := by
        unfold vs_readersTold_b4
        rw [xS, if_neg (nI_ge hi (by omega)), mrd_nI (by omega) (by decide), mrd_nI (by omega) (by decide), e35, nI_1]
      by_cases c : ν 13 i = nI v
      · refine ⟨a ||| μ 39 i, by rw [if_pos c] at hb; exact hb, fun r hr => ?_⟩
        rw [tb_or, hrd i (by omega) r hr, Bool.or_eq_true, hI r hr, Bool.and_eq_true, decide_eq_true_eq, decide_eq_true_eq]
        constructor
        · rintro (⟨q1, s, q2, q3⟩ | ⟨q1, q2⟩)
          · exact ⟨q1, s, by omega, q3⟩
          · exact ⟨q1, i, by omega, q2, c⟩
        · rintro ⟨q1, s, q2, q3, q4⟩
          by_cases e : s = i
          · subst e; exact Or.inr ⟨q1, q3⟩
          · exact Or.inl ⟨q1, s, by omega, q3, q4⟩
      · refine ⟨a, by rw [if_neg c] at hb; exact hb, fun r hr => ?_⟩
        rw [hI r hr]
        constructor
        · rintro ⟨q1, s, q2, q3⟩
          exact ⟨q1, s, by omega, q3⟩
        · rintro ⟨q1, s, q2, q3, q4⟩
          by_cases e : s = i
          · subst e; exact absurd q4 c
          · exact ⟨q1, s, by omega, q3, q4⟩) (fun a hI => by
      refine ⟨a, ?_, hI⟩
      show vs_readersTold_b4 μ (nI v) a (nI (nS ν)) = _
      unfold vs_readersTold_b4
      rw [xS, if_pos (nI_le (Nat.le_refl _) (by omega))]) FU 0 0 (by omega) (by unfold FU; omega) (fun r hr => by
      rw [tb_zero]
      constructor
      · intro q; cases q
      · rintro ⟨_, s, q, _⟩; omega)
  have h1' : miter (fun q : Int32 × Int32 => vs_readersTold_b4 μ (nI v) q.1 q.2) FU (0, 0) = some e := h1
  rw [h1', mbv_s]
  refine ⟨e, rfl, fun r hr => ?_⟩
  have q := h2 r hr
  unfold tellB
  by_cases c : r < nR ν
  · obtain ⟨s, hs, es⟩ := g_home h.2 c
    rw [es, nI_clamp (by omega)]
    by_cases c2 : ν 13 s = nI v
    · rw [q.mpr ⟨c, s, hs, es, c2⟩]; simp [c, c2]
    · have : tb e r = false := by
        cases z : tb e r
        · rfl
        · obtain ⟨_, s', h3, h4, h5⟩ := q.mp z
          rw [es] at h4
          have := (nI_eq (by omega) (by omega)).mp h4
          subst this
          exact absurd h5 c2
      rw [this]; simp [c2]
  · have : tb e r = false := by
      cases z : tb e r
      · rfl
      · exact absurd (q.mp z).1 c
    rw [this]; simp [c]
