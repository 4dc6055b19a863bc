def winP (ν : Mm) (s d i : Nat) (a : Int32) : Prop := ∀ v, v < 32 → (tb a v = true ↔ v < 3 ∧ ∃ j, d ≤ j ∧ j < i ∧ visB ν v s j = true)
theorem winP_eq {ν : Mm} {s d i : Nat} {a a' : Int32} (h : winP ν s d i a) (h' : winP ν s d i a') : a = a' := by
  refine tb_ext (fun j hj => ?_)
  have e := (h j hj).trans (h' j hj).symm
  cases q : tb a j <;> cases q' : tb a' j
  · rfl
  · exact absurd (e.mpr q') (by rw [q]; decide)
  · exact absurd (e.mp q) (by rw [q']; decide)
  · rfl
theorem winP_0 (ν : Mm) (s d : Nat) : winP ν s d d 0 := by
  intro v hv
  rw [tb_zero]
  constructor
  · intro q; cases q
  · rintro ⟨_, j, h1, h2, _⟩; omega
theorem winP_s {ν : Mm} {s d i : Nat} {a a' : Int32} (h : winP ν s d i a) (hd : d ≤ i) (h2 : ∀ v, v < 32 → tb a' v = (tb a v || (decide (v < 3) && visB ν v s i))) : winP ν s d (i + 1) a' := by
  intro v hv
  rw [h2 v hv, Bool.or_eq_true, h v hv, Bool.and_eq_true, decide_eq_true_eq]
  constructor
  · rintro (⟨q1, j, q2, q3, q4⟩ | ⟨q1, q2⟩)
    · exact ⟨q1, j, q2, by omega, q4⟩
    · exact ⟨q1, i, hd, by omega, q2⟩
  · rintro ⟨q1, j, q2, q3, q4⟩
    by_cases e : j = i
    · subst e; exact Or.inr ⟨q1, q4⟩
    · exact Or.inl ⟨q1, j, q2, by omega, q4⟩
theorem x_within {μ ν : Mm} (h : Rel μ ν) {s d n : Nat} (hs : s < nS ν) (hd : d ≤ n) (hn : n < 200) : ∃ x, vs_Stops_vansWithin μ (nI s) (nI d) (nI n) = some x ∧ winP ν s d (n + 1) x := by
  unfold vs_Stops_vansWithin vs_Stops_vansWithin_l6
  obtain ⟨e, h1, h2⟩ := miter_cnt (f := fun q : Int32 × Int32 => vs_Stops_vansWithin_b6 μ (nI s) (nI n) q.1 q.2) (fun i (a : Int32) => (a, nI i)) (n + 1) (fun i a => d ≤ i ∧ winP ν s d i a) (fun e => winP ν s d (n + 1) e) (fun i a hi hI => by
      left
      obtain ⟨x, x1, x2⟩ := x_vansAt h hs (d := i) (by omega)
      refine ⟨a ||| x, ?_, by have := hI.1; omega, winP_s hI.2 hI.1 (fun v hv => by rw [tb_or, x2 v hv])⟩
      show vs_Stops_vansWithin_b6 μ (nI s) (nI n) a (nI i) = _
      unfold vs_Stops_vansWithin_b6
      rw [if_neg (by rw [nI_ltI (by omega) (by omega)]; omega), x1, mbv_s, nI_1]) (fun a hI => ⟨a, by
      show vs_Stops_vansWithin_b6 μ (nI s) (nI n) a (nI (n + 1)) = _
      unfold vs_Stops_vansWithin_b6
      rw [if_pos (nI_lt (by omega) (by omega))], hI.2⟩) FU d 0 (by omega) (by unfold FU; omega) ⟨Nat.le_refl _, winP_0 ν s d⟩
  have h1' : miter (fun q : Int32 × Int32 => vs_Stops_vansWithin_b6 μ (nI s) (nI n) q.1 q.2) FU (0, nI d) = some e := h1
  rw [h1', mbv_s]
  exact ⟨e, rfl, h2⟩
