theorem m_within {ν : Mm} {s d : Nat} (hs : s < 10) (hd : d < 200) : ∃ x, md_different_l22 ν (nI s) (nI d) 0 (nI d) = some x ∧ winP ν s d (min (d + 14) 200) x := by
  have inner : ∀ (i : Nat) (a : Int32), i < 200 → ∃ a', md_different_l42 ν (nI s) (nI d) (nI i) a 0 = some a' ∧ ∀ v, v < 32 → tb a' v = (tb a v || (decide (v < 3) && visB ν v s i)) := by
    intro i a hi
    unfold md_different_l42
    obtain ⟨e, h1, h2⟩ := miter_cnt (f := fun q : Int32 × Int32 => md_different_b42 ν (nI s) (nI d) (nI i) q.1 q.2) (fun k (b : Int32) => (b, nI k)) 3 (fun k b => ∀ v, v < 32 → tb b v = (tb a v || (decide (v < k) && visB ν v s i))) (fun e => ∀ v, v < 32 → tb e v = (tb a v || (decide (v < 3) && visB ν v s i))) (fun k b hk hI => by
        left
        have hb : md_different_b42 ν (nI s) (nI d) (nI i) b (nI k) = if visB ν k s i = true then some (.inl (b ||| ((1 : Int32) <<< (nI k &&& 31)), nI (k + 1))) else some (.inl (b, nI (k + 1))) := by
          unfold md_different_b42
          rw [if_neg (by exact nI_ge (b := 3) hk (by decide)), m_isVisited hk hs hi, mbv_s, nI_1]
          by_cases c : visB ν k s i = true
          · rw [ifb_t c, if_pos c]
          · rw [ifb_f c, if_neg c]
        by_cases c : visB ν k s i = true
        · rw [if_pos c] at hb
          refine ⟨_, hb, fun v hv => ?_⟩
          rw [tb_set _ (by omega) hv, hI v hv]
          by_cases e : v = k
          · subst e; rw [c]; simp
          · have : (v < k) ↔ (v < k + 1) := by omega
            simp [this, e]
        · rw [if_neg c] at hb
          refine ⟨_, hb, fun v hv => ?_⟩
          rw [hI v hv]
          by_cases e : v = k
          · subst e; simp [c]
          · have : (v < k) ↔ (v < k + 1) := by omega
            simp [this]) (fun b hI => ⟨b, rfl, hI⟩) FU 0 a (by omega) (by unfold FU; omega) (fun v hv => by simp)
    have h1' : miter (fun q : Int32 × Int32 => md_different_b42 ν (nI s) (nI d) (nI i) q.1 q.2) FU (a, 0) = some e := h1
    exact ⟨e, h1', h2⟩
  have e14 : nI d + 14 = nI (d + 14) := nI_add d 14
  unfold md_different_l22
  obtain ⟨e, h1, h2⟩ := miter_cnt (f := fun q : Int32 × Int32 => md_different_b22 ν (nI s) (nI d) q.1 q.2) (fun i (a : Int32) => (a, nI i)) (min (d + 14) 200) (fun i a => d ≤ i ∧ winP ν s d i a) (fun e => winP ν s d (min (d + 14) 200) e) (fun i a hi hI => by
      left
      have hi1 : i < d + 14 := by omega
      have hi2 : i < 200 := by omega
      obtain ⟨a', x1, x2⟩ := inner i a hi2
      refine ⟨a', ?_, by have := hI.1; omega, winP_s hI.2 hI.1 x2⟩
      show md_different_b22 ν (nI s) (nI d) a (nI i) = _
      unfold md_different_b22
      rw [e14, if_neg (nI_ge hi1 (by omega)), if_neg (show ¬ ((199 : Int32) < nI i) from fun z => by have := (nI_ltI (a := 199) (b := i) (by decide) (by omega)).mp z; omega), x1, mbv_s, nI_1]) (fun a hI => ⟨a, by
      show md_different_b22 ν (nI s) (nI d) a (nI (min (d + 14) 200)) = _
      unfold md_different_b22
      rw [e14]
      by_cases c : d + 14 ≤ 200
      · rw [Nat.min_eq_left c, if_pos (nI_le (Nat.le_refl _) (by omega))]
      · rw [Nat.min_eq_right (by omega), if_neg (nI_ge (by omega) (by omega)), if_pos (by decide)], hI.2⟩) FU d 0 (by omega) (by unfold FU; omega) ⟨Nat.le_refl _, winP_0 ν s d⟩
  have h1' : miter (fun q : Int32 × Int32 => md_different_b22 ν (nI s) (nI d) q.1 q.2) FU (0, nI d) = some e := h1
  exact ⟨e, h1', h2⟩
