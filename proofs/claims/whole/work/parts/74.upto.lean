theorem x_vansAt {μ ν : Mm} (h : Rel μ ν) {s d : Nat} (hs : s < nS ν) (hd : d < 200) : ∃ x, vs_Stops_vansAt μ (nI s) (nI d) = some x ∧ ∀ v, v < 32 → tb x v = (decide (v < 3) && visB ν v s d) := by
  unfold vs_Stops_vansAt vs_Stops_vansAt_l5
  obtain ⟨e, h1, h2⟩ := miter_cnt (f := fun q : Int32 × Int32 => vs_Stops_vansAt_b5 μ (nI s) (nI d) q.1 q.2) (fun i (a : Int32) => (a, nI i)) 3 (fun i a => ∀ v, v < 32 → tb a v = (decide (v < i) && visB ν v s d)) (fun e => ∀ v, v < 32 → tb e v = (decide (v < 3) && visB ν v s d)) (fun i a hi hI => by
      left
      have hb : vs_Stops_vansAt_b5 μ (nI s) (nI d) a (nI i) = if visB ν i s d = true then some (.inl (a ||| ((1 : Int32) <<< (nI i &&& 31)), nI (i + 1))) else some (.inl (a, nI (i + 1))) := by
        unfold vs_Stops_vansAt_b5
        rw [if_neg (by exact nI_ge (b := 3) hi (by decide)), x_goesTo h.1 h.2 hi hs hd, mbv_s, nI_1]
        by_cases c : visB ν i s d = true
        · rw [ifb_t c, if_pos c]
        · rw [ifb_f c, if_neg c]
      by_cases c : visB ν i s d = true
      · rw [if_pos c] at hb
        refine ⟨_, hb, fun v hv => ?_⟩
        rw [tb_set _ (by omega) hv, hI v hv]
        by_cases e : v = i
        · subst e; rw [c]; simp
        · have : (v < i) ↔ (v < i + 1) := by omega
          simp [this, e]
      · rw [if_neg c] at hb
        refine ⟨_, hb, fun v hv => ?_⟩
        rw [hI v hv]
        by_cases e : v = i
        · subst e; simp [c]
        · have : (v < i) ↔ (v < i + 1) := by omega
          simp [this]) (fun a hI => ⟨a, rfl, hI⟩) FU 0 0 (by omega) (by unfold FU; omega) (fun v hv => by rw [tb_zero]; simp)
  have h1' : miter (fun q : Int32 × Int32 => vs_Stops_vansAt_b5 μ (nI s) (nI d) q.1 q.2) FU (0, 0) = some e := h1
  rw [h1', mbv_s]
  exact ⟨e, rfl, h2⟩
/-- how many vans stop at s on day d -/
def cntV (ν : Mm) (s d : Nat) : Nat := cn (fun v => visB ν v s d) 3
def upTo (ν : Mm) (s : Nat) : Nat → Nat
  | 0 => 0
  | d + 1 => upTo ν s d + cntV ν s d
theorem cntV_le (ν : Mm) (s d : Nat) : cntV ν s d ≤ 3 := cn_le _ _
theorem upTo_le (ν : Mm) (s : Nat) : ∀ d, upTo ν s d ≤ 3 * d
  | 0 => Nat.le_refl _
  | d + 1 => by have := upTo_le ν s d; have := cntV_le ν s d; unfold upTo; omega
theorem x_upTo {μ ν : Mm} (h : Rel μ ν) {s t : Nat} (hs : s < nS ν) (ht : t < 200) : vs_Stops_visitsUpTo μ (nI s) (nI t) = some (nI (upTo ν s (t + 1))) := by
  unfold vs_Stops_visitsUpTo vs_Stops_visitsUpTo_l5
  obtain ⟨e, h1, h2⟩ := miter_cnt (f := fun q : Int32 × Int32 => vs_Stops_visitsUpTo_b5 μ (nI s) (nI t) q.1 q.2) (fun i (a : Int32) => (a, nI i)) (t + 1) (fun i a => a = nI (upTo ν s i)) (fun e => e = nI (upTo ν s (t + 1))) (fun i a hi hI => by
      left
      obtain ⟨x, x1, x2⟩ := x_vansAt h hs (d := i) (by omega)
      have hbc : bc x = cntV ν s i := by
        unfold bc cntV
        rw [bcn_cn]
        refine cn_lt (by omega) (fun q hq => ?_) (fun q q1 q2 => ?_)
        · rw [x2 q (by omega)]; simp [hq]
        · rw [x2 q q2]
          have : ¬ q < 3 := by omega
          simp [this]
      refine ⟨a + nI (cntV ν s i), ?_, ?_⟩
      · show vs_Stops_visitsUpTo_b5 μ (nI s) (nI t) a (nI i) = _
        unfold vs_Stops_visitsUpTo_b5
        rw [if_neg (by rw [nI_ltI (by omega) (by omega)]; omega), x1, mbv_s, bitCount_eq, mbv_s, hbc, nI_1]
      · rw [hI, nI_add]; rfl) (fun a hI => ⟨a, by
      show vs_Stops_visitsUpTo_b5 μ (nI s) (nI t) a (nI (t + 1)) = _
      unfold vs_Stops_visitsUpTo_b5
      rw [if_pos (nI_lt (by omega) (by omega))], hI⟩) FU 0 0 (by omega) (by unfold FU; omega) rfl
  have h1' : miter (fun q : Int32 × Int32 => vs_Stops_visitsUpTo_b5 μ (nI s) (nI t) q.1 q.2) FU (0, 0) = some e := h1
  rw [h1', mbv_s, h2]
theorem m_visitsOf {ν : Mm} (g : Good ν) {s : Nat} (hs : s < nS ν) : md_visitsOf ν (nI s) = some (nI (upTo ν s (nT ν + 1))) := by
  have hT := g_T g
  have hS := g_S g
  have inner : ∀ (d : Nat) (a : Int32), d < 200 → md_visitsOf_l15 ν (nI s) (nI d) a 0 = some (a + nI (cntV ν s d)) := by
    intro d a hd
    unfold md_visitsOf_l15
    obtain ⟨e, h1, h2⟩ := miter_cnt (f := fun q : Int32 × Int32 => md_visitsOf_b15 ν (nI s) (nI d) q.1 q.2) (fun i (a : Int32) => (a, nI i)) 3 (fun i b => b = a + nI (cn (fun v => visB ν v s d) i)) (fun e => e = a + nI (cntV ν s d)) (fun i b hi hI => by
        left
        have hcn : cn (fun v => visB ν v s d) (i + 1) = cn (fun v => visB ν v s d) i + (visB ν i s d).toNat := rfl
        have hb : md_visitsOf_b15 ν (nI s) (nI d) b (nI i) = some (.inl (b + nI (visB ν i s d).toNat, nI (i + 1))) := by
          unfold md_visitsOf_b15
          rw [if_neg (by exact nI_ge (b := 3) hi (by decide)), m_isVisited hi (by omega) hd, mbv_s, nI_1]
          cases visB ν i s d <;> rfl
        refine ⟨_, hb, ?_⟩
        rw [hI, hcn, ← nI_add, Int32.add_assoc]) (fun b hI => ⟨b, rfl, hI⟩) FU 0 a (by omega) (by unfold FU; omega) (by
        show a = a + nI 0
        rw [show nI 0 = 0 from rfl, add0])
    have h1' : miter (fun q : Int32 × Int32 => md_visitsOf_b15 ν (nI s) (nI d) q.1 q.2) FU (a, 0) = some e := h1
    rw [h1', h2]
  unfold md_visitsOf md_visitsOf_l4
  obtain ⟨e, h1, h2⟩ := miter_cnt (f := fun q : Int32 × Int32 => md_visitsOf_b4 ν (nI s) q.1 q.2) (fun i (a : Int32) => (a, nI i)) (nT ν + 1) (fun i a => a = nI (upTo ν s i)) (fun e => e = nI (upTo ν s (nT ν + 1))) (fun i a hi hI => by
      left
      refine ⟨a + nI (cntV ν s i), ?_, ?_⟩
      · show md_visitsOf_b4 ν (nI s) a (nI i) = _
        unfold md_visitsOf_b4
        rw [hT.1, if_neg (by rw [nI_ltI (by omega) (by omega)]; omega), inner i a (by omega), mbv_s, nI_1]
      · rw [hI, nI_add]; rfl) (fun a hI => ⟨a, by
      show md_visitsOf_b4 ν (nI s) a (nI (nT ν + 1)) = _
      unfold md_visitsOf_b4
      rw [hT.1, if_pos (nI_lt (by omega) (by omega))], hI⟩) FU 0 0 (by omega) (by unfold FU; omega) rfl
  have h1' : miter (fun q : Int32 × Int32 => md_visitsOf_b4 ν (nI s) q.1 q.2) FU (0, 0) = some e := h1
  rw [h1', mbv_s, h2]
