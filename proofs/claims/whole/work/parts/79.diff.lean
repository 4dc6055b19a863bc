/-! how different it is -/
def knP (ν : Mm) (s b r : Nat) : Bool := decide (ν 15 r = nI s) && decide (ν 21 (32 * r + b) ≠ 0)
def knB (ν : Mm) (s b : Nat) : Bool := (lf (knP ν s b) (nR ν) 0).isSome
theorem m_known {ν : Mm} (g : Good ν) {s b : Nat} (hb : b < 32) : md_isKnownAt ν (nI s) (nI b) = some (knB ν s b) := by
  have hR := g_R g
  unfold md_isKnownAt md_isKnownAt_l2
  have h := find_loop (f := fun q => md_isKnownAt_b2 ν (nI s) (nI b) q) (p := knP ν s b) 0 (nR ν) (fun _ => .inl ()) (.inr ()) (fun i _ hi => by
    show md_isKnownAt_b2 ν (nI s) (nI b) (nI i) = _
    unfold md_isKnownAt_b2 knP
    rw [hR.1, if_neg (nI_ge hi (by omega)), mrd_nI (by omega) (by decide), nI_1]
    by_cases c : ν 15 i = nI s
    · rw [if_pos c]
      refine (mrd_at (ix2 32 i b) (by omega) (by decide)).trans ?_
      by_cases c2 : ν 21 (32 * i + b) = 0
      · rw [if_pos c2, if_neg (by simp [c2])]
      · rw [if_neg c2, if_pos (by simp [c, c2])]
    · rw [if_neg c, if_neg (by simp [c])]) (by
    show md_isKnownAt_b2 ν (nI s) (nI b) (nI (nR ν)) = _
    unfold md_isKnownAt_b2
    rw [hR.1, if_pos (nI_le (Nat.le_refl _) (by omega))]) (nR ν) 0 FU (Nat.le_refl _) (by omega) (by unfold FU; omega)
  rw [show (0 : Int32) = nI 0 from rfl, h]
  unfold knB
  cases lf (knP ν s b) (nR ν) 0 <;> rfl
theorem x_known {μ ν : Mm} (rx : RX μ ν) (g : Good ν) {s b : Nat} (hs : s < 10) (hb : b < 32) : (μ 23 b &&& μ 39 s) = 0 ↔ knB ν s b = false := by
  have hR := g_R g
  have hh := rx.2.2.2.2.2.2.2.1.1 b hb
  have hd := rx.2.2.2.2.2.2.2.2.2.2.1 s hs
  rw [z_iff]
  unfold knB
  cases q : lf (knP ν s b) (nR ν) 0 with
  | none =>
    refine ⟨fun _ => rfl, fun _ j hj => ?_⟩
    rw [tb_and, hh j hj, hd j hj]
    by_cases c : j < nR ν
    · have := lf_none q j (Nat.zero_le _) (by omega)
      unfold knP at this
      cases c1 : decide (ν 15 j = nI s)
      · simp
      · rw [c1] at this
        have this : decide (ν 21 (32 * j + b) ≠ 0) = false := this
        rw [this]; simp
    · simp [c]
  | some k =>
    obtain ⟨h1, h2, h3, -⟩ := lf_some q
    refine ⟨fun h => ?_, fun h => by cases h⟩
    have h5 := h k (by omega)
    rw [tb_and, hh k (by omega), hd k (by omega)] at h5
    unfold knP at h3
    rw [Bool.and_eq_true] at h3
    rw [h3.1, h3.2] at h5
    have e1 : k < 16 := by omega
    have e2 : k < nR ν := by omega
    simp [e1, e2] at h5
def dfV (ν : Mm) (s : Nat) (x : Int32) (b : Nat) : Int32 := if wi (ν 5 b) 1 3 = true then (if tb x (ν 5 b - 1).toNatClampNeg = true then (if knB ν s b = true then 0 else 1) else 0) else 0
theorem x_diff {μ ν : Mm} (h : Rel μ ν) {s : Nat} (hs : s < nS ν) (x : Int32) : vs_different_l54 μ (nI s) x 0 0 = some (sm (dfV ν s x) (nB ν)) := by
  have hB := g_B h.2
  have hS := g_S h.2
  unfold vs_different_l54
  refine sum_loop (f := vs_different_b54 μ (nI s) x) (n := nB ν) (dfV ν s x) (by omega) (fun i a hi => ?_) (fun a => ?_)
  · unfold vs_different_b54 dfV
    rw [x_B h.1, hB.1, if_neg (nI_ge hi (by omega)), x_vanOf h.1 (by omega), mbv_s]
    by_cases c : wi (ν 5 i) 1 3 = true
    · obtain ⟨k, k1, k2, k3⟩ := wi_r (lo := 1) (hi := 3) c (by decide) (by decide)
      obtain ⟨v, rfl⟩ : ∃ v, k = v + 1 := ⟨k - 1, by omega⟩
      rw [if_pos c, if_pos c, k3, nI_pred, if_neg (nI_v (by omega)), hasBit_eq _ (by omega), mbv_s, nI_clamp (by omega)]
      by_cases c2 : tb x v = true
      · rw [ifb_t c2, if_pos c2, mrd_nI (by omega) (by decide), mrd_nI (by omega) (by decide)]
        by_cases c3 : knB ν s i = true
        · rw [if_pos c3, if_neg (fun z => by rw [(x_known h.1 h.2 (by omega) (by omega)).mp z] at c3; cases c3), add0]
        · rw [if_neg c3, if_pos ((x_known h.1 h.2 (by omega) (by omega)).mpr (by simpa using c3))]
      · rw [ifb_f c2, if_neg c2, add0]
    · rw [if_neg c, if_neg c, if_pos rfl, add0]
  · unfold vs_different_b54
    rw [x_B h.1, hB.1, if_pos (nI_le (Nat.le_refl _) (by omega))]
theorem m_diff {ν : Mm} (g : Good ν) {s : Nat} (x : Int32) : md_different_l95 ν (nI s) x 0 0 = some (sm (dfV ν s x) (nB ν)) := by
  have hB := g_B g
  unfold md_different_l95
  refine sum_loop (f := md_different_b95 ν (nI s) x) (n := nB ν) (dfV ν s x) (by omega) (fun i a hi => ?_) (fun a => ?_)
  · unfold md_different_b95 dfV
    rw [hB.1, if_neg (nI_ge hi (by omega)), mrd_nI (by omega) (by decide), in_eq, mbv_s]
    by_cases c : wi (ν 5 i) 1 3 = true
    · obtain ⟨k, k1, k2, k3⟩ := wi_r (lo := 1) (hi := 3) c (by decide) (by decide)
      obtain ⟨v, rfl⟩ : ∃ v, k = v + 1 := ⟨k - 1, by omega⟩
      rw [ifb_t c, if_pos c, mrd_nI (by omega) (by decide), k3, nI_pred, nI_clamp (by omega)]
      by_cases c2 : tb x v = true
      · rw [if_pos ((tb_sshr1 x (by omega)).mpr c2), if_pos c2, m_known g (by omega), mbv_s]
        by_cases c3 : knB ν s i = true
        · rw [ifb_t c3, if_pos c3]
        · rw [ifb_f c3, if_neg c3]
      · rw [if_neg (fun z => c2 ((tb_sshr1 x (by omega)).mp z)), if_neg c2]
    · rw [ifb_f c, if_neg c]
  · unfold md_different_b95
    rw [hB.1, if_pos (nI_le (Nat.le_refl _) (by omega))]
theorem st_different : ST_different Rel := by
  intro μ ν a1 a2 h
  unfold vs_different md_different
  have hS := g_S h.2
  rw [x_hasS h.1 h.2, m_isS h.2, x_isDay, m_isDay, mbv_s, mbv_s, mbv_s, mbv_s]
  by_cases c1 : ¬ (ix a1 (nS ν) = true)
  · rw [ifb_f c1, ifb_f c1]; exact ⟨-1, rfl, rfl, h⟩
  rw [Classical.not_not] at c1
  rw [ifb_t c1, ifb_t c1]
  obtain ⟨s, hs, rfl⟩ := ix_t c1 (by omega)
  by_cases c2 : ¬ (ix a2 200 = true)
  · rw [ifb_f c2, ifb_f c2]; exact ⟨-1, rfl, rfl, h⟩
  rw [Classical.not_not] at c2
  rw [ifb_t c2, ifb_t c2]
  obtain ⟨d, hd, rfl⟩ := ix_t c2 (by omega)
  have em : jmin (nI d + 14 - 1) 199 = nI (min (d + 14) 200 - 1) := by
    have e14 : nI d + 14 - 1 = nI (d + 13) := by
      rw [show nI d + (14 : Int32) = nI (d + 14) from nI_add d 14, nI_pred]
    rw [e14]
    unfold jmin
    by_cases c : 199 < d + 13
    · rw [if_pos (show (199 : Int32) < nI (d + 13) from nI_lt (a := 199) c (by omega)), Nat.min_eq_right (by omega)]; rfl
    · rw [if_neg (show ¬ ((199 : Int32) < nI (d + 13)) from fun z => c ((nI_ltI (a := 199) (by decide) (by omega)).mp z)), Nat.min_eq_left (by omega)]
      rfl
  rw [em]
  obtain ⟨x, x1, x2⟩ := x_within h hs (d := d) (n := min (d + 14) 200 - 1) (by omega) (by omega)
  obtain ⟨y, y1, y2⟩ := m_within (ν := ν) (s := s) (d := d) (by omega) hd
  rw [show min (d + 14) 200 - 1 + 1 = min (d + 14) 200 by omega] at x2
  have e := winP_eq x2 y2
  subst e
  rw [x1, y1, mbv_s, mbv_s]
  unfold md_different_j83
  by_cases c : x = 0
  · rw [if_pos c, if_pos c]; exact ⟨-1, rfl, rfl, h⟩
  · rw [if_neg c, if_neg c, x_diff h hs, m_diff h.2, mbv_s]
    exact ⟨_, rfl, rfl, h⟩
