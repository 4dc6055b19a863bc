/-! why not -/
theorem lgc0 {x y : Int64} : lg_cmp x y = 0 ↔ x = y := by
  unfold lg_cmp
  constructor
  · intro h
    split at h
    · exact absurd h (by decide)
    · split at h
      · assumption
      · exact absurd h (by decide)
  · intro h
    subst h
    rw [if_neg (show ¬ (x > x) from Int64.lt_irrefl), if_pos rfl]
theorem lshr_k : ∀ j, j < 32 → ((((nI j).toInt64 &&& 63).toBitVec.smod 64)).toNat = j := by decide +kernel
theorem asL_sb (x : Int32) {j : Nat} (hj : j < 32) : ((asL x >>> ((nI j).toInt64 &&& 63)) &&& 1) = if tb x j = true then 1 else 0 := by
  apply Int64.toBitVec_inj.mp
  apply BitVec.eq_of_getLsbD_eq
  intro i hi
  have e1 : ((asL x >>> ((nI j).toInt64 &&& 63)) &&& 1).toBitVec.getLsbD i = (decide (i = 0) && tb x j) := by
    rw [Int64.toBitVec_and, BitVec.getLsbD_and]
    have e2 : (1 : Int64).toBitVec.getLsbD i = decide (i = 0) := by
      rw [show (1 : Int64).toBitVec = 1#64 from rfl, BitVec.getLsbD_one]
      simp
    rw [e2]
    by_cases c : i = 0
    · subst c
      have e3 : (asL x >>> ((nI j).toInt64 &&& 63)).toBitVec = (asL x).toBitVec.sshiftRight' (((nI j).toInt64 &&& 63).toBitVec.smod 64) := rfl
      rw [e3, BitVec.sshiftRight', lshr_k j hj, BitVec.getLsbD_sshiftRight, asL_bv]
      have : j < 64 := by omega
      simp [tb, this]
    · simp [c]
  rw [e1]
  cases tb x j
  · simp
  · rw [if_pos rfl, show (1 : Int64).toBitVec = 1#64 from rfl, BitVec.getLsbD_one]
    simp
theorem asL_sbit (x : Int32) {j : Nat} (hj : j < 32) : lg_cmp ((asL x >>> ((nI j).toInt64 &&& 63)) &&& 1) 1 = 0 ↔ tb x j = true := by
  rw [lgc0, asL_sb x hj]
  cases tb x j <;> simp
def lenS (ν : Mm) (x : Int32) : Int32 := sm (fun b => if tb x b = true then ν 2 b else 0) (nB ν)
theorem x_lengthOf {μ ν : Mm} (h : Rel μ ν) (x : Int32) : vs_Books_lengthOf μ x = some (lenS ν x) := by
  have hB := g_B h.2
  have eL : μ 16 = ν 2 := h.1.2.1.2.1
  unfold vs_Books_lengthOf vs_Books_lengthOf_l4
  rw [sum_loop (f := vs_Books_lengthOf_b4 μ x) (n := nB ν) (fun b => if tb x b = true then ν 2 b else 0) (by omega) (fun i a hi => by
    unfold vs_Books_lengthOf_b4
    rw [x_B h.1, hB.1, if_neg (nI_ge hi (by omega)), hasBit_eq _ (by omega), mbv_s, mrd_nI (by omega) (by decide), eL]
    by_cases c : tb x i = true
    · rw [ifb_t c, if_pos c]
    · rw [ifb_f c, if_neg c, add0]) (fun a => by
    unfold vs_Books_lengthOf_b4
    rw [x_B h.1, hB.1, if_pos (nI_le (Nat.le_refl _) (by omega))]), mbv_s]
  rfl
theorem m_lengthOf {ν : Mm} (g : Good ν) (x : Int32) : md_lengthOfSet ν (asL x) = some (lenS ν x) := by
  have hB := g_B g
  unfold md_lengthOfSet md_lengthOfSet_l5
  rw [sum_loop (f := md_lengthOfSet_b5 ν (asL x)) (n := nB ν) (fun b => if tb x b = true then ν 2 b else 0) (by omega) (fun i a hi => by
    unfold md_lengthOfSet_b5
    rw [hB.1, if_neg (nI_ge hi (by omega)), mrd_nI (by omega) (by decide)]
    by_cases c : tb x i = true
    · rw [if_pos ((asL_sbit x (by omega)).mpr c), if_pos c]
    · rw [if_neg (fun z => c ((asL_sbit x (by omega)).mp z)), if_neg c]) (fun a => by
    unfold md_lengthOfSet_b5
    rw [hB.1, if_pos (nI_le (Nat.le_refl _) (by omega))]), mbv_s]
  rfl
def behP (ν : Mm) (r b : Nat) (d : Int32) (q : Nat) : Bool := !decide (q = r) && !decide (ν 20 (32 * q + b) < ν 0 0) && (decide (ν 20 (32 * q + b) < d) || (decide (ν 20 (32 * q + b) = d) && decide (q < r)))
def behB (ν : Mm) (r b : Nat) (d : Int32) : Bool := (lf (behP ν r b d) (nR ν) 0).isSome
theorem beh_if {α : Type} {q r : Nat} (hq : q < 100) (hr : r < 100) (x t d : Int32) (Y N : α) : (if nI q = nI r then N else if x < t then N else if x < d then Y else if x = d then if nI r ≤ nI q then N else Y else N) = if (!decide (q = r) && !decide (x < t) && (decide (x < d) || (decide (x = d) && decide (q < r)))) = true then Y else N := by
  have e1 : nI q = nI r ↔ q = r := nI_eq (by omega) (by omega)
  have e2 : nI r ≤ nI q ↔ ¬ q < r := by rw [nI_leI (by omega) (by omega)]; omega
  simp only [e1, e2]
  by_cases c1 : q = r
  · simp [c1]
  · by_cases c2 : x < t
    · simp [c2]
    · by_cases c3 : x < d
      · simp [c1, c2, c3]
      · by_cases c4 : x = d
        · by_cases c5 : q < r
          · have c1' : ¬ (q = r) := c1
            rw [if_neg c1', if_neg c2, if_neg c3, if_pos c4, if_neg (fun z => z c5), if_pos (by rw [decide_eq_false c1', decide_eq_false c2, decide_eq_true c4, decide_eq_true c5]; simp)]
          · rw [if_neg c1, if_neg c2, if_neg c3, if_pos c4, if_pos c5, if_neg (by simp [c3, c5])]
        · simp [c1, c2, c3, c4]
theorem m_ahead {ν : Mm} (g : Good ν) {r b : Nat} (hr : r < nR ν) (hb : b < 32) (d : Int32) : md_isAskedAhead ν (nI r) (nI b) d = some (behB ν r b d) := by
  have hR := g_R g
  unfold md_isAskedAhead md_isAskedAhead_l3
  have key := find_loop (f := fun q => md_isAskedAhead_b3 ν (nI r) (nI b) d q) (p := behP ν r b d) 0 (nR ν) (fun _ => .inl ()) (.inr ()) (fun i _ hi => by
    show md_isAskedAhead_b3 ν (nI r) (nI b) d (nI i) = _
    unfold md_isAskedAhead_b3
    rw [hR.1, if_neg (nI_ge hi (by omega)), nI_1]
    refine (mrd_at (ix2 32 i b) (by omega) (by decide)).trans ?_
    exact beh_if (by omega) (by omega) _ _ _ _ _) (by
    show md_isAskedAhead_b3 ν (nI r) (nI b) d (nI (nR ν)) = _
    unfold md_isAskedAhead_b3
    rw [hR.1, if_pos (nI_le (Nat.le_refl _) (by omega))]) (nR ν) 0 FU (Nat.le_refl _) (by omega) (by unfold FU; omega)
  rw [show (0 : Int32) = nI 0 from rfl, key]
  unfold behB
  cases lf (behP ν r b d) (nR ν) 0 <;> rfl
theorem x_behind {μ ν : Mm} (h : Rel μ ν) {r b : Nat} (hr : r < nR ν) (hb : b < 32) : vs_Asks_isBehindAnother μ (nI r) (nI b) (ν 0 0) = some (behB ν r b (ν 20 (32 * r + b))) := by
  have hR := g_R h.2
  have hT := g_T h.2
  unfold vs_Asks_isBehindAnother vs_Asks_isBehindAnother_l11
  rw [x_dayOf h.1 h.2 hr hb, mbv_s]
  have key := find_loop (f := fun q => vs_Asks_isBehindAnother_b11 μ (nI r) (nI b) (ν 0 0) (ν 20 (32 * r + b)) q) (p := fun q => decide (q < nR ν) && behP ν r b (ν 20 (32 * r + b)) q) 0 16 (fun _ => .inl ()) (.inr ()) (fun i _ hi => by
    show vs_Asks_isBehindAnother_b11 μ (nI r) (nI b) (ν 0 0) (ν 20 (32 * r + b)) (nI i) = _
    unfold vs_Asks_isBehindAnother_b11
    have ed : vs_Asks_dayOf μ (nI i) (nI b) = some (if i < nR ν then ν 20 (32 * i + b) else -1) := by
      unfold vs_Asks_dayOf
      refine (mrd_at (ix3 32 i b) (by omega) (by decide)).trans ?_
      rw [h.1.2.2.2.2.2.2.2.2.2.2.2.2.2.2.1.1 i hi b hb]
    rw [if_neg (by exact nI_ge (b := 16) hi (by decide)), ed, mbv_s, nI_1, beh_if (by omega) (by omega)]
    by_cases c : i < nR ν
    · rw [if_pos c]
      unfold behP
      simp [c]
    · rw [if_neg c]
      have e1 : (-1 : Int32) < ν 0 0 := by
        rw [hT.1, Int32.lt_iff_toInt_lt, nI_toInt (by omega)]
        have e2 : (-1 : Int32).toInt = -1 := rfl
        omega
      rw [if_neg (by simp [e1]), if_neg (by simp [c])]) rfl 16 0 FU (Nat.le_refl _) (by omega) (by unfold FU; omega)
  rw [show (0 : Int32) = nI 0 from rfl, key]
  have e : (lf (fun q => decide (q < nR ν) && behP ν r b (ν 20 (32 * r + b)) q) 16 0).isSome = behB ν r b (ν 20 (32 * r + b)) := by
    rw [Bool.eq_iff_iff]
    unfold behB
    rw [lf_is, lf_is]
    constructor
    · rintro ⟨j, h1, h2, h3⟩
      rw [Bool.and_eq_true, decide_eq_true_eq] at h3
      exact ⟨j, h1, by omega, h3.2⟩
    · rintro ⟨j, h1, h2, h3⟩
      exact ⟨j, h1, by omega, by rw [Bool.and_eq_true, decide_eq_true_eq]; exact ⟨by omega, h3⟩⟩
  rw [← e]
  cases lf (fun q => decide (q < nR ν) && behP ν r b (ν 20 (32 * r + b)) q) 16 0 <;> rfl
theorem low_v {ν : Mm} {s d : Nat} (h : lowV ν s d ≠ -1) : ∃ v, v < 3 ∧ lowV ν s d = nI v ∧ visB ν v s d = true ∧ ∀ w, w < v → visB ν w s d = false := by
  unfold lowV at h ⊢
  cases q0 : visB ν 0 s d
  · cases q1 : visB ν 1 s d
    · cases q2 : visB ν 2 s d
      · exact absurd (by rw [q0, q1, q2]; rfl) h
      · refine ⟨2, by decide, by simp; rfl, q2, fun w hw => ?_⟩
        rcases (show w = 0 ∨ w = 1 by omega) with rfl | rfl
        · exact q0
        · exact q1
    · refine ⟨1, by decide, by simp; rfl, q1, fun w hw => ?_⟩
      have e : w = 0 := by omega
      subst e
      exact q0
  · exact ⟨0, by decide, by simp; rfl, q0, fun w hw => by omega⟩
theorem m_lowv {ν : Mm} {r s d v : Nat} (hr : r < 16) (es : ν 15 r = nI s) (hs : s < 10) (hd : d < 200) (hv : v < 3) (h1 : visB ν v s d = true) (h2 : ∀ w, w < v → visB ν w s d = false) : md_whyNot_l164 ν (nI r) (nI d) 0 = some (nI v) := by
  unfold md_whyNot_l164
  have st : ∀ w, w < 3 → md_whyNot_b164 ν (nI r) (nI d) (nI w) = if visB ν w s d = true then some (.inr (nI w)) else some (.inl (nI (w + 1))) := by
    intro w hw
    unfold md_whyNot_b164
    rw [mrd_nI hr (by decide), es, m_isVisited hw hs hd, mbv_s, nI_1]
    by_cases c : visB ν w s d = true
    · rw [ifb_t c, if_pos c]
    · rw [ifb_f c, if_neg c]
  exact seq_loop (f := fun q => md_whyNot_b164 ν (nI r) (nI d) q) (fun i => nI i) v (nI v) (fun i hi => by
    show md_whyNot_b164 ν (nI r) (nI d) (nI i) = _
    rw [st i (by omega), h2 i hi]
    rfl) (by
    show md_whyNot_b164 ν (nI r) (nI d) (nI v) = _
    rw [st v hv, if_pos h1]) v 0 FU (by omega) (by unfold FU; omega)
theorem st_whyNot : ST_whyNot Rel := by
  intro μ ν a1 a2 h
  unfold vs_whyNot md_whyNot
  have hR := g_R h.2
  have hB := g_B h.2
  have hS := g_S h.2
  have hT := g_T h.2
  rw [x_pair h.1 h.2, m_isR h.2, m_isB h.2, mbv_s, mbv_s, mbv_s]
  by_cases c1 : ¬ (ix a1 (nR ν) = true)
  · rw [ifb_f (b := ix a1 (nR ν) && ix a2 (nB ν)) (fun z => c1 (by rw [Bool.and_eq_true] at z; exact z.1)), ifb_f c1]; exact ⟨-1, rfl, rfl, h⟩
  rw [Classical.not_not] at c1
  by_cases c2 : ¬ (ix a2 (nB ν) = true)
  · rw [ifb_f (b := ix a1 (nR ν) && ix a2 (nB ν)) (fun z => c2 (by rw [Bool.and_eq_true] at z; exact z.2)), ifb_t c1, ifb_f c2]; exact ⟨-1, rfl, rfl, h⟩
  rw [Classical.not_not] at c2
  rw [ifb_t (b := ix a1 (nR ν) && ix a2 (nB ν)) (by rw [c1, c2]; rfl), ifb_t c1, ifb_t c2]
  obtain ⟨r, hr, rfl⟩ := ix_t c1 (by omega)
  obtain ⟨b, hb, rfl⟩ := ix_t c2 (by omega)
  have hb32 : b < 32 := by omega
  have hr16 : r < 16 := by omega
  obtain ⟨s, hs, es⟩ := g_home h.2 hr
  have e25 : μ 25 = ν 15 := h.1.2.2.2.1.1
  have e19 : μ 19 = ν 5 := h.1.2.1.2.2.2.2.1
  rw [x_dayOf h.1 h.2 hr hb32, mbv_s, show (32 : Int32) * nI r + nI b = nI (32 * r + b) from ix2 32 r b, mrd_nI (by omega) (by decide), x_T h.1]
  by_cases c3 : ν 20 (32 * r + b) = -1
  · rw [if_pos c3, if_pos c3]; exact ⟨-1, rfl, rfl, h⟩
  rw [if_neg c3, if_neg c3]
  by_cases c4 : ¬ (ν 0 0 ≤ ν 20 (32 * r + b))
  · rw [if_neg c4, if_neg c4]; exact ⟨-1, rfl, rfl, h⟩
  rw [Classical.not_not] at c4
  rw [if_pos c4, if_pos c4]
  obtain ⟨d, hd, ed⟩ := ((h.2.2.2.2.2.2.1 r hr b hb32).1).resolve_left c3
  have bh := x_behind h hr hb32
  have mh := m_ahead h.2 hr hb32 (nI d)
  rw [ed] at bh ⊢
  have gp : gPlace (ν 5 b) (nR ν) := (h.2.2.1.1 b hb).2.2.2.2.1
  unfold vs_hindrance
  rw [mrd_nI hr16 (by decide), e25, es, x_lowestVan h.1 h.2 hs (by omega), mbv_s, mrd_nI hb32 (by decide), mrd_nI hb32 (by decide), mrd_nI hr16 (by decide), es, m_anyV (by omega) (by omega), mbv_s, e19]
  by_cases c5 : ν 5 b = 40
  · rw [if_pos c5, if_pos c5]; exact ⟨1, rfl, rfl, h⟩
  rw [if_neg c5, if_neg c5]
  by_cases c6 : lowV ν s d = -1
  · rw [if_pos c6, (low_any ν s d).mp c6, ifb_f (by decide)]; exact ⟨2, rfl, rfl, h⟩
  have any : anyV ν s d = true := by cases q : anyV ν s d; exact absurd ((low_any ν s d).mpr q) c6; rfl
  rw [if_neg c6, ifb_t any]
  obtain ⟨v, hv, ev, v1, v2⟩ := low_v c6
  have tail : ∃ z, vs_hindrance_j102 μ (nI r) (nI b) (nI d) (nI v) = some z ∧ md_whyNot_j149 ν (nI r) (nI b) (nI d) = some z := by
    unfold vs_hindrance_j102 md_whyNot_j149
    rw [x_T h.1, bh, mh, mbv_s, mbv_s, x_board h hv (by omega), mbv_s, x_lengthOf h, mbv_s, mrd_nI hv (by decide), h.1.2.2.2.2.1.1 v hv, m_lowv hr16 es (by omega) (by omega) hv v1 v2, mbv_s, m_board h.2 hv (by omega), mbv_s, m_lengthOf h.2, mbv_s, mrd_nI hv (by decide)]
    by_cases c : behB ν r b (nI d) = true
    · rw [ifb_t c]; exact ⟨5, rfl, rfl⟩
    · rw [ifb_f c]
      by_cases c' : lenS ν (brd ν v d (nR ν)) ≤ ν 9 v
      · rw [if_pos c']; exact ⟨0, rfl, rfl⟩
      · rw [if_neg c']; exact ⟨6, rfl, rfl⟩
  have mid : ∃ z, vs_hindrance_j82 μ (nI r) (nI b) (nI d) (nI s) (nI v) = some z ∧ md_whyNot_j108 ν (nI r) (nI b) (nI d) (ν 5 b) = some z := by
    unfold vs_hindrance_j82 md_whyNot_j108
    rw [x_T h.1, x_else h hb32 hs, mbv_s, in_eq, mbv_s]
    by_cases c : nI d = ν 0 0
    · rw [if_pos c, if_pos c]
      by_cases c' : wi (ν 5 b) 1 3 = true
      · obtain ⟨k, k1, k2, k3⟩ := wi_r (lo := 1) (hi := 3) c' (by decide) (by decide)
        obtain ⟨w, rfl⟩ : ∃ w, k = w + 1 := ⟨k - 1, by omega⟩
        have el : elsB ν b s = !visB ν w s (nT ν) := by
          unfold elsB; rw [c', k3, nI_pred, nI_clamp (by omega)]; rfl
        rw [ifb_t c', mrd_nI hr16 (by decide), es, k3, nI_pred, hT.1, m_isVisited (by omega) (by omega) (by omega), mbv_s, el]
        cases visB ν w s (nT ν)
        · exact ⟨4, rfl, rfl⟩
        · exact tail
      · have el : ¬ (elsB ν b s = true) := by unfold elsB; simp [c']
        rw [ifb_f c', ifb_f el]
        exact tail
    · rw [if_neg c, if_neg c]; exact tail
  rw [ev, x_holder h.1 hb32, mbv_s]
  obtain ⟨pv, p1, p2⟩ := promised_eq h hr hb
  rw [p1, p2, mbv_s, mbv_s]
  have fin : ∀ (A B : Prop) [Decidable A] [Decidable B], (A ↔ B) → ∃ z, (mbv (if A then vs_hindrance_j82 μ (nI r) (nI b) (nI d) (nI s) (nI v) else if pv = -2 then some 3 else if pv ≤ nI d then vs_hindrance_j82 μ (nI r) (nI b) (nI d) (nI s) (nI v) else some 3) fun x6 => some x6) = some z ∧ (if B then md_whyNot_j108 ν (nI r) (nI b) (nI d) (ν 5 b) else if pv = -2 then some 3 else if pv ≤ nI d then md_whyNot_j108 ν (nI r) (nI b) (nI d) (ν 5 b) else some 3) = some z := by
    intro A B _ _ hab
    obtain ⟨z, z1, z2⟩ := mid
    rw [z1, z2]
    by_cases c : A
    · rw [if_pos c, if_pos (hab.mp c)]; exact ⟨z, rfl, rfl⟩
    · rw [if_neg c, if_neg (fun q => c (hab.mpr q))]
      by_cases c' : pv = -2
      · rw [if_pos c']; exact ⟨3, rfl, rfl⟩
      · rw [if_neg c']
        by_cases c7 : pv ≤ nI d
        · rw [if_pos c7]; exact ⟨z, rfl, rfl⟩
        · rw [if_neg c7]; exact ⟨3, rfl, rfl⟩
  have hab : (if wi (ν 5 b) 10 25 = true then ν 5 b - 10 else -1) = -1 ↔ ν 5 b < 10 := by
    rcases gp with ⟨k, k1, k2⟩ | ⟨q, q1, q2⟩ | q2
    · have nh : ¬ (wi (ν 5 b) 10 25 = true) := by
        rw [k2]; rcases (show k = 0 ∨ k = 1 ∨ k = 2 ∨ k = 3 by omega) with rfl | rfl | rfl | rfl <;> decide
      rw [if_neg nh, k2]
      exact ⟨fun _ => nI_lt (b := 10) (by omega) (by decide), fun _ => rfl⟩
    · rw [(hold_iff (ν 5 b) (show q < 16 by omega)).mpr q2, q2]
      refine ⟨fun z => absurd z (nI_v (by omega)), fun z => ?_⟩
      have := (nI_ltI (a := 10 + q) (b := 10) (by omega) (by decide)).mp z
      omega
    · exact absurd q2 c5
  obtain ⟨z, z1, z2⟩ := fin _ _ hab
  exact ⟨z, z1, z2, h⟩
