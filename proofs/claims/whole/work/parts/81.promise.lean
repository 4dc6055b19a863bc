/-! promised days -/
def fstD (ν : Mm) (s d : Nat) : Option Nat := lf (anyV ν s) (200 - d) d
def fstI (ν : Mm) (s d : Nat) (no : Int32) : Int32 := match fstD ν s d with
  | some k => nI k
  | none => no
theorem x_firstDay {μ ν : Mm} (h : Rel μ ν) {s d : Nat} (hs : s < nS ν) (hd : d < 1000) : vs_Stops_firstDay μ (nI s) (nI d) = some (fstI ν s d (-1)) := by
  unfold vs_Stops_firstDay vs_Stops_firstDay_l2
  have key := find_loop (f := fun q => vs_Stops_firstDay_b2 μ (nI s) q) (p := anyV ν s) d (max d 200) (fun k => .inl (nI k)) (.inr ()) (fun i h1 hi => by
    show vs_Stops_firstDay_b2 μ (nI s) (nI i) = _
    unfold vs_Stops_firstDay_b2
    rw [if_neg (fun z => by have := (nI_ltI (a := 199) (b := i) (by decide) (by omega)).mp z; omega), x_lowestVan h.1 h.2 hs (by omega), mbv_s, nI_1]
    by_cases c : lowV ν s i = -1
    · rw [if_pos c, if_neg (by rw [(low_any ν s i).mp c]; decide)]
    · rw [if_neg c, if_pos (by cases q : anyV ν s i; exact absurd ((low_any ν s i).mpr q) c; rfl)]) (by
    show vs_Stops_firstDay_b2 μ (nI s) (nI (max d 200)) = _
    unfold vs_Stops_firstDay_b2
    rw [if_pos (show (199 : Int32) < nI (max d 200) from nI_lt (a := 199) (by omega) (by omega))]) (200 - d) d FU (Nat.le_refl _) (by omega) (by unfold FU; omega)
  rw [key]
  unfold fstI fstD
  cases lf (anyV ν s) (200 - d) d <;> rfl
theorem m_firstVisit {ν : Mm} {s d : Nat} (hs : s < 10) (hd : d < 1000) : md_firstVisit ν (nI s) (nI d) = some (fstI ν s d (-2)) := by
  unfold md_firstVisit md_firstVisit_l2
  have key := find_loop (f := fun q => md_firstVisit_b2 ν (nI s) q) (p := anyV ν s) d (max d 200) (fun k => .inl (nI k)) (.inr ()) (fun i h1 hi => by
    show md_firstVisit_b2 ν (nI s) (nI i) = _
    unfold md_firstVisit_b2
    rw [if_neg (fun z => by have := (nI_ltI (a := 199) (b := i) (by decide) (by omega)).mp z; omega), m_anyV hs (by omega), mbv_s, nI_1]
    by_cases c : anyV ν s i = true
    · rw [ifb_t c, if_pos c]
    · rw [ifb_f c, if_neg c]) (by
    show md_firstVisit_b2 ν (nI s) (nI (max d 200)) = _
    unfold md_firstVisit_b2
    rw [if_pos (show (199 : Int32) < nI (max d 200) from nI_lt (a := 199) (by omega) (by omega))]) (200 - d) d FU (Nat.le_refl _) (by omega) (by unfold FU; omega)
  rw [key]
  unfold fstI fstD
  cases lf (anyV ν s) (200 - d) d <;> rfl
theorem fst_lt {ν : Mm} {s d k : Nat} (h : fstD ν s d = some k) : d ≤ k ∧ k < 200 := by
  obtain ⟨h1, h2, -, -⟩ := lf_some h
  exact ⟨h1, by omega⟩
theorem fst_s {ν : Mm} {s d k : Nat} (h : fstD ν s d = some k) (no : Int32) : fstI ν s d no = nI k := by unfold fstI; rw [h]
theorem fst_n {ν : Mm} {s d : Nat} (h : fstD ν s d = none) (no : Int32) : fstI ν s d no = no := by unfold fstI; rw [h]
theorem nI_m2 {k : Nat} (h : k < 2 ^ 31) : nI k ≠ -2 := by
  intro z
  have := congrArg Int32.toInt z
  rw [nI_toInt h] at this
  have e2 : (-2 : Int32).toInt = -2 := rfl
  omega
theorem fst_conv (ν : Mm) (s d : Nat) : (if fstI ν s d (-1) = -1 then some (-2) else some (fstI ν s d (-1)) : Option Int32) = some (fstI ν s d (-2)) := by
  unfold fstI
  cases q : fstD ν s d with
  | none => rfl
  | some k => exact if_neg (nI_m1 (by have := fst_lt q; omega))
theorem any_of {ν : Mm} {v s d : Nat} (hv : v < 3) (h : visB ν v s d = true) : anyV ν s d = true := by
  unfold anyV
  rcases (show v = 0 ∨ v = 1 ∨ v = 2 by omega) with rfl | rfl | rfl <;> rw [h] <;> simp
def elsB (ν : Mm) (b s : Nat) : Bool := wi (ν 5 b) 1 3 && !visB ν (ν 5 b - 1).toNatClampNeg s (nT ν)
theorem x_else {μ ν : Mm} (h : Rel μ ν) {b s : Nat} (hb : b < 32) (hs : s < nS ν) : vs_isElsewhereToday μ (nI b) (nI s) = some (elsB ν b s) := by
  have hT := g_T h.2
  unfold vs_isElsewhereToday elsB
  rw [x_vanOf h.1 hb, mbv_s]
  by_cases c : wi (ν 5 b) 1 3 = true
  · obtain ⟨k, k1, k2, k3⟩ := wi_r (lo := 1) (hi := 3) c (by decide) (by decide)
    obtain ⟨v, rfl⟩ : ∃ v, k = v + 1 := ⟨k - 1, by omega⟩
    rw [if_pos c, c, k3, nI_pred, if_neg (nI_v (by omega)), x_T h.1, hT.1, x_goesTo h.1 h.2 (by omega) hs (by omega), mbv_s, nI_clamp (by omega)]
    cases visB ν v s (nT ν) <;> rfl
  · rw [if_neg c, if_pos rfl]
    cases q : wi (ν 5 b) 1 3
    · rfl
    · exact absurd q c
theorem promised_eq {μ ν : Mm} (h : Rel μ ν) {r b : Nat} (hr : r < nR ν) (hb : b < nB ν) : ∃ v, vs_promisedDay μ (nI r) (nI b) = some v ∧ md_promised ν (nI r) (nI b) = some v := by
  have hT := g_T h.2
  have hR := g_R h.2
  have hB := g_B h.2
  have hS := g_S h.2
  have e25 : μ 25 = ν 15 := h.1.2.2.2.1.1
  have e19 : μ 19 = ν 5 := h.1.2.1.2.2.2.2.1
  have e20 : μ 20 = ν 6 := h.1.2.1.2.2.2.2.2.1
  obtain ⟨s, hs, es⟩ := g_home h.2 hr
  have gb := h.2.2.1.1 b hb
  have gp : gPlace (ν 5 b) (nR ν) := gb.2.2.2.2.1
  unfold vs_promisedDay md_promised
  rw [x_holder h.1 (by omega), mrd_nI (by omega) (by decide), mbv_s, mrd_nI (by omega) (by decide), mrd_nI (by omega) (by decide), mrd_nI (by omega) (by decide), e25, es, e19]
  rcases gp with ⟨k, k1, k2⟩ | ⟨q, q1, q2⟩ | q2
  · have n40 : ¬ (ν 5 b = 40) := by rw [k2]; exact nI_ne (b := 40) (by omega) (by decide) (by omega)
    have nh : ¬ (wi (ν 5 b) 10 25 = true) := by
      rw [k2]; rcases (show k = 0 ∨ k = 1 ∨ k = 2 ∨ k = 3 by omega) with rfl | rfl | rfl | rfl <;> decide
    rw [if_neg n40, if_neg n40, if_neg nh, if_pos rfl, x_else h (by omega) hs, mbv_s, x_T h.1, hT.1, x_firstDay h hs (by omega), mbv_s, fst_conv, show nI (nT ν) + 1 = nI (nT ν + 1) from nI_1 _, x_firstDay h hs (by omega), mbv_s, fst_conv, m_firstVisit (by omega) (by omega), mbv_s, m_firstVisit (by omega) (by omega), mbv_s]
    by_cases c0 : k = 0
    · subst c0
      rw [k2, if_pos (show nI 0 = (0 : Int32) from rfl)]
      have el : ¬ (elsB ν b s = true) := by
        unfold elsB; rw [k2]; rw [show wi (nI 0) 1 3 = false by decide]; simp
      rw [ifb_f el]
      exact ⟨_, rfl, rfl⟩
    · obtain ⟨v, rfl⟩ : ∃ v, k = v + 1 := ⟨k - 1, by omega⟩
      have hw : wi (nI (v + 1)) 1 3 = true := by
        rcases (show v = 0 ∨ v = 1 ∨ v = 2 by omega) with rfl | rfl | rfl <;> decide
      have el : elsB ν b s = !visB ν v s (nT ν) := by
        unfold elsB; rw [k2, hw, nI_pred, nI_clamp (by omega)]; rfl
      rw [el, k2, if_neg (show ¬ (nI (v + 1) = 0) from nI_ne (b := 0) (by omega) (by decide) (by omega)), if_neg (show ¬ ((3 : Int32) < nI (v + 1)) from fun z => by have := (nI_ltI (a := 3) (b := v + 1) (by decide) (by omega)).mp z; omega), nI_pred, m_isVisited (by omega) (by omega) (by omega), mbv_s]
      by_cases c : visB ν v s (nT ν) = true
      · rw [c, ifb_t rfl, show (!true) = false from rfl, ifb_f (by decide)]
        refine ⟨_, rfl, ?_⟩
        have : fstD ν s (nT ν) = some (nT ν) := by
          unfold fstD
          rw [show 200 - nT ν = (199 - nT ν) + 1 by omega]
          unfold lf
          rw [if_pos (any_of (by omega) c)]
        unfold fstI
        rw [this]
      · have c' : visB ν v s (nT ν) = false := by simpa using c
        rw [c', show (!false) = true from rfl, ifb_t', ifb_f']
        exact ⟨_, rfl, rfl⟩
  · have hq : q < 16 := by omega
    have n40 : ¬ (ν 5 b = 40) := by rw [q2]; exact nI_ne (b := 40) (by omega) (by decide) (by omega)
    have n0 : ¬ (ν 5 b = 0) := by rw [q2]; exact nI_ne (b := 0) (by omega) (by decide) (by omega)
    have hh := (hold_iff (ν 5 b) hq).mpr q2
    obtain ⟨s', hs', es'⟩ := g_home h.2 q1
    obtain ⟨du, du1, du2⟩ := gb.2.2.2.2.2.2 ⟨q, q2, hq⟩
    have e3 : (3 : Int32) < ν 5 b := by rw [q2]; exact nI_lt (a := 3) (by omega) (by omega)
    rw [if_neg n40, if_neg n40, hh, if_neg (nI_v (by omega)), mrd_nI hq (by decide), e25, es', if_neg n0, if_pos e3, q2, show nI (10 + q) - 10 = nI q from sub10, mrd_nI hq (by decide), es', mrd_nI (by omega) (by decide), e20, mrd_nI (by omega) (by decide), mrd_nI (by omega) (by decide), x_T h.1, hT.1, du2]
    have ej : jmax (nI du) (nI (nT ν)) = nI (max du (nT ν)) := by
      unfold jmax
      by_cases c : du < nT ν
      · rw [if_pos (nI_lt c (by omega)), Nat.max_eq_right (by omega)]
      · rw [if_neg (fun z => c ((nI_ltI (by omega) (by omega)).mp z)), Nat.max_eq_left (by omega)]
    have em : (if nI (nT ν) ≤ nI du then md_promised_j122 ν (nI s) (nI s') (nI s') (nI du) else md_promised_j122 ν (nI s) (nI s') (nI s') (nI (nT ν))) = md_promised_j122 ν (nI s) (nI s') (nI s') (nI (max du (nT ν))) := by
      by_cases c : nT ν ≤ du
      · rw [if_pos (nI_le c (by omega)), Nat.max_eq_left c]
      · rw [if_neg (fun z => c ((nI_leI (by omega) (by omega)).mp z)), Nat.max_eq_right (by omega)]
    rw [ej, em, x_firstDay h hs' (by omega), mbv_s]
    unfold md_promised_j122
    rw [m_firstVisit (by omega) (by omega), mbv_s]
    cases qq : fstD ν s' (max du (nT ν)) with
    | none =>
      rw [fst_n qq, fst_n qq]
      exact ⟨-2, rfl, rfl⟩
    | some k =>
      have hk := fst_lt qq
      rw [fst_s qq, fst_s qq, if_neg (nI_m1 (by omega)), if_neg (nI_m2 (by omega))]
      unfold vs_promisedDay_j112
      rw [x_firstDay h hs (by omega), mbv_s, fst_conv, show nI k + 1 = nI (k + 1) from nI_1 _, x_firstDay h hs (by omega), mbv_s, fst_conv, m_firstVisit (by omega) (by omega), mbv_s, m_firstVisit (by omega) (by omega), mbv_s]
      by_cases c : nI s' = nI s
      · rw [if_pos c]; exact ⟨_, rfl, rfl⟩
      · rw [if_neg c]; exact ⟨_, rfl, rfl⟩
  · rw [if_pos (show ν 5 b = 40 from q2), if_pos (show ν 5 b = 40 from q2)]
    exact ⟨-2, rfl, rfl⟩
theorem st_promise : ST_promise Rel := by
  intro μ ν a1 a2 h
  unfold vs_promise md_promise
  have hR := (g_R h.2).2
  have hB := (g_B h.2).2
  rw [x_pair h.1 h.2, m_isR h.2, m_isB h.2, mbv_s, mbv_s, mbv_s]
  by_cases c1 : ¬ (ix a1 (nR ν) = true)
  · rw [ifb_f (b := ix a1 (nR ν) && ix a2 (nB ν)) (fun z => c1 (by rw [Bool.and_eq_true] at z; exact z.1)), ifb_f c1]; exact ⟨-1, rfl, rfl, h⟩
  rw [Classical.not_not] at c1
  by_cases c2 : ¬ (ix a2 (nB ν) = true)
  · rw [ifb_f (b := ix a1 (nR ν) && ix a2 (nB ν)) (fun z => c2 (by rw [Bool.and_eq_true] at z; exact z.2)), ifb_t c1, ifb_f c2]; exact ⟨-1, rfl, rfl, h⟩
  rw [Classical.not_not] at c2
  rw [ifb_t (b := ix a1 (nR ν) && ix a2 (nB ν)) (by rw [c1, c2]; rfl), ifb_t c1, ifb_t c2]
  obtain ⟨r, hr, rfl⟩ := ix_t c1 (by omega)
  obtain ⟨b, hb, rfl⟩ := ix_t c2 (by omega)
  obtain ⟨v, v1, v2⟩ := promised_eq h hr hb
  rw [v1, v2, mbv_s]
  exact ⟨v, rfl, rfl, h⟩
