def visB (ν : Mm) (v s d : Nat) : Bool := decide (ν 22 (200 * v + d) = 0) && ((decide (ν 13 s = nI v) && decide (ν 14 s = nI (d % 14))) || decide (ν 23 (2000 * v + 10 * d + s) ≠ 0))
def lowV (ν : Mm) (s d : Nat) : Int32 := if visB ν 0 s d then 0 else if visB ν 1 s d then 1 else if visB ν 2 s d then 2 else -1
def anyV (ν : Mm) (s d : Nat) : Bool := visB ν 0 s d || visB ν 1 s d || visB ν 2 s d
theorem van3 {E : Type} {f : Int32 → Option (Int32 ⊕ E)} {p : Nat → Bool} {yes : Nat → E} {no : E} (hs : ∀ v, v < 3 → f (nI v) = if p v then some (.inr (yes v)) else some (.inl (nI v + 1))) (he : f (nI 3) = some (.inr no)) : miter f FU 0 = some (if p 0 then yes 0 else if p 1 then yes 1 else if p 2 then yes 2 else no) := by
  rw [show FU = 1048572 + 1 + 1 + 1 + 1 from rfl, ← nI_0]
  have h0 := hs 0 (by decide)
  have h1 := hs 1 (by decide)
  have h2 := hs 2 (by decide)
  rw [nI_1] at h0 h1 h2
  cases e0 : p 0
  · cases e1 : p 1
    · cases e2 : p 2
      · simp only [e0, e1, e2] at h0 h1 h2
        simp [miter, h0, h1, h2, he]
      · simp only [e0, e1, e2] at h0 h1 h2
        simp [miter, h0, h1, h2]
    · simp only [e0, e1] at h0 h1
      simp [miter, h0, h1]
  · simp only [e0] at h0
    simp [miter, h0]
section
variable {μ ν : Mm}
theorem x_isLost (rx : RX μ ν) {v d : Nat} (hv : v < 3) (hd : d < 200) : vs_Stops_isLost μ (nI v) (nI d) = some (decide (ν 22 (200 * v + d) ≠ 0)) := by
  unfold vs_Stops_isLost
  refine (mrd_at (ix3 200 v d) (by omega) (by decide)).trans ?_
  have hl := rx.2.2.2.2.2.2.2.2.2.2.2.2.2.1 v hv d hd
  by_cases e : μ 43 (200 * v + d) = 0
  · rw [if_pos e, hl.mp e]; simp
  · rw [if_neg e]
    have : ν 22 (200 * v + d) ≠ 0 := fun q => e (hl.mpr q)
    simp [this]
theorem x_stopsOn (rx : RX μ ν) (g : Good ν) {v d : Nat} (hv : v < 3) (hd : d < 200) : ∃ x, vs_Stops_stopsOn μ (nI v) (nI d) = some x ∧ ∀ s, s < 32 → tb x s = (decide (s < nS ν) && visB ν v s d) := by
  have hS := g_S g
  unfold vs_Stops_stopsOn
  rw [x_isLost rx hv hd, mbv_s]
  by_cases e : ν 22 (200 * v + d) = 0
  · simp only [e, ne_eq, not_true, decide_false, ifF]
    refine ⟨μ 41 (14 * v + d % 14) ||| μ 42 (200 * v + d), ?_, fun s hs => ?_⟩
    · have hr : nI d - nI d / 14 * 14 = nI (d % 14) := pk_rem (d := 14) (by omega) (by decide) (by decide)
      rw [hr]
      refine (mrd_at (ix3 14 v (d % 14)) (by omega) (by decide)).trans ?_
      exact mrd_at (ix3 200 v d) (by omega) (by decide)
    · rw [tb_or, rx.2.2.2.2.2.2.2.2.2.2.2.1 v hv (d % 14) (Nat.mod_lt _ (by decide)) s hs, rx.2.2.2.2.2.2.2.2.2.2.2.2.1 v hv d hd s hs]
      unfold visB
      by_cases hsS : s < nS ν
      · have h10 : s < 10 := by omega
        simp [hsS, h10, e]
      · by_cases h10 : s < 10
        · have := (g.2.2.2.2.2.2.2.2.1 v hv d hd s h10).2 (by omega)
          simp [hsS, h10, this]
        · simp [hsS, h10]
  · simp only [e, ne_eq, not_false_eq_true, decide_true, ifT]
    refine ⟨0, rfl, fun s hs => ?_⟩
    rw [tb_zero]
    unfold visB
    simp [e]
theorem x_goesTo (rx : RX μ ν) (g : Good ν) {v s d : Nat} (hv : v < 3) (hs : s < nS ν) (hd : d < 200) : vs_Stops_goesTo μ (nI v) (nI s) (nI d) = some (visB ν v s d) := by
  have hS := g_S g
  obtain ⟨x, h1, h2⟩ := x_stopsOn rx g hv hd
  unfold vs_Stops_goesTo
  rw [h1, mbv_s, hasBit_eq _ (by omega), mbv_s, h2 s (by omega)]
  simp [hs]
theorem m_isVisited {v s d : Nat} (hv : v < 3) (hs : s < 10) (hd : d < 200) : md_isVisited ν (nI v) (nI s) (nI d) = some (visB ν v s d) := by
  unfold md_isVisited visB
  have hr : nI d - nI d / 14 * 14 = nI (d % 14) := pk_rem (d := 14) (by omega) (by decide) (by decide)
  have hp : md_putAt (nI v) (nI d) (nI s) = some (nI (2000 * v + 10 * d + s)) := by
    unfold md_putAt
    rw [show (2000 : Int32) = nI 2000 from rfl, show (10 : Int32) = nI 10 from rfl, pk_mul, pk_mul, nI_add, nI_add]
  refine (mrd_at (ix2 200 v d) (by omega) (by decide)).trans ?_
  rw [hp, hr]
  simp only [mbv_s, mrd_nI hs (show 10 < 2 ^ 31 by decide), mrd_nI (show 2000 * v + 10 * d + s < 6000 by omega) (show 6000 < 2 ^ 31 by decide)]
  by_cases e : ν 22 (200 * v + d) = 0
  · rw [if_pos e]
    by_cases e1 : ν 13 s = nI v
    · rw [if_pos e1]
      by_cases e2 : nI (d % 14) = ν 14 s
      · rw [if_pos e2]; simp [e, e1, e2]
      · rw [if_neg e2]
        have e3 : ¬ (ν 14 s = nI (d % 14)) := fun q => e2 q.symm
        by_cases e4 : ν 23 (2000 * v + 10 * d + s) = 0
        · rw [if_pos e4]; simp [e3, e4]
        · rw [if_neg e4]; simp [e, e4]
    · rw [if_neg e1]
      by_cases e4 : ν 23 (2000 * v + 10 * d + s) = 0
      · rw [if_pos e4]; simp [e1, e4]
      · rw [if_neg e4]; simp [e, e4]
  · rw [if_neg e]; simp [e]
theorem x_lowestVan (rx : RX μ ν) (g : Good ν) {s d : Nat} (hs : s < nS ν) (hd : d < 200) : vs_Stops_lowestVan μ (nI s) (nI d) = some (lowV ν s d) := by
  unfold vs_Stops_lowestVan vs_Stops_lowestVan_l2
  rw [van3 (f := fun q => vs_Stops_lowestVan_b2 μ (nI s) (nI d) q) (p := fun v => visB ν v s d) (yes := fun v => .inl (nI v)) (no := .inr ()) (fun v hv => by
    show vs_Stops_lowestVan_b2 μ (nI s) (nI d) (nI v) = _
    unfold vs_Stops_lowestVan_b2
    rw [if_neg (by exact nI_ge hv (by decide)), x_goesTo rx g hv hs hd, mbv_s]
    cases visB ν v s d <;> rfl) (by
    show vs_Stops_lowestVan_b2 μ (nI s) (nI d) (nI 3) = _
    unfold vs_Stops_lowestVan_b2
    rw [if_pos (by decide)])]
  unfold lowV
  cases visB ν 0 s d
  · cases visB ν 1 s d
    · cases visB ν 2 s d <;> rfl
    · rfl
  · rfl
theorem m_anyV {s d : Nat} (hs : s < 10) (hd : d < 200) : md_isVisitedByAny ν (nI s) (nI d) = some (anyV ν s d) := by
  unfold md_isVisitedByAny md_isVisitedByAny_l2
  rw [van3 (f := fun q => md_isVisitedByAny_b2 ν (nI s) (nI d) q) (p := fun v => visB ν v s d) (yes := fun _ => .inl ()) (no := .inr ()) (fun v hv => by
    show md_isVisitedByAny_b2 ν (nI s) (nI d) (nI v) = _
    unfold md_isVisitedByAny_b2
    rw [if_neg (by exact nI_ge hv (by decide)), m_isVisited hv hs hd, mbv_s]
    cases visB ν v s d <;> rfl) (by
    show md_isVisitedByAny_b2 ν (nI s) (nI d) (nI 3) = _
    unfold md_isVisitedByAny_b2
    rw [if_pos (by decide)])]
  unfold anyV
  cases visB ν 0 s d
  · cases visB ν 1 s d
    · cases visB ν 2 s d <;> rfl
    · rfl
  · rfl
theorem low_any (ν : Mm) (s d : Nat) : lowV ν s d = -1 ↔ anyV ν s d = false := by
  unfold lowV anyV
  cases visB ν 0 s d
  · cases visB ν 1 s d
    · cases visB ν 2 s d <;> simp <;> decide
    · simp
  · simp
end
theorem st_visits : ST_visits Rel := by
  intro μ ν a1 a2 a3 h
  unfold vs_visits md_visits
  simp only [x_isVan, m_isVan, x_hasS h.1 h.2, m_isS h.2, x_isDay, m_isDay, mbv_s]
  have hS := (g_S h.2).2
  cases h1 : ix a1 3
  · exact ⟨-1, rfl, rfl, h⟩
  cases h2 : ix a2 (nS ν)
  · exact ⟨-1, rfl, rfl, h⟩
  cases h3 : ix a3 200
  · exact ⟨-1, rfl, rfl, h⟩
  obtain ⟨v, hv, rfl⟩ := ix_t h1 (by decide)
  obtain ⟨s, hs, rfl⟩ := ix_t h2 (by omega)
  obtain ⟨d, hd, rfl⟩ := ix_t h3 (by decide)
  simp only [ifT, x_goesTo h.1 h.2 hv hs hd, m_isVisited (ν := ν) hv (show s < 10 by omega) hd, mbv_s]
  cases visB ν v s d <;> exact ⟨_, rfl, rfl, h⟩
