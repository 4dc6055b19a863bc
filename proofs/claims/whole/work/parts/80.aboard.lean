/-! what must be on board -/
theorem seq_loop {S E : Type} {f : S → Option (S ⊕ E)} (st : Nat → S) (n : Nat) (e : E) (hs : ∀ i, i < n → f (st i) = some (.inl (st (i + 1)))) (he : f (st n) = some (.inr e)) : ∀ m i F, i + m = n → m < F → miter f F (st i) = some e := by
  intro m
  induction m with
  | zero =>
    intro i F h2 h3
    obtain ⟨F', rfl⟩ : ∃ F', F = F' + 1 := ⟨F - 1, by omega⟩
    have e : i = n := by omega
    subst e
    exact miter_r he
  | succ m ih =>
    intro i F h2 h3
    obtain ⟨F', rfl⟩ : ∃ F', F = F' + 1 := ⟨F - 1, by omega⟩
    exact miter_l (hs i (by omega)) (ih (i + 1) F' (by omega) (by omega))
theorem mkb_S (p : Nat → Bool) (n : Nat) : mkb p (n + 1) = if p n = true then mkb p n ||| ((1 : Int32) <<< (nI n &&& 31)) else mkb p n := rfl
theorem nI_m1 {v : Nat} (h : v < 2 ^ 31) : nI v ≠ -1 := by
  intro e
  have := congrArg Int32.toInt e
  rw [nI_toInt h] at this
  have e2 : (-1 : Int32).toInt = -1 := rfl
  omega
theorem lf_is {p : Nat → Bool} {m i : Nat} : (lf p m i).isSome = true ↔ ∃ j, i ≤ j ∧ j < i + m ∧ p j = true := by
  cases q : lf p m i with
  | none =>
    refine ⟨fun h => (nomatch h), fun ⟨j, h1, h2, h3⟩ => ?_⟩
    rw [lf_none q j h1 h2] at h3
    cases h3
  | some k =>
    obtain ⟨h1, h2, h3, -⟩ := lf_some q
    exact ⟨fun _ => ⟨k, h1, h2, h3⟩, fun _ => rfl⟩
def askS (ν : Mm) (r d : Nat) : Int32 := mkb (fun b => decide (ν 20 (32 * r + b) = nI d)) (nB ν)
def brd (ν : Mm) (v d : Nat) : Nat → Int32
  | 0 => 0
  | r + 1 => if visB ν v (ν 15 r).toNatClampNeg d = true then brd ν v d r ||| askS ν r d else brd ν v d r
theorem x_booksFor {μ ν : Mm} (h : Rel μ ν) {r d : Nat} (hr : r < nR ν) (hd : d < 200) : vs_Asks_booksFor μ (nI r) (nI d) = some (askS ν r d) := by
  have hB := g_B h.2
  unfold vs_Asks_booksFor vs_Asks_booksFor_l5
  rw [set_loop (f := vs_Asks_booksFor_b5 μ (nI r) (nI d)) (n := 32) (fun b => decide (ν 20 (32 * r + b) = nI d)) (by decide) (fun i a hi => by
    unfold vs_Asks_booksFor_b5
    rw [if_neg (by exact nI_ge (b := 32) hi (by decide)), x_dayOf h.1 h.2 hr hi, mbv_s, nI_1]
    by_cases c : ν 20 (32 * r + i) = nI d
    · rw [if_pos c, if_pos (by simp [c])]
    · rw [if_neg c, if_neg (by simp [c])]) (fun a => rfl), mbv_s]
  congr 1
  unfold askS
  refine mkb_of hB.2 (fun j hj => ?_)
  rw [tb_mkb _ (by decide) j hj]
  by_cases c : j < nB ν
  · simp [c, hj]
  · have e := (h.2.2.2.2.2.2.1 r hr j hj).2 (by omega)
    rw [e]
    have : ¬ ((-1 : Int32) = nI d) := fun z => nI_m1 (by omega) z.symm
    simp [this]
theorem x_board {μ ν : Mm} (h : Rel μ ν) {v d : Nat} (hv : v < 3) (hd : d < 200) : vs_boardOf μ (nI d) (nI v) = some (brd ν v d (nR ν)) := by
  have hR := g_R h.2
  have hS := g_S h.2
  have e25 : μ 25 = ν 15 := h.1.2.2.2.1.1
  obtain ⟨x, x1, x2⟩ := x_stopsOn h.1 h.2 hv hd
  unfold vs_boardOf
  rw [x1, mbv_s]
  unfold vs_boardOf_l16
  have key := seq_loop (f := fun q : Int32 × Int32 => vs_boardOf_b16 μ (nI d) x q.1 q.2) (fun i => (brd ν v d i, nI i)) (nR ν) (brd ν v d (nR ν)) (fun i hi => by
    show vs_boardOf_b16 μ (nI d) x (brd ν v d i) (nI i) = _
    obtain ⟨s, hs, es⟩ := g_home h.2 hi
    unfold vs_boardOf_b16
    have eb : brd ν v d (i + 1) = if visB ν v s d = true then brd ν v d i ||| askS ν i d else brd ν v d i := by
      show (if visB ν v (ν 15 i).toNatClampNeg d = true then _ else _) = _
      rw [es, nI_clamp (by omega)]
    rw [x_R h.1, hR.1, if_neg (nI_ge hi (by omega)), mrd_nI (by omega) (by decide), e25, es, hasBit_eq _ (by omega), mbv_s, x2 s (by omega), x_booksFor h hi hd, mbv_s, nI_1, eb]
    by_cases c : visB ν v s d = true
    · rw [ifb_t (by simp [hs, c]), if_pos c]
    · rw [ifb_f (by simp [c]), if_neg c]) (by
    show vs_boardOf_b16 μ (nI d) x (brd ν v d (nR ν)) (nI (nR ν)) = _
    unfold vs_boardOf_b16
    rw [x_R h.1, hR.1, if_pos (nI_le (Nat.le_refl _) (by omega))]) (nR ν) 0 FU (by omega) (by unfold FU; omega)
  have key' : miter (fun q : Int32 × Int32 => vs_boardOf_b16 μ (nI d) x q.1 q.2) FU (0, 0) = some (brd ν v d (nR ν)) := key
  rw [key', mbv_s]
theorem m_board {ν : Mm} (g : Good ν) {v d : Nat} (hv : v < 3) (hd : d < 200) : md_aboardOf ν (nI d) (nI v) = some (asL (brd ν v d (nR ν))) := by
  have hR := g_R g
  have hB := g_B g
  have hS := g_S g
  have inner : ∀ (r : Nat) (a : Int32), r < 16 → md_aboardOf_l36 ν (nI d) (nI v) (nI r) (asL a) 0 = some (asL (a ||| askS ν r d)) := by
    intro r a hr
    unfold md_aboardOf_l36
    have key := seq_loop (f := fun q : Int64 × Int32 => md_aboardOf_b36 ν (nI d) (nI v) (nI r) q.1 q.2) (fun i => (asL (a ||| mkb (fun b => decide (ν 20 (32 * r + b) = nI d)) i), nI i)) (nB ν) (asL (a ||| askS ν r d)) (fun i hi => by
      show md_aboardOf_b36 ν (nI d) (nI v) (nI r) (asL (a ||| mkb (fun b => decide (ν 20 (32 * r + b) = nI d)) i)) (nI i) = _
      unfold md_aboardOf_b36
      rw [hB.1, if_neg (nI_ge hi (by omega)), nI_1]
      refine (mrd_at (ix2 32 r i) (by omega) (by decide)).trans ?_
      rw [mkb_S]
      by_cases c : ν 20 (32 * r + i) = nI d
      · rw [if_pos c, if_pos (by simp [c]), ← asL_bit i (by omega), ← asL_or, Int32.or_assoc]
      · rw [if_neg c, if_neg (by simp [c])]) (by
      show md_aboardOf_b36 ν (nI d) (nI v) (nI r) (asL (a ||| mkb (fun b => decide (ν 20 (32 * r + b) = nI d)) (nB ν))) (nI (nB ν)) = _
      unfold md_aboardOf_b36
      rw [hB.1, if_pos (nI_le (Nat.le_refl _) (by omega))]
      rfl) (nB ν) 0 FU (by omega) (by unfold FU; omega)
    have e0 : a ||| mkb (fun b => decide (ν 20 (32 * r + b) = nI d)) 0 = a := by
      show a ||| 0 = a
      exact tb_ext (fun j hj => by rw [tb_or, tb_zero]; simp)
    have key' : miter (fun q : Int64 × Int32 => md_aboardOf_b36 ν (nI d) (nI v) (nI r) q.1 q.2) FU (asL (a ||| mkb (fun b => decide (ν 20 (32 * r + b) = nI d)) 0), 0) = some (asL (a ||| askS ν r d)) := key
    rw [e0] at key'
    exact key'
  unfold md_aboardOf md_aboardOf_l5
  have key := seq_loop (f := fun q : Int64 × Int32 => md_aboardOf_b5 ν (nI d) (nI v) q.1 q.2) (fun i => (asL (brd ν v d i), nI i)) (nR ν) (asL (brd ν v d (nR ν))) (fun i hi => by
    show md_aboardOf_b5 ν (nI d) (nI v) (asL (brd ν v d i)) (nI i) = _
    obtain ⟨s, hs, es⟩ := g_home g hi
    unfold md_aboardOf_b5
    have eb : brd ν v d (i + 1) = if visB ν v s d = true then brd ν v d i ||| askS ν i d else brd ν v d i := by
      show (if visB ν v (ν 15 i).toNatClampNeg d = true then _ else _) = _
      rw [es, nI_clamp (by omega)]
    rw [hR.1, if_neg (nI_ge hi (by omega)), mrd_nI (by omega) (by decide), es, m_isVisited hv (by omega) hd, mbv_s, inner i _ (by omega), mbv_s, nI_1, eb]
    by_cases c : visB ν v s d = true
    · rw [ifb_t c, if_pos c]
    · rw [ifb_f c, if_neg c]) (by
    show md_aboardOf_b5 ν (nI d) (nI v) (asL (brd ν v d (nR ν))) (nI (nR ν)) = _
    unfold md_aboardOf_b5
    rw [hR.1, if_pos (nI_le (Nat.le_refl _) (by omega))]) (nR ν) 0 FU (by omega) (by unfold FU; omega)
  have key' : miter (fun q : Int64 × Int32 => md_aboardOf_b5 ν (nI d) (nI v) q.1 q.2) FU (asL 0, 0) = some (asL (brd ν v d (nR ν))) := key
  rw [asL_0] at key'
  rw [key', mbv_s]
theorem st_aboard : ST_aboard Rel := by
  intro μ ν a1 a2 h
  unfold vs_aboard md_aboard
  rw [x_isDay, m_isDay, x_isVan, m_isVan, mbv_s, mbv_s, mbv_s, mbv_s]
  by_cases c1 : ¬ (ix a1 200 = true)
  · rw [ifb_f c1, ifb_f c1]; exact ⟨-1, rfl, rfl, h⟩
  rw [Classical.not_not] at c1
  rw [ifb_t c1, ifb_t c1]
  obtain ⟨d, hd, rfl⟩ := ix_t c1 (by omega)
  by_cases c2 : ¬ (ix a2 3 = true)
  · rw [ifb_f c2, ifb_f c2]; exact ⟨-1, rfl, rfl, h⟩
  rw [Classical.not_not] at c2
  rw [ifb_t c2, ifb_t c2]
  obtain ⟨v, hv, rfl⟩ := ix_t c2 (by omega)
  rw [x_board h hv hd, m_board h.2 hv hd, mbv_s, mbv_s]
  exact ⟨_, rfl, rfl, h⟩
