theorem loop_some {A E : Type} {f : A → Int32 → Option ((A × Int32) ⊕ E)} {n : Nat} (hn : n < 10000) (hs : ∀ i a, i < n → ∃ a', f a (nI i) = some (.inl (a', nI i + 1))) (he : ∀ a, ∃ e, f a (nI n) = some (.inr e)) (a0 : A) : ∃ e, miter (fun q => f q.1 q.2) FU (a0, 0) = some e := by
  obtain ⟨e, h1, -⟩ := miter_cnt (f := fun q : A × Int32 => f q.1 q.2) (fun i (a : A) => (a, nI i)) n (fun _ _ => True) (fun _ => True)
    (fun i a hi _ => Or.inl (by obtain ⟨a', h⟩ := hs i a hi; exact ⟨a', by show f a (nI i) = _; rw [h, nI_1], trivial⟩))
    (fun a _ => by obtain ⟨e, h⟩ := he a; exact ⟨e, h, trivial⟩) FU 0 a0 (Nat.zero_le _) (by have : FU = 1048576 := rfl; omega) trivial
  exact ⟨e, h1⟩
section
variable {μ ν : Mm}
theorem m_outWith (g : Good ν) (r : Nat) : md_outWith ν (nI r) = some (nI (cn (fun b => decide (ν 5 b = nI (10 + r))) (nB ν))) := by
  have hB := g_B g
  unfold md_outWith md_outWith_l4
  rw [sum_loop (f := md_outWith_b4 ν (nI r)) (n := nB ν) (fun b => if decide (ν 5 b = nI (10 + r)) = true then 1 else 0) (by omega) (fun i a hi => by
    unfold md_outWith_b4
    rw [hB.1, if_neg (nI_ge hi (by omega)), mrd_nI (by omega) (by decide), show (10 : Int32) + nI r = nI (10 + r) from nI_add 10 r]
    simp only [decide_eq_true_eq]
    split <;> rfl) (fun a => by
    unfold md_outWith_b4
    rw [hB.1, if_pos (nI_le (Nat.le_refl _) (by omega))]), mbv_s, sm_cn]
theorem m_whoHad (g : Good ν) {b : Nat} (hb : b < 32) : md_whoHad ν (nI b) = some (nI (cn (fun r => decide (ν 21 (32 * r + b) ≠ 0)) (nR ν))) := by
  have hR := g_R g
  unfold md_whoHad md_whoHad_l4
  rw [sum_loop (f := md_whoHad_b4 ν (nI b)) (n := nR ν) (fun r => if decide (ν 21 (32 * r + b) ≠ 0) = true then 1 else 0) (by omega) (fun i a hi => by
    unfold md_whoHad_b4
    rw [hR.1, if_neg (nI_ge hi (by omega))]
    refine (mrd_at (ix2 32 i b) (by omega) (by decide)).trans ?_
    simp only [decide_eq_true_eq]
    by_cases h : ν 21 (32 * i + b) = 0
    · rw [if_pos h, if_neg (by simp [h])]
    · rw [if_neg h, if_pos h]) (fun a => by
    unfold md_whoHad_b4
    rw [hR.1, if_pos (nI_le (Nat.le_refl _) (by omega))]), mbv_s, sm_cn]
theorem x_whoHad (r : RX μ ν) (g : Good ν) {b : Nat} (hb : b < 32) : bc (μ 23 b) = cn (fun r => decide (ν 21 (32 * r + b) ≠ 0)) (nR ν) := by
  have hR := g_R g
  have hh := r.2.2.2.2.2.2.2.1.1 b hb
  have gh := g.2.2.2.2.2.2.1
  unfold bc
  rw [bcn_cn]
  refine cn_lt (by omega) (fun q hq => ?_) (fun q h1 h2 => ?_)
  · rw [hh q (by omega)]; simp; intro _; omega
  · rw [hh q h2]
    by_cases e : q < 16
    · rw [(gh q e b hb).2 (Or.inl h1)]; simp
    · simp [e]
theorem m_had3 (g : Good ν) {r : Nat} (hr : r < 16) : md_readerIs_l69 ν (nI r) 0 0 = some (nI (cn (fun b => decide (ν 21 (32 * r + b) ≠ 0)) (nB ν))) := by
  have hB := g_B g
  unfold md_readerIs_l69
  rw [sum_loop (f := md_readerIs_b69 ν (nI r)) (n := nB ν) (fun b => if decide (ν 21 (32 * r + b) ≠ 0) = true then 1 else 0) (by omega) (fun i a hi => by
    unfold md_readerIs_b69
    rw [hB.1, if_neg (nI_ge hi (by omega))]
    refine (mrd_at (ix2 32 r i) (by omega) (by decide)).trans ?_
    simp only [decide_eq_true_eq]
    by_cases h : ν 21 (32 * r + i) = 0
    · rw [if_pos h, if_neg (by simp [h])]
    · rw [if_neg h, if_pos h]) (fun a => by
    unfold md_readerIs_b69
    rw [hB.1, if_pos (nI_le (Nat.le_refl _) (by omega))]), sm_cn]
theorem x_had3 (rx : RX μ ν) (g : Good ν) {r : Nat} (hr : r < 16) : bc (μ 28 r) = cn (fun b => decide (ν 21 (32 * r + b) ≠ 0)) (nB ν) := by
  have hB := g_B g
  have hh := rx.2.2.2.2.2.2.2.1.2 r hr
  have gh := g.2.2.2.2.2.2.1
  unfold bc
  rw [bcn_cn]
  refine cn_lt (by omega) (fun q hq => hh q (by omega)) (fun q h1 h2 => ?_)
  rw [hh q h2, (gh r hr q h2).2 (Or.inr h1)]; simp
theorem m_asksOf (g : Good ν) {r : Nat} (hr : r < nR ν) : md_asksOf ν (nI r) = some (nI (cn (fun b => decide (ν 20 (32 * r + b) ≠ -1)) 32)) := by
  have hB := g_B g
  have hR := g_R g
  unfold md_asksOf md_asksOf_l4
  rw [sum_loop (f := md_asksOf_b4 ν (nI r)) (n := nB ν) (fun b => if decide (ν 20 (32 * r + b) ≠ -1) = true then 1 else 0) (by omega) (fun i a hi => by
    unfold md_asksOf_b4
    rw [hB.1, if_neg (nI_ge hi (by omega))]
    refine (mrd_at (ix2 32 r i) (by omega) (by decide)).trans ?_
    simp only [decide_eq_true_eq]
    by_cases h : ν 20 (32 * r + i) = -1
    · rw [if_pos h, if_neg (by simp [h])]
    · rw [if_neg h, if_pos h]) (fun a => by
    unfold md_asksOf_b4
    rw [hB.1, if_pos (nI_le (Nat.le_refl _) (by omega))]), mbv_s, sm_cn]
  congr 2
  refine (cn_lt hB.2 (fun _ _ => rfl) (fun b h1 h2 => ?_)).symm
  rw [(g.2.2.2.2.2.1 r hr b h2).2 h1]; simp
theorem x_dayOf (rx : RX μ ν) (g : Good ν) {r b : Nat} (hr : r < nR ν) (hb : b < 32) : vs_Asks_dayOf μ (nI r) (nI b) = some (ν 20 (32 * r + b)) := by
  have hR := g_R g
  unfold vs_Asks_dayOf
  refine (mrd_at (ix3 32 r b) (by omega) (by decide)).trans ?_
  rw [rx.2.2.2.2.2.2.2.2.2.2.2.2.2.2.1.1 r (by omega) b hb, if_pos hr]
theorem x_ofReader (rx : RX μ ν) (g : Good ν) {r : Nat} (hr : r < nR ν) : vs_Asks_ofReader μ (nI r) = some (nI (cn (fun b => decide (ν 20 (32 * r + b) ≠ -1)) 32)) := by
  unfold vs_Asks_ofReader vs_Asks_ofReader_l4
  rw [sum_loop (f := vs_Asks_ofReader_b4 μ (nI r)) (n := 32) (fun b => if decide (ν 20 (32 * r + b) ≠ -1) = true then 1 else 0) (by decide) (fun i a hi => by
    unfold vs_Asks_ofReader_b4
    rw [if_neg (by exact nI_ge hi (by decide)), x_dayOf rx g hr hi, mbv_s]
    simp only [decide_eq_true_eq]
    by_cases h : ν 20 (32 * r + i) = -1
    · rw [if_pos h, if_neg (by simp [h]), add0]
    · rw [if_neg h, if_pos h]) (fun a => by
    unfold vs_Asks_ofReader_b4
    rw [if_pos (by decide)]), mbv_s, sm_cn]
def cntR (ν : Mm) (s : Nat) : Nat := cn (fun r => decide (ν 15 r = nI s)) (nR ν)
theorem m_readersOf (g : Good ν) (s : Nat) : md_readersOf ν (nI s) = some (nI (cntR ν s)) := by
  have hR := g_R g
  unfold md_readersOf md_readersOf_l4
  rw [sum_loop (f := md_readersOf_b4 ν (nI s)) (n := nR ν) (fun r => if decide (ν 15 r = nI s) = true then 1 else 0) (by omega) (fun i a hi => by
    unfold md_readersOf_b4
    rw [hR.1, if_neg (nI_ge hi (by omega)), mrd_nI (by omega) (by decide)]
    simp only [decide_eq_true_eq]
    split <;> rfl) (fun a => by
    unfold md_readersOf_b4
    rw [hR.1, if_pos (nI_le (Nat.le_refl _) (by omega))]), mbv_s, sm_cn]
  rfl
theorem x_readersOf (rx : RX μ ν) (g : Good ν) {s : Nat} (hs : s < 10) : bc (μ 39 s) = cntR ν s := by
  have hR := g_R g
  have hh := rx.2.2.2.2.2.2.2.2.2.2.1 s hs
  unfold bc cntR
  rw [bcn_cn]
  refine cn_lt (by omega) (fun q hq => ?_) (fun q h1 h2 => ?_)
  · rw [hh q (by omega)]; simp [hq]
  · rw [hh q h2]
    have : ¬ q < nR ν := by omega
    simp [this]
theorem x_loansOf (rx : RX μ ν) (g : Good ν) {s : Nat} (hs : s < 10) : vs_loansOf μ (nI s) = some (ν 26 s) := by
  have hR := g_R g
  have e3 : μ 3 7 = nI (nR ν) := (x_R rx).trans hR.1
  have e1 : μ 25 = ν 15 := rx.2.2.2.1.1
  have e2 : μ 30 = ν 19 := rx.2.2.2.1.2.2.2.1
  unfold vs_loansOf vs_loansOf_l4
  rw [sum_loop (f := vs_loansOf_b4 μ (nI s)) (n := nR ν) (fun r => if ν 15 r = nI s then ν 19 r else 0) (by omega) (fun i a hi => by
    unfold vs_loansOf_b4
    rw [e3, if_neg (nI_ge hi (by omega)), mrd_nI (by omega) (by decide), e1]
    split
    · rw [mrd_nI (by omega) (by decide), e2]
    · rw [add0]) (fun a => by
    unfold vs_loansOf_b4
    rw [e3, if_pos (nI_le (Nat.le_refl _) (by omega))]), mbv_s]
  rw [g.2.2.2.2.2.2.2.2.2.1 s hs]
theorem x_loansOfKind (rx : RX μ ν) (g : Good ν) {k : Nat} (hk : k < 8) : vs_Books_loansOfKind μ (nI k) = some (ν 27 k) := by
  have hB := g_B g
  have e3 : μ 2 10 = nI (nB ν) := (x_B rx).trans hB.1
  have e1 : μ 15 = ν 1 := rx.2.1.1
  have e2 : μ 21 = ν 7 := rx.2.1.2.2.2.2.2.2.1
  unfold vs_Books_loansOfKind vs_Books_loansOfKind_l4
  rw [sum_loop (f := vs_Books_loansOfKind_b4 μ (nI k)) (n := nB ν) (fun b => if ν 1 b = nI k then ν 7 b else 0) (by omega) (fun i a hi => by
    unfold vs_Books_loansOfKind_b4
    rw [e3, if_neg (nI_ge hi (by omega)), mrd_nI (by omega) (by decide), e1]
    split
    · rw [mrd_nI (by omega) (by decide), e2]
    · rw [add0]) (fun a => by
    unfold vs_Books_loansOfKind_b4
    rw [e3, if_pos (nI_le (Nat.le_refl _) (by omega))]), mbv_s]
  rw [g.2.2.2.2.2.2.2.2.2.2.1 k hk]
def borV (ν : Mm) (s : Nat) : Int32 := sm (fun r => if ν 15 r = nI s then (if ν 19 r ≤ 0 then 0 else 1) else 0) (nR ν)
theorem x_borrowersOf (rx : RX μ ν) (g : Good ν) (s : Nat) : vs_borrowersOf μ (nI s) = some (borV ν s) := by
  have hR := g_R g
  have e3 : μ 3 7 = nI (nR ν) := (x_R rx).trans hR.1
  have e1 : μ 25 = ν 15 := rx.2.2.2.1.1
  have e2 : μ 30 = ν 19 := rx.2.2.2.1.2.2.2.1
  unfold vs_borrowersOf vs_borrowersOf_l4
  rw [sum_loop (f := vs_borrowersOf_b4 μ (nI s)) (n := nR ν) (fun r => if ν 15 r = nI s then (if ν 19 r ≤ 0 then 0 else 1) else 0) (by omega) (fun i a hi => by
    unfold vs_borrowersOf_b4
    rw [e3, if_neg (nI_ge hi (by omega)), mrd_nI (by omega) (by decide), e1]
    split
    · rw [mrd_nI (by omega) (by decide), e2]
      split
      · rw [add0]
      · rfl
    · rw [add0]) (fun a => by
    unfold vs_borrowersOf_b4
    rw [e3, if_pos (nI_le (Nat.le_refl _) (by omega))]), mbv_s]
  rfl
theorem m_borrowersOf (g : Good ν) (s : Nat) : md_borrowersOf ν (nI s) = some (borV ν s) := by
  have hR := g_R g
  unfold md_borrowersOf md_borrowersOf_l4
  rw [sum_loop (f := md_borrowersOf_b4 ν (nI s)) (n := nR ν) (fun r => if ν 15 r = nI s then (if ν 19 r ≤ 0 then 0 else 1) else 0) (by omega) (fun i a hi => by
    unfold md_borrowersOf_b4
    rw [hR.1, if_neg (nI_ge hi (by omega)), mrd_nI (by omega) (by decide)]
    split
    · rw [mrd_nI (by omega) (by decide)]
      split <;> rfl
    · rfl) (fun a => by
    unfold md_borrowersOf_b4
    rw [hR.1, if_pos (nI_le (Nat.le_refl _) (by omega))]), mbv_s]
  rfl
end
