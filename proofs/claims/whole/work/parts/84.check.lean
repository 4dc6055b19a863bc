/-! the check of what is out -/
def tpN (ν : Mm) (k : Nat) : Nat → Int32
  | 0 => 0
  | i + 1 => (tpN ν k i <<< ((8 : Int32) &&& 31)) ||| (ν 30 (4 * k + i) &&& 255)
theorem x_number {μ ν : Mm} (h : Rel μ ν) {n k : Nat} (hN : ν 0 38 = nI n) (hn : n ≤ 400) (hk : 4 * k + 4 ≤ n) : vs_Tape_numberAt μ (nI k) = some (tpN ν k 4) := by
  have xN : μ 1 1 = nI n := by rw [h.1.1.2.2.2.2.2.2.2.1, hN]
  have ht := h.1.2.2.2.2.2.2.2.2.2.2.2.2.2.2.2.1
  unfold vs_Tape_numberAt vs_Tape_numberAt_l4
  have key := seq_loop (f := fun q : Int32 × Int32 => vs_Tape_numberAt_b4 μ (nI k) q.1 q.2) (fun i => (tpN ν k i, nI i)) 4 (tpN ν k 4) (fun i hi => by
    show vs_Tape_numberAt_b4 μ (nI k) (tpN ν k i) (nI i) = _
    unfold vs_Tape_numberAt_b4 vs_Tape_byteAt
    have eb : μ 14 (4 * k + i) &&& 255 = ν 30 (4 * k + i) &&& 255 := by
      rw [ht (4 * k + i) (by rw [hN, nI_clamp (by omega)]; omega)]
      refine tb_ext (fun j hj => ?_)
      rw [tb_and, tb_and]
      cases tb 255 j <;> simp
    rw [if_neg (by exact nI_ge (b := 4) hi (by decide)), show (4 : Int32) * nI k + nI i = nI (4 * k + i) from ix2 4 k i, within_eq, mbv_s, xN, ix_wi (by omega), ifb_t (ix_n (by omega) (by omega)), mrd_nI (by omega) (by decide), mbv_s, eb, nI_1]
    rfl) rfl 4 0 FU (by omega) (by unfold FU; omega)
  have key' : miter (fun q : Int32 × Int32 => vs_Tape_numberAt_b4 μ (nI k) q.1 q.2) FU (0, 0) = some (tpN ν k 4) := key
  rw [key', mbv_s]
theorem m_number {ν : Mm} {k : Nat} (hk : 4 * k + 4 ≤ 400) (w : Mm) (hw : w 30 = ν 30) : md_tapeNumber w (nI k) = some (tpN ν k 4) := by
  unfold md_tapeNumber md_tapeNumber_l6
  have e4 : (4 : Int32) * nI k = nI (4 * k) := pk_mul 4 k
  have e44 : nI (4 * k) + 4 = nI (4 * k + 4) := nI_add (4 * k) 4
  have key := seq_loop (f := fun q : Int32 × Int32 => md_tapeNumber_b6 w (nI k) q.1 q.2) (fun i => (tpN ν k i, nI (4 * k + i))) 4 (tpN ν k 4) (fun i hi => by
    show md_tapeNumber_b6 w (nI k) (tpN ν k i) (nI (4 * k + i)) = _
    unfold md_tapeNumber_b6
    rw [e4, e44, if_neg (nI_ge (by omega) (by omega)), mrd_nI (by omega) (by decide), hw, nI_1]
    rfl) (by
    show md_tapeNumber_b6 w (nI k) (tpN ν k 4) (nI (4 * k + 4)) = _
    unfold md_tapeNumber_b6
    rw [e4, e44, if_pos (nI_le (Nat.le_refl _) (by omega))]) 4 0 FU (by omega) (by unfold FU; omega)
  have key' : miter (fun q : Int32 × Int32 => md_tapeNumber_b6 w (nI k) q.1 q.2) FU (0, nI (4 * k)) = some (tpN ν k 4) := key
  rw [e4, key', mbv_s]
theorem clr_rel {μ ν : Mm} (h : Rel μ ν) : Rel (mset μ 1 1 0) (mset ν 0 38 0) := by
  obtain ⟨⟨⟨n1, n2, n3, n4, n5, n6, n7, n8, n9⟩, rb, rs, rr, rv, ra, hpv, hhad, hkind, hout, hrd, htold, hput, hlost, hask, htape, hlaw⟩, ⟨⟨g1, g2, g3, g4, g5, g6, g7⟩, gb, gsh, gst, grd, gas, grest⟩⟩ := h
  exact ⟨⟨⟨n1, n2, n3, n4, n5, n6, n7, rfl, n9⟩, rb, rs, rr, rv, ra, hpv, hhad, hkind, hout, hrd, htold, hput, hlost, hask, fun i hi => absurd hi (Nat.not_lt_zero i), hlaw⟩, ⟨⟨g1, g2, g3, g4, g5, ⟨0, by decide, rfl⟩, g7⟩, gb, gsh, gst, grd, gas, grest⟩⟩
/-- the first of a book's three numbers that is wrong: 0, 1, 2, or none: 3 -/
def wrg (ν : Mm) (b : Nat) : Nat := if tpN ν (3 * b) 4 = nI b then if tpN ν (3 * b + 1) 4 = ν 5 b then if tpN ν (3 * b + 2) 4 = ν 6 b then 3 else 2 else 1 else 0
def wrE (ν : Mm) (b : Nat) : (Int32) ⊕ (Int32) ⊕ (Int32) ⊕ (Unit) := if wrg ν b = 0 then .inl (nI b) else if wrg ν b = 1 then .inr (.inl (nI b)) else .inr (.inr (.inl (nI b)))
theorem wr_if {ν : Mm} {b : Nat} (N : Option (Int32 ⊕ ((Int32) ⊕ (Int32) ⊕ (Int32) ⊕ (Unit)))) : (if tpN ν (3 * b) 4 = nI b then if tpN ν (3 * b + 1) 4 = ν 5 b then if tpN ν (3 * b + 2) 4 = ν 6 b then N else some (.inr (.inr (.inr (.inl (nI b))))) else some (.inr (.inr (.inl (nI b)))) else some (.inr (.inl (nI b)))) = if decide (wrg ν b ≠ 3) = true then some (.inr (wrE ν b)) else N := by
  unfold wrE wrg
  by_cases c1 : tpN ν (3 * b) 4 = nI b
  · by_cases c2 : tpN ν (3 * b + 1) 4 = ν 5 b
    · by_cases c3 : tpN ν (3 * b + 2) 4 = ν 6 b
      · simp [c1, c2, c3]
      · simp [c1, c2, c3]
    · simp [c1, c2]
  · simp [c1]
theorem st_check : ST_check Rel := by
  intro μ ν a1 h
  unfold vs_check md_check
  obtain ⟨n, n1, n2⟩ := h.2.1.2.2.2.2.2.1
  have hB := g_B h.2
  have xN : μ 1 1 = nI n := by rw [h.1.1.2.2.2.2.2.2.2.1, n2]
  have e19 : μ 19 = ν 5 := h.1.2.1.2.2.2.2.1
  have e20 : μ 20 = ν 6 := h.1.2.1.2.2.2.2.2.1
  have e12 : nI n / 12 = nI (n / 12) := by
    have : ∀ m, m ≤ 400 → nI m / 12 = nI (m / 12) := by decide +kernel
    exact this n n1
  rw [within_eq, mbv_s, xN, n2, e12]
  have hw : (if a1 < 0 then some (-2, ν) else if a1 ≤ nI (n / 12) then mst ν 0 38 0 fun μ3 => msum4 (md_check_l25 μ3 a1 0) (fun x15 => some (3 * x15, μ3)) (fun x16 => some (3 * x16 + 1, μ3)) (fun x17 => some (3 * x17 + 2, μ3)) fun _ => if a1 ≤ μ3 0 1 then some (-1, μ3) else some (3 * μ3 0 1, μ3) else some (-2, ν)) = if wi a1 0 (nI (n / 12)) = true then (mst ν 0 38 0 fun μ3 => msum4 (md_check_l25 μ3 a1 0) (fun x15 => some (3 * x15, μ3)) (fun x16 => some (3 * x16 + 1, μ3)) (fun x17 => some (3 * x17 + 2, μ3)) fun _ => if a1 ≤ μ3 0 1 then some (-1, μ3) else some (3 * μ3 0 1, μ3)) else some (-2, ν) := by
    unfold wi
    by_cases c : a1 < 0
    · rw [if_pos c, if_neg (by simp [i32_nle.mpr c])]
    · rw [if_neg c]
      have c' := i32_nlt.mp c
      by_cases c2 : a1 ≤ nI (n / 12)
      · rw [if_pos c2, if_pos (by simp [c', c2])]
      · rw [if_neg c2, if_neg (by simp [c2])]
  rw [hw]
  by_cases c : ¬ (wi a1 0 (nI (n / 12)) = true)
  · rw [ifb_f c, if_neg c]; exact ⟨-2, μ, ν, rfl, rfl, h⟩
  rw [Classical.not_not] at c
  rw [ifb_t c, if_pos c]
  obtain ⟨m, m1, m2, rfl⟩ := wi_r (lo := 0) (hi := n / 12) c (by omega) (by decide)
  have hm : 12 * m ≤ n := by omega
  rw [mst_s]
  have hc := clr_rel h
  have ew30 : (mset ν 0 38 0) 30 = ν 30 := rfl
  have ewB : (mset ν 0 38 0) 0 1 = nI (nB ν) := hB.1
  have ew5 : (mset ν 0 38 0) 5 = ν 5 := rfl
  have ew6 : (mset ν 0 38 0) 6 = ν 6 := rfl
  generalize hw' : mset ν 0 38 0 = w at *
  have e3 : ∀ b, (3 : Int32) * nI b = nI (3 * b) := fun b => pk_mul 3 b
  have e31 : ∀ b, nI (3 * b) + 1 = nI (3 * b + 1) := fun b => nI_1 _
  have e32 : ∀ b, nI (3 * b) + 2 = nI (3 * b + 2) := fun b => nI_add (3 * b) 2
  have xs : ∀ b, b < m → b < nB ν → vs_firstWrong_b2 μ (nI m) (nI b) = if decide (wrg ν b ≠ 3) = true then some (.inr (wrE ν b)) else some (.inl (nI (b + 1))) := by
    intro b hb1 hb2
    unfold vs_firstWrong_b2
    rw [if_neg (nI_ge hb1 (by omega)), x_B h.1, hB.1, if_neg (nI_ge hb2 (by omega)), e3, e31, e32, x_number h n2 n1 (by omega), mbv_s, x_number h n2 n1 (by omega), mbv_s, x_number h n2 n1 (by omega), mbv_s, mrd_nI (by omega) (by decide), mrd_nI (by omega) (by decide), e19, e20, nI_1]
    exact wr_if _
  have ms : ∀ b, b < m → b < nB ν → md_check_b25 w (nI m) (nI b) = if decide (wrg ν b ≠ 3) = true then some (.inr (wrE ν b)) else some (.inl (nI (b + 1))) := by
    intro b hb1 hb2
    unfold md_check_b25
    rw [ewB, if_neg (nI_ge hb2 (by omega)), if_neg (nI_ne (by omega) (by omega) (by omega)), e3, e31, e32, m_number (ν := ν) (by omega) w ew30, mbv_s, m_number (ν := ν) (by omega) w ew30, mbv_s, m_number (ν := ν) (by omega) w ew30, mbv_s, mrd_nI (by omega) (by decide), mrd_nI (by omega) (by decide), ew5, ew6, nI_1]
    exact wr_if _
  have kx := find_loop (f := fun q => vs_firstWrong_b2 μ (nI m) q) (p := fun b => decide (wrg ν b ≠ 3)) 0 (min m (nB ν)) (fun b => wrE ν b) (if m ≤ nB ν then .inr (.inr (.inr ())) else .inl (nI (nB ν))) (fun i _ hi => xs i (by omega) (by omega)) (by
    show vs_firstWrong_b2 μ (nI m) (nI (min m (nB ν))) = _
    unfold vs_firstWrong_b2
    by_cases c2 : m ≤ nB ν
    · rw [Nat.min_eq_left c2, if_pos (nI_le (Nat.le_refl _) (by omega)), if_pos c2]
    · rw [Nat.min_eq_right (by omega), if_neg (nI_ge (by omega) (by omega)), x_B h.1, hB.1, if_pos (nI_le (Nat.le_refl _) (by omega)), if_neg c2]) (min m (nB ν)) 0 FU (Nat.le_refl _) (by omega) (by unfold FU; omega)
  have km := find_loop (f := fun q => md_check_b25 w (nI m) q) (p := fun b => decide (wrg ν b ≠ 3)) 0 (min m (nB ν)) (fun b => wrE ν b) (if nB ν ≤ m then .inr (.inr (.inr ())) else .inl (nI m)) (fun i _ hi => ms i (by omega) (by omega)) (by
    show md_check_b25 w (nI m) (nI (min m (nB ν))) = _
    unfold md_check_b25
    by_cases c2 : nB ν ≤ m
    · rw [Nat.min_eq_right c2, ewB, if_pos (nI_le (Nat.le_refl _) (by omega)), if_pos c2]
    · rw [Nat.min_eq_left (by omega), ewB, if_neg (nI_ge (by omega) (by omega)), if_pos rfl, if_neg c2]) (min m (nB ν)) 0 FU (Nat.le_refl _) (by omega) (by unfold FU; omega)
  unfold vs_firstWrong vs_firstWrong_l2 md_check_l25 vs_Tape_clear
  rw [show (0 : Int32) = nI 0 from rfl, kx, km, mst_s]
  have hc' : Rel (mset μ 1 1 (nI 0)) w := hc
  have eB : μ 2 10 = nI (nB ν) := (x_B h.1).trans hB.1
  rw [eB, ewB]
  cases lf (fun b => decide (wrg ν b ≠ 3)) (min m (nB ν)) 0 with
  | some b =>
    show ∃ v u w', mbv (msum4 (some (wrE ν b)) _ _ _ _) _ = some (v, u) ∧ msum4 (some (wrE ν b)) _ _ _ _ = some (v, w') ∧ Rel u w'
    unfold wrE
    by_cases q0 : wrg ν b = 0
    · rw [if_pos q0]; exact ⟨_, _, _, rfl, rfl, hc'⟩
    · rw [if_neg q0]
      by_cases q1 : wrg ν b = 1
      · rw [if_pos q1]; exact ⟨_, _, _, rfl, rfl, hc'⟩
      · rw [if_neg q1]; exact ⟨_, _, _, rfl, rfl, hc'⟩
  | none =>
    show ∃ v u w', mbv (msum4 (some (if m ≤ nB ν then _ else _)) _ _ _ _) _ = some (v, u) ∧ msum4 (some (if nB ν ≤ m then _ else _)) _ _ _ _ = some (v, w') ∧ Rel u w'
    rcases Nat.lt_trichotomy m (nB ν) with c2 | c2 | c2
    · rw [if_pos (show m ≤ nB ν by omega), if_neg (show ¬ nB ν ≤ m by omega)]
      refine ⟨nI (3 * m), _, w, ?_, ?_, hc'⟩
      · show mbv (if nI (nB ν) ≤ nI m then _ else _) _ = _
        rw [if_neg (nI_ge c2 (by omega)), mbv_s, mbv_s, e3]
      · show some (3 * nI m, w) = _
        rw [e3]
    · rw [if_pos (show m ≤ nB ν by omega), if_pos (show nB ν ≤ m by omega)]
      refine ⟨-1, _, w, ?_, ?_, hc'⟩
      · show mbv (if nI (nB ν) ≤ nI m then _ else _) _ = _
        rw [if_pos (nI_le (by omega) (by omega)), mbv_s, mbv_s]
      · show (if nI m ≤ nI (nB ν) then _ else _) = _
        rw [if_pos (nI_le (by omega) (by omega))]
    · rw [if_neg (show ¬ m ≤ nB ν by omega), if_pos (show nB ν ≤ m by omega)]
      refine ⟨nI (3 * nB ν), _, w, ?_, ?_, hc'⟩
      · show mbv (some (3 * nI (nB ν))) _ = _
        rw [mbv_s, mbv_s, e3]
      · show (if nI m ≤ nI (nB ν) then _ else _) = _
        rw [if_neg (nI_ge c2 (by omega)), e3]
