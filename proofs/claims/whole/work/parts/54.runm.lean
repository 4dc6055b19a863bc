theorem m_reckon {x y : Int32} {op : Nat} (h : 2 ≤ op ∧ op ≤ 9) (hz : ¬ ((op = 5 ∨ op = 6) ∧ y = 0)) : md_reckon (nI op) x y = some (lbin op x y) := by
  unfold md_reckon lbin
  obtain ⟨h1, h2⟩ := h
  rcases (show op = 2 ∨ op = 3 ∨ op = 4 ∨ op = 5 ∨ op = 6 ∨ op = 7 ∨ op = 8 ∨ op = 9 by omega) with rfl | rfl | rfl | rfl | rfl | rfl | rfl | rfl
  · rfl
  · rfl
  · rfl
  · have hy : ¬ (y = 0) := fun e => hz ⟨Or.inl rfl, e⟩
    show mdv y (some (x / y)) = some (x / y)
    unfold mdv; rw [if_neg hy]
  · have hy : ¬ (y = 0) := fun e => hz ⟨Or.inr rfl, e⟩
    show mdv y (some (x - x / y * y)) = some (x - x / y * y)
    unfold mdv; rw [if_neg hy]
  · show (if y ≤ x then some 0 else some 1) = some (if x < y then 1 else 0)
    by_cases c : x < y
    · rw [if_pos c, if_neg (i32_nle.mpr c)]
    · rw [if_neg c, if_pos (Classical.not_not.mp (fun q => c (i32_nle.mp q)))]
  · show (if x ≤ y then some 0 else some 1) = some (if y < x then 1 else 0)
    by_cases c : y < x
    · rw [if_pos c, if_neg (i32_nle.mpr c)]
    · rw [if_neg c, if_pos (Classical.not_not.mp (fun q => c (i32_nle.mp q)))]
  · show (if x = y then some 1 else some 0) = some (if x = y then 1 else 0)
    by_cases c : x = y
    · rw [if_pos c, if_pos c]
    · rw [if_neg c, if_neg c]
theorem code_op {op w : Nat} (h1 : op < 13) (h2 : w < 1048576) : nI (1048576 * op + w) / 1048576 = nI op := by
  have := pk_div (a := 1048576 * op + w) (d := 1048576) (by omega) (by decide) (by decide)
  rw [show (1048576 * op + w) / 1048576 = op by omega] at this
  exact this
theorem code_w {op w : Nat} (h1 : op < 13) (h2 : w < 1048576) : nI (1048576 * op + w) - nI (1048576 * op + w) / 1048576 * 1048576 = nI w := by
  rw [code_op h1 h2]
  have e := pk_mul op 1048576
  have e2 : nI op * 1048576 = nI (op * 1048576) := e
  rw [e2, pk_sub (by omega)]
  congr 1; omega
def FM (ν ν' : Mm) : Prop := ∀ c, c ≠ 42 → ν' c = ν c
theorem FM_r (ν : Mm) : FM ν ν := fun _ _ => rfl
theorem FM_t {μ μ' μ'' : Mm} (h : FM μ μ') (h2 : FM μ' μ'') : FM μ μ'' := fun c a => (h2 c a).trans (h c a)
theorem FM_s (ν : Mm) (i : Nat) (v : Int32) : FM ν (mset ν 42 i v) := fun c a => by rw [mset_o a]
theorem m_j203 {ν : Mm} {x y a2 a4 a5 : Int32} {r : List Int32} {op : Nat} (h : stk (ν 42) (y :: x :: r)) (hr : r.length < 200) (ho : 2 ≤ op ∧ op ≤ 9) (hz : ¬ ((op = 5 ∨ op = 6) ∧ y = 0)) : md_comesTo_j203 ν a2 (nI (r.length + 1)) a4 a5 (nI op) = some (.inl (nI (r.length + 1), a5, mset ν 42 r.length (lbin op x y))) := by
  unfold md_comesTo_j203
  have hy : ν 42 (r.length + 1) = y := h.1
  have hx : ν 42 r.length = x := h.2.1
  rw [nI_pred, mrd_nI (by omega) (by decide), mrd_nI (by omega) (by decide), hy, hx, m_reckon ho hz, mbv_s, mwr_nI (by omega) (by decide)]
def RSM (res : Option (List Int32)) (o : Option (Mm ⊕ Mm)) (ν : Mm) : Prop := match res with
  | none => o = some (.inl ν)
  | some st => o = some (.inr ν) ∧ stk (ν 42) st
