/-! bits of an int -/
def tb (x : Int32) (j : Nat) : Bool := x.toBitVec.getLsbD j
theorem tb_or (x y : Int32) (j : Nat) : tb (x ||| y) j = (tb x j || tb y j) := by simp [tb]
theorem tb_and (x y : Int32) (j : Nat) : tb (x &&& y) j = (tb x j && tb y j) := by simp [tb]
theorem tb_xor (x y : Int32) (j : Nat) : tb (x ^^^ y) j = (tb x j ^^ tb y j) := by simp [tb]
theorem tb_zero (j : Nat) : tb 0 j = false := by simp [tb]
theorem tb_ge (x : Int32) {j : Nat} (h : 32 ≤ j) : tb x j = false := by simp [tb, h]
theorem tb_ext {x y : Int32} (h : ∀ j, j < 32 → tb x j = tb y j) : x = y := by
  apply Int32.toBitVec_inj.mp
  apply BitVec.eq_of_getLsbD_eq
  exact h
theorem tb_m1 : ∀ j, j < 32 → tb (-1) j = true := by decide +kernel
theorem tb_shl1 : ∀ j, j < 32 → ∀ i, i < 32 → tb ((1 : Int32) <<< (nI j &&& 31)) i = decide (i = j) := by decide +kernel
theorem tb_not (x : Int32) {j : Nat} (h : j < 32) : tb (x ^^^ (-1)) j = !tb x j := by rw [tb_xor, tb_m1 j h]; simp
theorem tb_set (x : Int32) {j i : Nat} (hj : j < 32) (hi : i < 32) : tb (x ||| ((1 : Int32) <<< (nI j &&& 31))) i = (tb x i || decide (i = j)) := by rw [tb_or, tb_shl1 j hj i hi]
theorem tb_clr (x : Int32) {j i : Nat} (hj : j < 32) (hi : i < 32) : tb (x &&& (((1 : Int32) <<< (nI j &&& 31)) ^^^ (-1))) i = (tb x i && !decide (i = j)) := by rw [tb_and, tb_not _ hi, tb_shl1 j hj i hi]
theorem ush_k : ∀ j, j < 32 → (((nI j).toUInt32 &&& Int32.toUInt32 31).toBitVec % 32).toNat = j := by decide +kernel
theorem ush_bit (x : Int32) {j : Nat} (hj : j < 32) : ((ush x (nI j)) &&& 1) = if tb x j then 1 else 0 := by
  have h := pk_ushr x (nI j) j (ush_k j hj)
  have e : (ush x (nI j)) &&& 1 = nI ((ush x (nI j)).toBitVec.toNat % 2 ^ 1) := pk_and _ 1 (by decide)
  rw [e]
  show nI ((x.toUInt32 >>> ((nI j).toUInt32 &&& Int32.toUInt32 31)).toInt32.toBitVec.toNat % 2 ^ 1) = _
  rw [h]
  have t : tb x j = decide (x.toBitVec.toNat / 2 ^ j % 2 = 1) := by
    show x.toBitVec.getLsbD j = _
    rw [BitVec.getLsbD, Nat.testBit_eq_decide_div_mod_eq]
  rw [t, Nat.pow_one]
  have : x.toBitVec.toNat / 2 ^ j % 2 < 2 := Nat.mod_lt _ (by decide)
  rcases (show x.toBitVec.toNat / 2 ^ j % 2 = 0 ∨ x.toBitVec.toNat / 2 ^ j % 2 = 1 by omega) with e | e <;> rw [e] <;> rfl
theorem hasBit_eq (x : Int32) {j : Nat} (hj : j < 32) : vs_hasBit x (nI j) = some (tb x j) := by
  unfold vs_hasBit
  rw [ush_bit x hj]
  cases tb x j <;> simp
theorem ishr_k : ∀ j, j < 32 → ((nI j &&& 31).toBitVec.smod 32).toNat = j := by decide +kernel
/-- how many bits -/
def bcn (x : Int32) : Nat → Nat
  | 0 => 0
  | n + 1 => bcn x n + (tb x n).toNat
def bc (x : Int32) : Nat := bcn x 32
theorem bcn_le (x : Int32) : ∀ n, bcn x n ≤ n
  | 0 => Nat.le_refl 0
  | n + 1 => by have := bcn_le x n; have := Bool.toNat_le (tb x n); simp only [bcn]; omega
theorem bcn_cong {x y : Int32} : ∀ {n : Nat}, (∀ j, j < n → tb x j = tb y j) → bcn x n = bcn y n
  | 0, _ => rfl
  | n + 1, h => by simp only [bcn]; rw [bcn_cong (fun j hj => h j (by omega)), h n (by omega)]
