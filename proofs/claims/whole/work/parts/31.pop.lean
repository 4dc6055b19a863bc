/-! Integer.bitCount counts the bits -/
theorem nI_self (x : Int32) : x = nI x.toBitVec.toNat := by
  apply Int32.toBitVec_inj.mp
  show x.toBitVec = BitVec.ofNat 32 x.toBitVec.toNat
  simp
theorem nI_and (a b : Nat) : nI a &&& nI b = nI (a &&& b) := by
  apply Int32.toBitVec_inj.mp
  show BitVec.ofNat 32 a &&& BitVec.ofNat 32 b = BitVec.ofNat 32 (a &&& b)
  apply BitVec.eq_of_getLsbD_eq
  intro i hi
  simp [BitVec.getLsbD_ofNat, Nat.testBit_and, hi]
theorem and_byte (k a b r s : Nat) (hr : r < 2 ^ k) (hs : s < 2 ^ k) : (2 ^ k * a + r) &&& (2 ^ k * b + s) = 2 ^ k * (a &&& b) + (r &&& s) := by
  apply Nat.eq_of_testBit_eq
  intro j
  rw [Nat.testBit_and, Nat.testBit_two_pow_mul_add a hr, Nat.testBit_two_pow_mul_add b hs, Nat.testBit_two_pow_mul_add (a &&& b) (Nat.lt_of_le_of_lt Nat.and_le_left hr)]
  split
  · rw [Nat.testBit_and]
  · rw [Nat.testBit_and]
def q1 (r : Nat) : Nat := r - (r / 2 &&& 85)
def q2 (r : Nat) : Nat := (r &&& 51) + (r / 4 &&& 51)
def q3 (r : Nat) : Nat := (r + r / 16) &&& 15
def pop8 (r : Nat) : Nat := q3 (q2 (q1 r))
theorem q1_f : ∀ r, r < 256 → q1 r < 256 ∧ (r / 2 &&& 85) ≤ r ∧ q2 (q1 r) < 256 ∧ q2 (q1 r) / 16 ≤ 4 ∧ q2 (q1 r) % 16 ≤ 4 ∧ pop8 r ≤ 8 := by decide +kernel
theorem pop8_bits : ∀ r, r < 256 → pop8 r = (r.testBit 0).toNat + (r.testBit 1).toNat + (r.testBit 2).toNat + (r.testBit 3).toNat + (r.testBit 4).toNat + (r.testBit 5).toNat + (r.testBit 6).toNat + (r.testBit 7).toNat := by decide +kernel
theorem m1_f : ∀ r, r < 256 → ∀ c, c < 2 → (128 * c + r / 2) &&& 85 = r / 2 &&& 85 := by decide +kernel
theorem m2_f : ∀ r, r < 256 → ∀ c, c < 4 → (64 * c + r / 4) &&& 51 = r / 4 &&& 51 := by decide +kernel
theorem m3_f : ∀ h, h ≤ 4 → ∀ l, l ≤ 4 → ∀ a, a ≤ 4 → (16 * h + l + 16 * a + h) &&& 15 = (16 * h + l + (16 * h + l) / 16) &&& 15 := by decide +kernel
/-- one byte more: the three steps go byte by byte -/
theorem st1 (a r M : Nat) (hr : r < 256) (ha : (a / 2 &&& M) ≤ a) : (256 * a + r) - ((256 * a + r) / 2 &&& (256 * M + 85)) = 256 * (a - (a / 2 &&& M)) + q1 r ∧ ((256 * a + r) / 2 &&& (256 * M + 85)) ≤ 256 * a + r := by
  have e : (256 * a + r) / 2 = 2 ^ 8 * (a / 2) + (128 * (a % 2) + r / 2) := by omega
  have h := and_byte 8 (a / 2) M (128 * (a % 2) + r / 2) 85 (by omega) (by decide)
  rw [e]
  rw [show 256 * M + 85 = 2 ^ 8 * M + 85 from rfl, h, m1_f r hr (a % 2) (Nat.mod_lt _ (by decide))]
  have := (q1_f r hr).2.1
  unfold q1
  omega
theorem st2 (a r M : Nat) (hr : r < 256) : ((256 * a + r) &&& (256 * M + 51)) + ((256 * a + r) / 4 &&& (256 * M + 51)) = 256 * ((a &&& M) + (a / 4 &&& M)) + q2 r := by
  have e : (256 * a + r) / 4 = 2 ^ 8 * (a / 4) + (64 * (a % 4) + r / 4) := by omega
  have h := and_byte 8 (a / 4) M (64 * (a % 4) + r / 4) 51 (by omega) (by decide)
  have h2 := and_byte 8 a M r 51 (by omega) (by decide)
  rw [e]
  rw [show 256 * M + 51 = 2 ^ 8 * M + 51 from rfl, h, show 256 * a + r = 2 ^ 8 * a + r from rfl, h2, m2_f r hr (a % 4) (Nat.mod_lt _ (by decide))]
  unfold q2
  omega
theorem st3 (a r M : Nat) (hr : r / 16 ≤ 4) (hr2 : r % 16 ≤ 4) (ha : a % 16 ≤ 4) : ((256 * a + r) + (256 * a + r) / 16) &&& (256 * M + 15) = 256 * ((a + a / 16) &&& M) + q3 r := by
  have e : (256 * a + r) + (256 * a + r) / 16 = 2 ^ 8 * (a + a / 16) + (r + 16 * (a % 16) + r / 16) := by omega
  have h := and_byte 8 (a + a / 16) M (r + 16 * (a % 16) + r / 16) 15 (by omega) (by decide)
  have h3 := m3_f (r / 16) hr (r % 16) hr2 (a % 16) ha
  rw [e]
  rw [show 256 * M + 15 = 2 ^ 8 * M + 15 from rfl, h]
  have e2 : 16 * (r / 16) + r % 16 = r := by omega
  rw [e2] at h3
  rw [show r + 16 * (a % 16) + r / 16 = r + 16 * (a % 16) + r / 16 from rfl, h3]
  rfl
theorem pop_nat (r0 r1 r2 r3 : Nat) (h0 : r0 < 256) (h1 : r1 < 256) (h2 : r2 < 256) (h3 : r3 < 256) :
    ∃ s1 s2 s3, s1 = (r0 + 256 * r1 + 65536 * r2 + 16777216 * r3) - ((r0 + 256 * r1 + 65536 * r2 + 16777216 * r3) / 2 &&& 1431655765) ∧ ((r0 + 256 * r1 + 65536 * r2 + 16777216 * r3) / 2 &&& 1431655765) ≤ r0 + 256 * r1 + 65536 * r2 + 16777216 * r3 ∧ s2 = (s1 &&& 858993459) + (s1 / 4 &&& 858993459) ∧ s3 = (s2 + s2 / 16) &&& 252645135 ∧ s1 < 2 ^ 32 ∧ s2 < 2 ^ 31 ∧ s3 = pop8 r0 + 256 * pop8 r1 + 65536 * pop8 r2 + 16777216 * pop8 r3 := by
  have f0 := q1_f r0 h0
  have f1 := q1_f r1 h1
  have f2 := q1_f r2 h2
  have f3 := q1_f r3 h3
  have z1 : (0 / 2 &&& 0) ≤ 0 := by decide
  have a3 := st1 0 r3 0 h3 z1
  have a2 := st1 (256 * 0 + r3) r2 (256 * 0 + 85) h2 a3.2
  have a1 := st1 (256 * (256 * 0 + r3) + r2) r1 (256 * (256 * 0 + 85) + 85) h1 a2.2
  have a0 := st1 (256 * (256 * (256 * 0 + r3) + r2) + r1) r0 (256 * (256 * (256 * 0 + 85) + 85) + 85) h0 a1.2
  rw [a1.1, a2.1, a3.1] at a0
  have en : 256 * (256 * (256 * (256 * 0 + r3) + r2) + r1) + r0 = r0 + 256 * r1 + 65536 * r2 + 16777216 * r3 := by omega
  rw [en] at a0
  have b3 := st2 0 (q1 r3) 0 f3.1
  have b2 := st2 (256 * 0 + q1 r3) (q1 r2) (256 * 0 + 51) f2.1
  have b1 := st2 (256 * (256 * 0 + q1 r3) + q1 r2) (q1 r1) (256 * (256 * 0 + 51) + 51) f1.1
  have b0 := st2 (256 * (256 * (256 * 0 + q1 r3) + q1 r2) + q1 r1) (q1 r0) (256 * (256 * (256 * 0 + 51) + 51) + 51) f0.1
  rw [b1, b2, b3] at b0
  have c3 := st3 0 (q2 (q1 r3)) 0 f3.2.2.2.1 f3.2.2.2.2.1 (by decide)
  have c2 := st3 (256 * 0 + q2 (q1 r3)) (q2 (q1 r2)) (256 * 0 + 15) f2.2.2.2.1 f2.2.2.2.2.1 (by omega)
  have c1 := st3 (256 * (256 * 0 + q2 (q1 r3)) + q2 (q1 r2)) (q2 (q1 r1)) (256 * (256 * 0 + 15) + 15) f1.2.2.2.1 f1.2.2.2.2.1 (by omega)
  have c0 := st3 (256 * (256 * (256 * 0 + q2 (q1 r3)) + q2 (q1 r2)) + q2 (q1 r1)) (q2 (q1 r0)) (256 * (256 * (256 * 0 + 15) + 15) + 15) f0.2.2.2.1 f0.2.2.2.2.1 (by omega)
  rw [c1, c2, c3] at c0
  refine ⟨_, _, _, rfl, a0.2, rfl, rfl, ?_, ?_, ?_⟩
  · have := a0.1
    simp only [Nat.zero_div, Nat.and_self, Nat.sub_self, Nat.mul_zero, Nat.zero_add] at this
    rw [this]
    omega
  · have e1 := a0.1
    simp only [Nat.zero_div, Nat.and_self, Nat.sub_self, Nat.mul_zero, Nat.zero_add] at e1
    simp only [Nat.zero_div, Nat.and_self, Nat.sub_self, Nat.mul_zero, Nat.zero_add] at b0
    rw [e1]
    rw [b0]
    omega
  · have e1 := a0.1
    simp only [Nat.zero_div, Nat.and_self, Nat.sub_self, Nat.mul_zero, Nat.zero_add] at e1
    simp only [Nat.zero_div, Nat.and_self, Nat.sub_self, Nat.mul_zero, Nat.zero_add] at b0
    simp only [Nat.zero_div, Nat.and_self, Nat.sub_self, Nat.mul_zero, Nat.zero_add] at c0
    rw [e1, b0, c0]
    unfold pop8
    omega
