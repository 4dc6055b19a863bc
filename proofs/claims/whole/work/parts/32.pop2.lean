theorem tb_nat (x : Int32) (j : Nat) : tb x j = x.toBitVec.toNat.testBit j := rfl
theorem byte_bit (n i j : Nat) (hj : j < 8) : (n / 2 ^ (8 * i) % 256).testBit j = n.testBit (8 * i + j) := by
  rw [show (256 : Nat) = 2 ^ 8 from rfl, Nat.testBit_mod_two_pow, Nat.testBit_div_two_pow]
  simp [hj]
  congr 1
  omega
theorem bcn_8 (x : Int32) (i : Nat) : bcn x (8 * i + 8) = bcn x (8 * i) + pop8 (x.toBitVec.toNat / 2 ^ (8 * i) % 256) := by
  rw [pop8_bits _ (Nat.mod_lt _ (by decide))]
  rw [byte_bit _ i 0 (by decide), byte_bit _ i 1 (by decide), byte_bit _ i 2 (by decide), byte_bit _ i 3 (by decide), byte_bit _ i 4 (by decide), byte_bit _ i 5 (by decide), byte_bit _ i 6 (by decide), byte_bit _ i 7 (by decide)]
  simp only [bcn, tb_nat, Nat.add_zero]
  omega
theorem bitCount_eq (x : Int32) : vs_Integer_bitCount_0f7a4 x = some (nI (bc x)) := by
  obtain ⟨n, hn⟩ : ∃ n, n = x.toBitVec.toNat := ⟨_, rfl⟩
  have hlt : n < 2 ^ 32 := by rw [hn]; exact x.toBitVec.isLt
  have hx : x = nI n := by rw [hn]; exact nI_self x
  obtain ⟨s1, s2, s3, e1, l1, e2, e3, k1, k2, e4⟩ := pop_nat (n / 2 ^ (8 * 0) % 256) (n / 2 ^ (8 * 1) % 256) (n / 2 ^ (8 * 2) % 256) (n / 2 ^ (8 * 3) % 256) (by omega) (by omega) (by omega) (by omega)
  have en : n / 2 ^ (8 * 0) % 256 + 256 * (n / 2 ^ (8 * 1) % 256) + 65536 * (n / 2 ^ (8 * 2) % 256) + 16777216 * (n / 2 ^ (8 * 3) % 256) = n := by
    simp only [Nat.mul_zero, Nat.pow_zero, Nat.div_one, Nat.mul_one]
    have : n / 16777216 < 256 := by omega
    omega
  rw [en] at e1 l1
  have hb : bc x = pop8 (n / 2 ^ (8 * 0) % 256) + pop8 (n / 2 ^ (8 * 1) % 256) + pop8 (n / 2 ^ (8 * 2) % 256) + pop8 (n / 2 ^ (8 * 3) % 256) := by
    have h0 := bcn_8 x 0
    have h1 := bcn_8 x 1
    have h2 := bcn_8 x 2
    have h3 := bcn_8 x 3
    rw [← hn] at h0 h1 h2 h3
    show bcn x (8 * 3 + 8) = _
    rw [h3]
    show bcn x (8 * 2 + 8) + _ = _
    rw [h2]
    show bcn x (8 * 1 + 8) + _ + _ = _
    rw [h1]
    show bcn x (8 * 0 + 8) + _ + _ + _ = _
    rw [h0]
    show 0 + _ + _ + _ + _ = _
    rw [Nat.zero_add]
  have p0 := (q1_f (n / 2 ^ (8 * 0) % 256) (by omega)).2.2.2.2.2
  have p1 := (q1_f (n / 2 ^ (8 * 1) % 256) (by omega)).2.2.2.2.2
  have p2 := (q1_f (n / 2 ^ (8 * 2) % 256) (by omega)).2.2.2.2.2
  have p3 := (q1_f (n / 2 ^ (8 * 3) % 256) (by omega)).2.2.2.2.2
  unfold vs_Integer_bitCount_0f7a4
  have u1 : ush x 1 = nI (n / 2) := by rw [hx]; exact pk_ushrN hlt 1 1 (by decide)
  have t1 : x - ((ush x 1) &&& 1431655765) = nI s1 := by
    rw [u1, show (1431655765 : Int32) = nI 1431655765 from rfl, nI_and]
    rw [e1, hx]
    exact pk_sub l1
  rw [t1]
  have u2 : ush (nI s1) 2 = nI (s1 / 4) := pk_ushrN k1 2 2 (by decide)
  have t2 : ((nI s1) &&& 858993459) + ((ush (nI s1) 2) &&& 858993459) = nI s2 := by
    rw [u2, show (858993459 : Int32) = nI 858993459 from rfl, nI_and, nI_and, nI_add, e2]
  rw [t2]
  have u3 : ush (nI s2) 4 = nI (s2 / 16) := pk_ushrN (by omega) 4 4 (by decide)
  have t3 : ((nI s2) + (ush (nI s2) 4)) &&& 252645135 = nI s3 := by
    rw [u3, show (252645135 : Int32) = nI 252645135 from rfl, nI_add, nI_and, e3]
  rw [t3]
  have u4 : ush (nI s3) 8 = nI (s3 / 256) := pk_ushrN (by omega) 8 8 (by decide)
  rw [u4, nI_add]
  have u5 : ush (nI (s3 + s3 / 256)) 16 = nI ((s3 + s3 / 256) / 65536) := pk_ushrN (by omega) 16 16 (by decide)
  rw [u5, nI_add, show (63 : Int32) = nI 63 from rfl, nI_and]
  rw [show (63 : Nat) = 2 ^ 6 - 1 from rfl, Nat.and_two_pow_sub_one_eq_mod, hb]
  congr 2
  rw [e4]
  generalize pop8 (n / 2 ^ (8 * 0) % 256) = a at p0 ⊢
  generalize pop8 (n / 2 ^ (8 * 1) % 256) = b at p1 ⊢
  generalize pop8 (n / 2 ^ (8 * 2) % 256) = c at p2 ⊢
  generalize pop8 (n / 2 ^ (8 * 3) % 256) = d at p3 ⊢
  have g1 : (a + 256 * b + 65536 * c + 16777216 * d) / 256 = b + 256 * c + 65536 * d := by omega
  rw [g1]
  have g2 : (a + 256 * b + 65536 * c + 16777216 * d + (b + 256 * c + 65536 * d)) / 65536 = c + d + 256 * d := by omega
  rw [g2]
  omega
