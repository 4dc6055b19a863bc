/-! the tape -/
theorem tb_255 : ∀ j, j < 32 → tb 255 j = decide (j < 8) := by decide +kernel
theorem tb_ush (x : Int32) {j : Nat} (hj : j < 32) (i : Nat) : tb (ush x (nI j)) i = tb x (j + i) := by
  have h := pk_ushr x (nI j) j (ush_k j hj)
  rw [tb_nat, tb_nat]
  show ((x.toUInt32 >>> ((nI j).toUInt32 &&& Int32.toUInt32 31)).toInt32.toBitVec.toNat).testBit i = _
  rw [h, Nat.testBit_div_two_pow, Nat.add_comm]
theorem tb_sr (x : Int32) {j i : Nat} (hj : j < 32) (hi : j + i < 32) : tb (x >>> (nI j &&& 31)) i = tb x (j + i) := by
  unfold tb
  have e3 : (x >>> (nI j &&& 31)).toBitVec = x.toBitVec.sshiftRight' ((nI j &&& 31).toBitVec.smod 32) := rfl
  have h32 : i < 32 := by omega
  rw [e3, BitVec.sshiftRight', ishr_k j hj, BitVec.getLsbD_sshiftRight]
  simp [hi, h32]
theorem bp_b (x : Int32) : x.toInt8.toInt32 &&& 255 = x &&& 255 := by
  apply Int32.toBitVec_inj.mp
  rw [Int32.toBitVec_and, Int32.toBitVec_and, Int8.toBitVec_toInt32, Int32.toBitVec_toInt8]
  apply BitVec.eq_of_getLsbD_eq
  intro i hi
  rw [BitVec.getLsbD_and, BitVec.getLsbD_and]
  have hm : ∀ i < 32, 8 ≤ i → (255 : Int32).toBitVec.getLsbD i = false := by decide
  rcases Nat.lt_or_ge i 8 with z | z
  · rw [BitVec.getLsbD_signExtend, BitVec.getLsbD_signExtend, if_pos z, if_pos hi]
    simp only [z, hi, decide_true, Bool.true_and]
  · rw [hm i hi z]; simp
theorem byte_eq (a : Int32) {k : Nat} (hk : k < 4) : (ush a (nI (8 * k)) &&& 255) = (vp_nar .byte ((a >>> (nI (8 * k) &&& 31)).toInt8.toInt32)) &&& 255 := by
  rw [pk_vb, bp_b]
  refine tb_ext (fun j hj => ?_)
  rw [tb_and, tb_and, tb_255 j hj]
  by_cases c : j < 8
  · rw [tb_ush a (by omega), tb_sr a (by omega) (by omega)]
  · simp [c]
def tpX (μ : Mm) (n : Nat) (x : Int32) : Mm := mset (mset μ 14 n x) 1 1 (nI (n + 1))
def tpM (ν : Mm) (n : Nat) (y : Int32) : Mm := mset (mset ν 30 n y) 0 38 (nI (n + 1))
theorem tp_rel {μ ν : Mm} (h : Rel μ ν) {n : Nat} {x y : Int32} (hn : n < 400) (hN : ν 0 38 = nI n) (e : x = y &&& 255) : Rel (tpX μ n x) (tpM ν n y) := by
  obtain ⟨⟨⟨n1, n2, n3, n4, n5, n6, n7, n8, n9⟩, rb, rs, rr, rv, ra, hpv, hhad, hkind, hout, hrd, htold, hput, hlost, hask, htape, hlaw⟩, ⟨⟨g1, g2, g3, g4, g5, g6, g7⟩, gb, gsh, gst, grd, gas, grest⟩⟩ := h
  refine ⟨⟨⟨n1, n2, n3, n4, n5, n6, n7, rfl, n9⟩, rb, rs, rr, rv, ra, hpv, hhad, hkind, hout, hrd, htold, hput, hlost, hask, ?_, hlaw⟩, ⟨⟨g1, g2, g3, g4, g5, ⟨n + 1, by omega, rfl⟩, g7⟩, gb, gsh, gst, grd, gas, grest⟩⟩
  intro i hi
  have hi' : i < n + 1 := by
    have q : (tpM ν n y 0 38) = nI (n + 1) := rfl
    rw [q, nI_clamp (by omega)] at hi
    exact hi
  show upd (μ 14) n x i = upd (ν 30) n y i &&& 255
  by_cases c : i = n
  · subst c; rw [upd_s, upd_s, e]
  · rw [upd_n c, upd_n c]
    exact htape i (by rw [hN, nI_clamp (by omega)]; omega)
def shX (i : Nat) : Int32 := nI (32 - 8 * i) - 8
def shM (i : Nat) : Int32 := nI (4 - i) - 1
theorem feed1 {μ ν : Mm} (h : Rel μ ν) {n : Nat} (hn : n + 4 ≤ 400) (hN : ν 0 38 = nI n) (a : Int32) : ∃ u w, vs_Tape_append μ a = some u ∧ md_types ν a = some w ∧ Rel u w ∧ w 0 38 = nI (n + 4) := by
  unfold vs_Tape_append md_types vs_Tape_append_l3 md_types_l2
  obtain ⟨e, e', h1, h2, h3, h4⟩ := lock_loop (f := fun q : Int32 × Mm => vs_Tape_append_b3 q.2 a q.1) (f' := fun q : Int32 × Mm => md_types_b2 q.2 a q.1) (A := Mm × Mm) (fun i m => (shX i, m.1)) (fun i m => (shM i, m.2)) 4 (fun i m => Rel m.1 m.2 ∧ m.2 0 38 = nI (n + i)) (fun e e' => Rel e e' ∧ e' 0 38 = nI (n + 4)) (fun i m hi hI => by
      obtain ⟨u, w⟩ := m
      obtain ⟨hI1, hI2⟩ := hI
      have hI1' : Rel u w := hI1
      have hI2' : w 0 38 = nI (n + i) := hI2
      have xN : u 1 1 = nI (n + i) := by rw [hI1'.1.1.2.2.2.2.2.2.2.1, hI2']
      have ex : shX i = nI (8 * (3 - i)) := by rcases (show i = 0 ∨ i = 1 ∨ i = 2 ∨ i = 3 by omega) with rfl | rfl | rfl | rfl <;> decide
      have em : shM i = nI (3 - i) := by rcases (show i = 0 ∨ i = 1 ∨ i = 2 ∨ i = 3 by omega) with rfl | rfl | rfl | rfl <;> decide
      have e8 : (8 : Int32) * shM i = nI (8 * (3 - i)) := by rw [em]; exact pk_mul 8 (3 - i)
      have ex' : shX i + -8 = shX (i + 1) := by rcases (show i = 0 ∨ i = 1 ∨ i = 2 ∨ i = 3 by omega) with rfl | rfl | rfl | rfl <;> decide
      have em' : shM i + -1 = shM (i + 1) := by rcases (show i = 0 ∨ i = 1 ∨ i = 2 ∨ i = 3 by omega) with rfl | rfl | rfl | rfl <;> decide
      have nx : ¬ (shX i < 0) := by rcases (show i = 0 ∨ i = 1 ∨ i = 2 ∨ i = 3 by omega) with rfl | rfl | rfl | rfl <;> decide
      have nm : ¬ (shM i < 0) := by rcases (show i = 0 ∨ i = 1 ∨ i = 2 ∨ i = 3 by omega) with rfl | rfl | rfl | rfl <;> decide
      refine ⟨(tpX u (n + i) (ush a (nI (8 * (3 - i))) &&& 255), tpM w (n + i) (vp_nar .byte ((a >>> (nI (8 * (3 - i)) &&& 31)).toInt8.toInt32))), ?_, ?_, tp_rel hI1' (by omega) hI2' (byte_eq a (by omega)), rfl⟩
      · show vs_Tape_append_b3 u a (shX i) = some (.inl (shX (i + 1), tpX u (n + i) (ush a (nI (8 * (3 - i))) &&& 255)))
        unfold vs_Tape_append_b3
        rw [if_neg nx, xN, if_neg (by exact nI_ge (b := 400) (by omega) (by decide)), mwr_nI (by omega) (by decide), mst_s, ex', ex, mset_oo (by decide), xN, nI_1]
        rfl
      · show md_types_b2 w a (shM i) = some (.inl (shM (i + 1), tpM w (n + i) (vp_nar .byte ((a >>> (nI (8 * (3 - i)) &&& 31)).toInt8.toInt32))))
        unfold md_types_b2
        rw [if_neg nm, hI2', mwr_nI (by omega) (by decide), mst_s, em', e8, mset_oo (by decide), hI2', nI_1]
        rfl) (fun m hI => by
      obtain ⟨u, w⟩ := m
      exact ⟨u, w, rfl, rfl, hI.1, hI.2⟩) 4 0 FU (μ, ν) (by omega) (by unfold FU; omega) ⟨h, hN⟩
  have h1' : miter (fun q : Int32 × Mm => vs_Tape_append_b3 q.2 a q.1) FU (24, μ) = some e := h1
  have h2' : miter (fun q : Int32 × Mm => md_types_b2 q.2 a q.1) FU (3, ν) = some e' := h2
  rw [h1', h2', mbv_s, mbv_s]
  exact ⟨e, e', rfl, rfl, h3, h4⟩
theorem st_feed : ST_feed Rel := by
  intro μ ν a1 a2 a3 a4 a5 h
  unfold vs_feed md_feed
  obtain ⟨n, n1, n2⟩ := h.2.1.2.2.2.2.2.1
  have xN : μ 1 1 = nI n := by rw [h.1.1.2.2.2.2.2.2.2.1, n2]
  rw [xN, n2, show nI n + (20 : Int32) = nI (n + 20) from nI_add n 20]
  by_cases c : n ≤ 380
  · rw [if_pos (show nI n ≤ (380 : Int32) from nI_le (b := 380) c (by decide)), if_pos (show nI (n + 20) ≤ (400 : Int32) from nI_le (b := 400) (by omega) (by decide))]
    obtain ⟨u1, w1, p1, q1, r1, s1⟩ := feed1 h (n := n) (by omega) n2 a1
    obtain ⟨u2, w2, p2, q2, r2, s2⟩ := feed1 r1 (n := n + 4) (by omega) s1 a2
    obtain ⟨u3, w3, p3, q3, r3, s3⟩ := feed1 r2 (n := n + 4 + 4) (by omega) s2 a3
    obtain ⟨u4, w4, p4, q4, r4, s4⟩ := feed1 r3 (n := n + 4 + 4 + 4) (by omega) s3 a4
    obtain ⟨u5, w5, p5, q5, r5, s5⟩ := feed1 r4 (n := n + 4 + 4 + 4 + 4) (by omega) s4 a5
    rw [p1, q1, mbv_s, mbv_s, p2, q2, mbv_s, mbv_s, p3, q3, mbv_s, mbv_s, p4, q4, mbv_s, mbv_s, p5, q5, mbv_s, mbv_s]
    refine ⟨u5 1 1, u5, w5, rfl, ?_, r5⟩
    rw [r5.1.1.2.2.2.2.2.2.2.1]
  · rw [if_neg (show ¬ (nI n ≤ (380 : Int32)) from fun z => c ((nI_leI (b := 380) (by omega) (by decide)).mp z)), if_neg (show ¬ (nI (n + 20) ≤ (400 : Int32)) from fun z => by have := (nI_leI (a := n + 20) (b := 400) (by omega) (by decide)).mp z; omega)]
    exact ⟨-1, μ, ν, rfl, rfl, h⟩
