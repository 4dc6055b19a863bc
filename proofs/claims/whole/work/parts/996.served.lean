/-! whom a set serves -/
theorem lgc_neg {x y : Int64} : lg_cmp x y < 0 ↔ x.toInt < y.toInt := by
  unfold lg_cmp
  by_cases c : x > y
  · rw [if_pos c]
    have : y.toInt < x.toInt := Int64.lt_iff_toInt_lt.mp c
    exact ⟨fun z => absurd z (by decide), fun z => by omega⟩
  · rw [if_neg c]
    have c' : ¬ (y.toInt < x.toInt) := fun z => c (Int64.lt_iff_toInt_lt.mpr z)
    by_cases c2 : x = y
    · rw [if_pos c2, c2]
      exact ⟨fun z => absurd z (by decide), fun z => by omega⟩
    · rw [if_neg c2]
      have c2' : x.toInt ≠ y.toInt := fun z => c2 (Int64.toInt_inj.mp z)
      exact ⟨fun _ => by omega, fun _ => by decide⟩
theorem lgc_le {x y : Int64} : lg_cmp x y ≤ 0 ↔ x.toInt ≤ y.toInt := by
  unfold lg_cmp
  by_cases c : x > y
  · rw [if_pos c]
    have : y.toInt < x.toInt := Int64.lt_iff_toInt_lt.mp c
    exact ⟨fun z => absurd z (by decide), fun z => by omega⟩
  · rw [if_neg c]
    have c' : ¬ (y.toInt < x.toInt) := fun z => c (Int64.lt_iff_toInt_lt.mpr z)
    by_cases c2 : x = y
    · rw [if_pos c2, c2]
      exact ⟨fun _ => by omega, fun _ => by decide⟩
    · rw [if_neg c2]
      exact ⟨fun _ => by omega, fun _ => by decide⟩
theorem lgc_ge {x y : Int64} : 0 ≤ lg_cmp x y ↔ y.toInt ≤ x.toInt := by
  have h := lgc_neg (x := x) (y := y)
  rw [← i32_nlt, h]
  omega
theorem shl64 : ∀ B, B ≤ 32 → ((1 : Int64) <<< ((nI B).toInt64 &&& 63)).toInt = 2 ^ B := by decide +kernel
theorem all_bits : ∀ B, B < 32 → ∀ j, j < 32 → tb (((1 : Int32) <<< (nI B &&& 31)) - 1) j = decide (j < B) := by decide +kernel
theorem x_all {μ ν : Mm} (h : Rel μ ν) : ∃ x, vs_Books_all μ = some x ∧ ∀ j, j < 32 → tb x j = decide (j < nB ν) := by
  have hB := g_B h.2
  unfold vs_Books_all
  rw [x_B h.1, hB.1]
  by_cases c : nB ν < 32
  · rw [if_pos (show nI (nB ν) < (32 : Int32) from nI_lt (b := 32) c (by decide))]
    exact ⟨_, rfl, all_bits (nB ν) c⟩
  · rw [if_neg (show ¬ (nI (nB ν) < (32 : Int32)) from fun z => c ((nI_ltI (b := 32) (by omega) (by decide)).mp z))]
    refine ⟨_, rfl, fun j hj => ?_⟩
    rw [tb_m1 j hj]
    have : j < nB ν := by omega
    simp [this]
theorem i64_nat {a : Int64} (h : 0 ≤ a.toInt) : (a.toBitVec.toNat : Int) = a.toInt := by
  have e : a.toInt = a.toBitVec.toInt := rfl
  rw [e] at h ⊢
  rw [BitVec.toInt_eq_toNat_cond] at h ⊢
  split at h <;> rename_i c
  · rw [if_pos c]
  · have := a.toBitVec.isLt
    omega
theorem asL_of {a : Int64} (h : 0 ≤ a.toInt) (h2 : a.toInt < 2 ^ 32) : asL a.toInt32 = a ∧ (a.toInt32.toBitVec.toNat : Int) = a.toInt := by
  have hn := i64_nat h
  have e1 : a.toInt32.toBitVec = a.toBitVec.setWidth 32 := (Int64.toBitVec_toInt32 a).trans (BitVec.signExtend_eq_setWidth_of_le _ (by decide))
  have hlt : a.toBitVec.toNat < 2 ^ 32 := by omega
  have e2 : a.toInt32.toBitVec.toNat = a.toBitVec.toNat := by
    rw [e1, BitVec.toNat_setWidth, Nat.mod_eq_of_lt hlt]
  refine ⟨?_, by rw [e2]; exact hn⟩
  apply Int64.toBitVec_inj.mp
  rw [asL_bv]
  apply BitVec.eq_of_toNat_eq
  rw [BitVec.toNat_setWidth, e2, Nat.mod_eq_of_lt (by omega)]
theorem set_in {x y : Int32} {B : Nat} (hy : ∀ j, j < 32 → tb y j = decide (j < B)) (hB : B ≤ 32) : (x &&& (y ^^^ (-1))) = 0 ↔ x.toBitVec.toNat < 2 ^ B := by
  rw [z_iff]
  constructor
  · intro h
    refine Nat.lt_pow_two_of_testBit _ (fun j hj => ?_)
    by_cases c : j < 32
    · have := h j c
      rw [tb_and, tb_not _ c, hy j c] at this
      have hn : ¬ (j < B) := by omega
      rw [← tb_nat]
      simpa [hn] using this
    · rw [← tb_nat, tb_ge _ (by omega)]
  · intro h j hj
    rw [tb_and, tb_not _ hj, hy j hj]
    by_cases c : j < B
    · simp [c]
    · have : tb x j = false := by
        rw [tb_nat]
        exact Nat.testBit_lt_two_pow (Nat.lt_of_lt_of_le h (Nat.pow_le_pow_right (by decide) (by omega)))
      rw [this]; rfl
theorem x_servedl {μ ν : Mm} (h : Rel μ ν) {x here : Int32} {v : Nat} (hh : ∀ r, r < 32 → tb here r = (decide (r < nR ν) && todB ν v r)) (lim : Int32) : ∃ u, vs_served_l62 μ lim x here 0 = some u ∧ absX u = absX μ ∧ ∀ r, r < 16 → ∀ b, b < 32 → tb (u 61 r) b = (decide (r < nR ν) && decide (b < nB ν) && tb x b && wtB ν v b lim r) := by
  have hB := g_B h.2
  have hR := g_R h.2
  unfold vs_served_l62
  obtain ⟨e, h1, h2, h3⟩ := miter_cnt (f := fun q : Int32 × Mm => vs_served_b62 q.2 lim x here q.1) (fun i (m : Mm) => (nI i, m)) 16 (fun i m => absX m = absX μ ∧ ∀ r, r < i → ∀ b, b < 32 → tb (m 61 r) b = (decide (r < nR ν) && decide (b < nB ν) && tb x b && wtB ν v b lim r)) (fun m => absX m = absX μ ∧ ∀ r, r < 16 → ∀ b, b < 32 → tb (m 61 r) b = (decide (r < nR ν) && decide (b < nB ν) && tb x b && wtB ν v b lim r)) (fun i m hi hI => by
      left
      obtain ⟨i1, i2⟩ := hI
      have hm : Rel m ν := Rel_abs i1 rfl h
      have hbit := hh i (by omega)
      by_cases c : (decide (i < nR ν) && todB ν v i) = true
      · have c' := c
        rw [Bool.and_eq_true, decide_eq_true_eq] at c'
        obtain ⟨m', w1, w2, w3⟩ := x_wantedOf hm c'.1 x lim
        refine ⟨mset m' 61 i (mkb (fun b => tb x b && !decide (wishV ν i b 0 < lim)) (nB ν)), ?_, (absX_s rfl).trans (w2.trans i1), fun r hr b hb => ?_⟩
        · show vs_served_b62 m lim x here (nI i) = _
          unfold vs_served_b62
          rw [if_neg (by exact nI_ge (b := 16) hi (by decide)), hasBit_eq _ (by omega), mbv_s, hbit, ifb_t c, w1, mbm_s, mwr_nI hi (by decide), nI_1]
        · by_cases e : r = i
          · subst e
            rw [mset_s, tb_mkb _ hB.2 b hb]
            unfold wtB
            rw [c'.2]
            simp [c'.1, Bool.and_assoc]
          · rw [mset_n e, w3 61 (by decide) (by decide) (by decide)]; exact i2 r (by omega) b hb
      · refine ⟨mset m 61 i 0, ?_, (absX_s rfl).trans i1, fun r hr b hb => ?_⟩
        · show vs_served_b62 m lim x here (nI i) = _
          unfold vs_served_b62
          rw [if_neg (by exact nI_ge (b := 16) hi (by decide)), hasBit_eq _ (by omega), mbv_s, hbit, ifb_f c, mwr_nI hi (by decide), nI_1]
        · by_cases e : r = i
          · subst e
            rw [mset_s, tb_zero]
            unfold wtB
            by_cases c1 : r < nR ν
            · have : todB ν v r = false := by
                cases q : todB ν v r
                · rfl
                · exact absurd (by rw [q]; simp [c1]) c
              simp [this]
            · simp [c1]
          · rw [mset_n e]; exact i2 r (by omega) b hb) (fun m hI => ⟨m, rfl, hI⟩) FU 0 μ (by omega) (by unfold FU; omega) ⟨rfl, fun r hr => absurd hr (Nat.not_lt_zero r)⟩
  exact ⟨e, h1, h2, h3⟩
theorem st_served : ST_served Rel := by
  intro μ ν a1 a2 a4 h
  have hB := g_B h.2
  have hR := g_R h.2
  unfold vs_served md_served
  rw [x_isVan, m_isVan, x_isMuch, in_eq, hB.1]
  simp only [mbv_s]
  by_cases c1 : ¬ (ix a1 3 = true)
  · rw [ifb_f c1, ifb_f c1]; exact ⟨-1, μ, ν, rfl, rfl, h⟩
  rw [Classical.not_not] at c1
  rw [ifb_t c1, ifb_t c1]
  obtain ⟨v, hv, rfl⟩ := ix_t c1 (by omega)
  have e0 : (0 : Int64).toInt = 0 := rfl
  have eL : (4294967295 : Int64).toInt = 4294967295 := by decide +kernel
  have h2B : (2 : Int) ^ nB ν ≤ 2 ^ 32 := by
    have : (2 : Nat) ^ nB ν ≤ 2 ^ 32 := Nat.pow_le_pow_right (by decide) hB.2
    exact_mod_cast this
  by_cases c2 : ¬ (wi a4 1 1000 = true)
  · rw [ifb_f c2, ifb_f c2]
    refine ⟨-1, μ, ν, rfl, ?_, h⟩
    split
    · rfl
    · split <;> rfl
  rw [Classical.not_not] at c2
  rw [ifb_t c2, ifb_t c2]
  by_cases c3 : lg_cmp a2 0 < 0
  · rw [if_pos c3, if_pos c3]; exact ⟨-1, μ, ν, rfl, rfl, h⟩
  rw [if_neg c3, if_neg c3]
  have hn0 : 0 ≤ a2.toInt := by rw [lgc_neg, e0] at c3; omega
  obtain ⟨y, y1, y2⟩ := x_all h
  rw [y1, mbv_s]
  by_cases c4 : a2.toInt < 2 ^ nB ν
  · have hlt : a2.toInt < 2 ^ 32 := by omega
    obtain ⟨q1, q2⟩ := asL_of hn0 hlt
    rw [if_pos (lgc_le.mpr (by rw [eL]; omega)), if_neg (show ¬ (0 ≤ lg_cmp a2 ((1 : Int64) <<< ((nI (nB ν)).toInt64 &&& 63))) from fun z => by rw [lgc_ge, shl64 _ hB.2] at z; omega), if_pos ((set_in y2 hB.2).mpr (by
      have : (a2.toInt32.toBitVec.toNat : Int) < 2 ^ nB ν := by rw [q2]; exact c4
      exact_mod_cast this))]
    generalize hx : a2.toInt32 = x at q1 q2
    obtain ⟨here, e1, e2⟩ := x_today h hv
    obtain ⟨u, u1, u2, u3⟩ := x_servedl h (x := x) e2 a4
    obtain ⟨w, w1, w2, w3⟩ := m_wishes h hv a4
    have gw := Good_abs w2 h.2
    obtain ⟨c, T, t, s, k1, k2⟩ := x_most u
    obtain ⟨c', T', hh, aa, ff, qq, j1, j2⟩ := m_paired gw x
    rw [nR_abs w2, nB_abs w2] at j2
    rw [nR_abs w2] at j1
    rw [e1, mbv_s, u1, mbv_s, k1, mbm_s, w1, mbv_s, ← q1, j1, mbm_s]
    have hF : ∀ r b, r < 16 → b < 32 → (tF u r b = true ↔ (r < nR ν ∧ (decide (b < nB ν) && tb x b) = true ∧ wF w b r = true)) := by
      intro r b hr hb
      unfold tF wF
      rw [u3 r hr b hb]
      by_cases c1 : r < nR ν
      · by_cases c2 : b < nB ν
        · rw [w3 r c1 b c2]
          cases wtB ν v b a4 r <;> simp [c1, c2, bI]
        · simp [c2]
      · simp [c1]
    have le1 : mSz c 32 ≤ mSz c' (nR ν) := cov_max j2.2.2.2 c (fun b r hb e => by
      obtain ⟨z1, z2, z3⟩ := k2.1 b r e
      obtain ⟨o1, o2, o3⟩ := (hF r b (of_decide_eq_true z2) hb).mp z3
      exact ⟨o2, o1, o3⟩) (fun b b' r _ _ e e' => k2.2.1 b b' r e e')
    have le2 : mSz c' (nR ν) ≤ mSz c 32 := cov_max k2.2.2.2 c' (fun r b hr e => by
      obtain ⟨z1, z2, z3⟩ := j2.1 r b e
      have hb : b < 32 := by rw [Bool.and_eq_true, decide_eq_true_eq] at z2; omega
      exact ⟨decide_eq_true (by omega), hb, (hF r b (by omega) hb).mpr ⟨z1, z2, z3⟩⟩) (fun r r' b _ _ e e' => j2.2.1 r r' b e e')
    rw [Nat.le_antisymm le1 le2]
    refine ⟨_, _, _, rfl, rfl, Rel_abs ((mcs_abs u t s).trans u2) ?_ h⟩
    rw [← w2]
    funext cc i
    unfold absM mq
    by_cases z1 : cc = 51
    · subst z1; rfl
    · by_cases z2 : cc = 52
      · subst z2; rfl
      · by_cases z3 : cc = 53
        · subst z3; rfl
        · by_cases z4 : cc = 54
          · subst z4; rfl
          · rw [if_neg z1, if_neg z2, if_neg z3, if_neg z4]
  · rw [if_pos (lgc_ge.mpr (by rw [shl64 _ hB.2]; omega))]
    refine ⟨-1, μ, ν, ?_, rfl, h⟩
    by_cases c5 : lg_cmp a2 4294967295 ≤ 0
    · rw [if_pos c5]
      rw [lgc_le, eL] at c5
      obtain ⟨q1, q2⟩ := asL_of hn0 (by omega)
      rw [if_neg (fun z => by
        have := (set_in y2 hB.2).mp z
        have : (a2.toInt32.toBitVec.toNat : Int) < 2 ^ nB ν := by exact_mod_cast this
        omega)]
    · rw [if_neg c5]
