/-! pairs: Hall's number -/
theorem cov_max2 {F : Nat → Nat → Bool} {P : Nat → Bool} {m : Nat} {c : Nat → Option Nat} {T : Nat → Bool} (hc : covK F P m c T) (a : Nat → Option Nat) (ha : ∀ y x, y < m → a y = some x → P x = true ∧ F x y = true) (hi : ∀ y y' x, y < m → y' < m → a y = some x → a y' = some x → y = y') : mSz a m ≤ mSz c m := by
  have key : ∀ y, y < m → (a y).isSome = true → ∃ z, z < m ∧ (c z).isSome = true ∧ ((z = y ∧ T z = true) ∨ (c z = a y ∧ T z = false)) := by
    intro y hy h
    cases e : a y with
    | none => rw [e] at h; cases h
    | some x =>
      obtain ⟨p1, p3⟩ := ha y x hy e
      rcases hc x y p1 hy p3 with ⟨q1, q2⟩ | ⟨y2, q1, q2, q3⟩
      · exact ⟨y, hy, q1, Or.inl ⟨rfl, q2⟩⟩
      · exact ⟨y2, q1, by rw [q2]; rfl, Or.inr ⟨q2, q3⟩⟩
  refine cn_inj (fun y => if h : y < m ∧ (a y).isSome = true then Classical.choose (key y h.1 h.2) else 0) m _ (fun y hy hp => ?_) (fun y y' hy hy' hp hp' e => ?_)
  · have h : y < m ∧ (a y).isSome = true := ⟨hy, hp⟩
    have s := Classical.choose_spec (key y h.1 h.2)
    simp only [dif_pos h]
    exact ⟨s.1, s.2.1⟩
  · have h : y < m ∧ (a y).isSome = true := ⟨hy, hp⟩
    have h' : y' < m ∧ (a y').isSome = true := ⟨hy', hp'⟩
    have s := Classical.choose_spec (key y h.1 h.2)
    have s' := Classical.choose_spec (key y' h'.1 h'.2)
    simp only [dif_pos h, dif_pos h'] at e
    rw [← e] at s'
    rcases s.2.2 with ⟨q1, q2⟩ | ⟨q1, q2⟩
    · rcases s'.2.2 with ⟨r1, r2⟩ | ⟨r1, r2⟩
      · rw [← q1, ← r1]
      · rw [q2] at r2; cases r2
    · rcases s'.2.2 with ⟨r1, r2⟩ | ⟨r1, r2⟩
      · rw [q2] at r2; cases r2
      · rw [q1] at r1
        cases e1 : a y with
        | none => rw [e1] at hp; cases hp
        | some x =>
          rw [e1] at r1
          exact hi y y' x hy hy' e1 r1.symm
section
variable {F : Nat → Nat → Bool} {P P' : Nat → Bool} {m : Nat} {c c' : Nat → Option Nat} {T T' : Nat → Bool}
theorem m_uniq (h : mInv F P m c T) (h' : mInv F P m c' T') : mSz c m = mSz c' m := by
  apply Nat.le_antisymm
  · exact cov_max2 h'.2.2.2 c (fun y x _ e => (h.1 y x e).2) (fun y y' x _ _ e e' => h.2.1 y y' x e e')
  · exact cov_max2 h.2.2.2 c' (fun y x _ e => (h'.1 y x e).2) (fun y y' x _ _ e e' => h'.2.1 y y' x e e')
/-- without one x -/
theorem m_drop (h : mInv F P m c T) (h' : mInv F P' m c' T') {x0 : Nat} (hP : ∀ x, P' x = (P x && !decide (x = x0))) : mSz c m ≤ mSz c' m + 1 := by
  by_cases k : ∃ y, c y = some x0
  · obtain ⟨y0, hy0⟩ := k
    have hm := (h.1 y0 x0 hy0).1
    have e := cn_dn (p := fun z => (c z).isSome) (p' := fun z => (oupd c y0 none z).isSome) (b := y0) (fun z hz => by show (oupd c y0 none z).isSome = _; rw [oupd_n hz]) (by show (c y0).isSome = true; rw [hy0]; rfl) (by show (oupd c y0 none y0).isSome = false; rw [oupd_s]; rfl) hm
    have le : mSz (oupd c y0 none) m ≤ mSz c' m := cov_max2 h'.2.2.2 _ (fun y x _ e1 => by
      have hne : y ≠ y0 := fun z => by rw [z, oupd_s] at e1; cases e1
      rw [oupd_n hne] at e1
      obtain ⟨_, b2, b3⟩ := h.1 y x e1
      have hx : x ≠ x0 := fun z => hne (h.2.1 y y0 x0 (by rw [← z]; exact e1) hy0)
      exact ⟨by rw [hP x, b2]; simp [hx], b3⟩) (fun y y' x _ _ e1 e2 => by
      have hne : y ≠ y0 := fun z => by rw [z, oupd_s] at e1; cases e1
      have hne' : y' ≠ y0 := fun z => by rw [z, oupd_s] at e2; cases e2
      rw [oupd_n hne] at e1
      rw [oupd_n hne'] at e2
      exact h.2.1 y y' x e1 e2)
    unfold mSz at *
    omega
  · have le : mSz c m ≤ mSz c' m := cov_max2 h'.2.2.2 _ (fun y x _ e1 => by
      obtain ⟨_, b2, b3⟩ := h.1 y x e1
      have hx : x ≠ x0 := fun z => k ⟨y, by rw [← z]; exact e1⟩
      exact ⟨by rw [hP x, b2]; simp [hx], b3⟩) (fun y y' x _ _ e1 e2 => h.2.1 y y' x e1 e2)
    omega
/-- with one x of the cover taken away -/
theorem m_take (h : mInv F P m c T) (h' : mInv F P' m c' T') {x0 y0 : Nat} (hP : ∀ x, P' x = (P x && !decide (x = x0))) (hy : c y0 = some x0) (hT : T y0 = false) : mSz c' m + 1 = mSz c m := by
  have hm := (h.1 y0 x0 hy).1
  have e := cn_dn (p := fun z => (c z).isSome) (p' := fun z => (oupd c y0 none z).isSome) (b := y0) (fun z hz => by show (oupd c y0 none z).isSome = _; rw [oupd_n hz]) (by show (c y0).isSome = true; rw [hy]; rfl) (by show (oupd c y0 none y0).isSome = false; rw [oupd_s]; rfl) hm
  have inv : mInv F P' m (oupd c y0 none) T := by
    obtain ⟨m1, m2, mt, mc⟩ := h
    refine ⟨fun y x e1 => ?_, fun y y' x e1 e2 => ?_, fun y ht => ?_, fun x y hx hym hF => ?_⟩
    · have hne : y ≠ y0 := fun z => by rw [z, oupd_s] at e1; cases e1
      rw [oupd_n hne] at e1
      obtain ⟨b1, b2, b3⟩ := m1 y x e1
      have hx : x ≠ x0 := fun z => hne (m2 y y0 x0 (by rw [← z]; exact e1) hy)
      exact ⟨b1, by rw [hP x, b2]; simp [hx], b3⟩
    · have hne : y ≠ y0 := fun z => by rw [z, oupd_s] at e1; cases e1
      have hne' : y' ≠ y0 := fun z => by rw [z, oupd_s] at e2; cases e2
      rw [oupd_n hne] at e1
      rw [oupd_n hne'] at e2
      exact m2 y y' x e1 e2
    · have hne : y ≠ y0 := fun z => by rw [z, hT] at ht; cases ht
      rw [oupd_n hne]; exact mt y ht
    · rw [hP x, Bool.and_eq_true] at hx
      have hx0 : x ≠ x0 := by simpa using hx.2
      rcases mc x y hx.1 hym hF with ⟨q1, q2⟩ | ⟨y2, q1, q2, q3⟩
      · have hne : y ≠ y0 := fun z => by rw [z, hT] at q2; cases q2
        exact Or.inl ⟨by rw [oupd_n hne]; exact q1, q2⟩
      · have hne : y2 ≠ y0 := fun z => by rw [z, hy] at q2; exact hx0 (Option.some.inj q2).symm
        exact Or.inr ⟨y2, q1, by rw [oupd_n hne]; exact q2, q3⟩
  have u := m_uniq h' inv
  unfold mSz at *
  omega
end
/-! bits of a choice -/
def clN (m k : Nat) : Nat := if m.testBit k = true then m ^^^ 2 ^ k else m
theorem clN_b (m k j : Nat) : (clN m k).testBit j = (m.testBit j && !decide (j = k)) := by
  unfold clN
  by_cases c : m.testBit k = true
  · rw [if_pos c, Nat.testBit_xor, Nat.testBit_two_pow]
    by_cases e : j = k
    · subst e; simp [c]
    · have : ¬ (k = j) := fun z => e z.symm
      simp [this, e]
  · rw [if_neg c]
    by_cases e : j = k
    · subst e
      have c' : m.testBit j = false := by simpa using c
      simp [c']
    · simp [e]
theorem clN_lt {m k : Nat} (h : m.testBit k = true) : clN m k < m := by
  have e : clN m k = m &&& clN m k := Nat.eq_of_testBit_eq (fun j => by
    rw [Nat.testBit_and, clN_b]
    cases m.testBit j <;> simp)
  have le : m &&& clN m k ≤ m := Nat.and_le_left
  have ne : clN m k ≠ m := fun z => by
    have : (clN m k).testBit k = m.testBit k := by rw [z]
    rw [clN_b, h] at this
    simp at this
  omega
theorem clN_I {m k : Nat} (hm : m < 2 ^ 31) (hk : k < 32) : (nI m &&& (((1 : Int32) <<< (nI k &&& 31)) ^^^ (-1))) = nI (clN m k) := by
  have hle : clN m k ≤ m := by
    by_cases c : m.testBit k = true
    · exact Nat.le_of_lt (clN_lt c)
    · unfold clN; rw [if_neg c]; exact Nat.le_refl _
  refine tb_ext (fun j hj => ?_)
  rw [tb_clr _ hk hj, tb_nI hm, tb_nI (by omega), clN_b]
theorem p2_12 : ∀ N, N ≤ 12 → ((1 : Int32) <<< (nI N &&& 31)) = nI (2 ^ N) ∧ ((1 : Int32) <<< (nI N &&& 31)) - 1 = nI (2 ^ N - 1) ∧ 2 ^ N ≤ 4096 := by decide +kernel
theorem sub_iff {x y : Int32} : (x &&& y) = y ↔ (y &&& (x ^^^ (-1))) = 0 := by
  constructor
  · intro h
    refine z_iff.mpr (fun j hj => ?_)
    have e : tb (x &&& y) j = tb y j := by rw [h]
    rw [tb_and] at e
    rw [tb_and, tb_not _ hj]
    cases c1 : tb x j <;> cases c2 : tb y j <;> simp_all
  · intro h
    refine tb_ext (fun j hj => ?_)
    have e := z_iff.mp h j hj
    rw [tb_and, tb_not _ hj] at e
    rw [tb_and]
    cases c1 : tb x j <;> cases c2 : tb y j <;> simp_all
theorem asL_m2 (x : Int32) : asL x ≠ -2 := by
  intro e
  have e2 : (asL x).toBitVec.getLsbD 40 = (-2 : Int64).toBitVec.getLsbD 40 := by rw [e]
  rw [asL_bv, BitVec.getLsbD_setWidth, BitVec.getLsbD_of_ge x.toBitVec 40 (by decide)] at e2
  have : (-2 : Int64).toBitVec.getLsbD 40 = true := by decide +kernel
  rw [this] at e2
  simp at e2
theorem m_bits {m : Nat} (hm : m < 2 ^ 16) : md_bits (nI m) = some (nI (cn (fun k => m.testBit k) 16)) := by
  unfold md_bits md_bits_l4
  rw [sum_loop (f := md_bits_b4 (nI m)) (n := 16) (fun k => if m.testBit k = true then 1 else 0) (by decide) (fun i a hi => by
    unfold md_bits_b4
    rw [if_neg (by exact nI_ge (b := 16) hi (by decide)), tb_sshr _ (by omega), tb_nI (by omega)]) (fun a => rfl), mbv_s, sm_cn]
