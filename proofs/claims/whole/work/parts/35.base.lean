/-! the start, and small words of both sides -/
def wi (a lo hi : Int32) : Bool := decide (lo ≤ a) && decide (a ≤ hi)
theorem i32_nlt {a b : Int32} : ¬ a < b ↔ b ≤ a := by rw [Int32.lt_iff_toInt_lt, Int32.le_iff_toInt_le]; omega
theorem i32_nle {a b : Int32} : ¬ a ≤ b ↔ b < a := by rw [Int32.lt_iff_toInt_lt, Int32.le_iff_toInt_le]; omega
theorem within_eq (a lo hi : Int32) : vs_within a lo hi = some (wi a lo hi) := by
  unfold vs_within wi
  by_cases h1 : a < lo
  · rw [if_pos h1]; have := i32_nle.mpr h1; simp [this]
  · rw [if_neg h1]
    have e1 := i32_nlt.mp h1
    by_cases h2 : hi < a
    · rw [if_pos h2]; have := i32_nle.mpr h2; simp [this]
    · rw [if_neg h2]; have := i32_nlt.mp h2; simp [e1, this]
theorem in_eq (a lo hi : Int32) : md_in a lo hi = some (wi a lo hi) := by
  unfold md_in wi
  by_cases h1 : a < lo
  · rw [if_pos h1]; have := i32_nle.mpr h1; simp [this]
  · rw [if_neg h1]
    have e1 := i32_nlt.mp h1
    by_cases h2 : hi < a
    · rw [if_pos h2]; have := i32_nle.mpr h2; simp [this]
    · rw [if_neg h2]; have := i32_nlt.mp h2; simp [e1, this]
/-- an index -/
def ix (a : Int32) (n : Nat) : Bool := decide (0 ≤ a.toInt) && decide (a.toInt < n)
theorem ix_t {a : Int32} {n : Nat} (h : ix a n = true) (hn : n < 2 ^ 31) : ∃ k, k < n ∧ a = nI k := by
  unfold ix at h
  simp only [Bool.and_eq_true, decide_eq_true_eq] at h
  obtain ⟨k, hk, e⟩ := nI_of (x := a) (by rw [Int32.lt_iff_toInt_lt]; simp; omega)
  subst e
  rw [nI_toInt hk] at h
  exact ⟨k, by omega, rfl⟩
theorem ix_n {k n : Nat} (h : k < n) (hn : n < 2 ^ 31) : ix (nI k) n = true := by
  unfold ix
  rw [nI_toInt (by omega)]
  simp
  omega
theorem ix_wi {a : Int32} {n : Nat} (hn : n < 2 ^ 30) : wi a 0 (nI n - 1) = ix a n := by
  unfold wi ix
  have e : (nI n - 1).toInt = (n : Int) - 1 := pk_sub_toInt (b := 1) (by omega) (by decide)
  have e0 : (0 : Int32).toInt = 0 := rfl
  rw [Bool.eq_iff_iff]
  simp only [Bool.and_eq_true, decide_eq_true_eq, Int32.le_iff_toInt_le, e, e0]
  omega
theorem ix_wi2 {a : Int32} {n : Nat} (m : Int32) (hm : m.toInt = (n : Int) - 1) : wi a 0 m = ix a n := by
  unfold wi ix
  have e0 : (0 : Int32).toInt = 0 := rfl
  rw [Bool.eq_iff_iff]
  simp only [Bool.and_eq_true, decide_eq_true_eq, Int32.le_iff_toInt_le, hm, e0]
  omega
theorem wi_r {a : Int32} {lo hi : Nat} (h : wi a (nI lo) (nI hi) = true) (hh : hi < 2 ^ 31) (hl : lo < 2 ^ 31) : ∃ k, lo ≤ k ∧ k ≤ hi ∧ a = nI k := by
  unfold wi at h
  simp only [Bool.and_eq_true, decide_eq_true_eq] at h
  obtain ⟨k, hk, e⟩ := nI_of (x := a) (fun q => by
    have := h.1
    rw [Int32.le_iff_toInt_le, nI_toInt hl] at this
    rw [Int32.lt_iff_toInt_lt] at q
    have e0 : (0 : Int32).toInt = 0 := rfl
    omega)
  subst e
  rw [nI_leI hl hk, nI_leI hk hh] at h
  exact ⟨k, h.1, h.2, rfl⟩
theorem isX_eq {a m : Int32} {n : Nat} (hm : m = nI n) (hn : n < 2 ^ 31) : (if a < 0 then some false else if m ≤ a then some false else some true : Option Bool) = some (ix a n) := by
  subst hm
  unfold ix
  have e0 : (0 : Int32).toInt = 0 := rfl
  by_cases h1 : a < 0
  · rw [if_pos h1]
    rw [Int32.lt_iff_toInt_lt, e0] at h1
    have : ¬ 0 ≤ a.toInt := by omega
    simp [this]
  · rw [if_neg h1]
    rw [Int32.lt_iff_toInt_lt, e0] at h1
    by_cases h2 : nI n ≤ a
    · rw [if_pos h2]
      rw [Int32.le_iff_toInt_le, nI_toInt hn] at h2
      have : ¬ a.toInt < (n : Int) := by omega
      simp [this]
    · rw [if_neg h2]
      rw [Int32.le_iff_toInt_le, nI_toInt hn] at h2
      have h3 : 0 ≤ a.toInt := by omega
      have h4 : a.toInt < (n : Int) := by omega
      simp [h3, h4]
theorem gI_n {x : Int32} {n : Nat} (h : gI x n) (hn : n < 2 ^ 31) : x = nI x.toNatClampNeg ∧ x.toNatClampNeg ≤ n := by
  obtain ⟨k, hk, rfl⟩ := h
  rw [nI_clamp (by omega)]
  exact ⟨rfl, hk⟩
theorem bI0 (b : Bool) : bI b = 0 ↔ b = false := by cases b <;> simp [bI]
theorem mbv_s {α β : Type} (v : β) (K : β → Option α) : mbv (some v) K = K v := rfl
theorem mbm_s {α β : Type} (v : β) (u : Mm) (K : β → Mm → Option α) : mbm (some (v, u)) K = K v u := rfl
theorem mst_s {α : Type} (μ : Mm) (k j : Nat) (v : Int32) (K : Mm → Option α) : mst μ k j v K = K (mset μ k j v) := rfl
theorem rel0 (κ : Mm) (h1 : ∀ i, i < 512 → κ 0 i = -1) (h2 : ∀ i, i < 3 → κ 1 i = 30) : Rel (mx0 κ) mm0 := by
  refine ⟨⟨⟨rfl, rfl, rfl, rfl, rfl, rfl, rfl, rfl, rfl⟩, ⟨rfl, rfl, rfl, rfl, rfl, rfl, rfl, rfl⟩, ⟨rfl, rfl, rfl, rfl, rfl, rfl, rfl⟩, ⟨rfl, rfl, rfl, rfl, rfl⟩, ⟨fun v hv => ?_, rfl⟩, ⟨rfl, rfl, rfl, rfl⟩, fun s hs => ?_, ⟨fun b _ r _ => ?_, fun r _ b _ => ?_⟩, fun k _ b _ => ?_, fun r _ => rfl, fun s _ r _ => ?_, fun v _ d _ s _ => ?_, fun v _ d _ s _ => ?_, fun v _ d _ => Iff.rfl, ⟨fun r hr b hb => ?_, rfl⟩, fun i hi => ?_, ⟨rfl, 0, by decide, rfl, fun q hq => absurd hq (by omega)⟩⟩, ⟨⟨⟨0, by decide, rfl⟩, ⟨0, by decide, rfl⟩, ⟨0, by decide, rfl⟩, ⟨0, by decide, rfl⟩, ⟨0, by decide, rfl⟩, ⟨0, by decide, rfl⟩, ⟨0, by decide, rfl⟩⟩, ⟨fun b hb => absurd hb (Nat.not_lt_zero b), fun b _ => ⟨rfl, rfl⟩⟩, fun v hv => ?_, ⟨fun s _ => rfl, fun s hs => absurd hs (Nat.not_lt_zero s)⟩, ⟨fun r hr => absurd hr (Nat.not_lt_zero r), fun r _ => rfl⟩, fun r hr => absurd hr (Nat.not_lt_zero r), fun r _ b _ => ⟨Or.inl rfl, fun _ => rfl⟩, fun v _ d _ => Or.inl rfl, fun v _ d _ s _ => ⟨Or.inl rfl, fun _ => rfl⟩, ⟨fun s _ => rfl, fun k _ => rfl, rfl⟩⟩⟩
  · rw [show mx0 κ 12 v = κ 1 v from rfl, h2 v hv]
    rcases (show v = 0 ∨ v = 1 ∨ v = 2 by omega) with rfl | rfl | rfl <;> rfl
  · exact absurd hs (Nat.not_lt_zero s)
  · show tb 0 r = (decide (r < 16) && decide ((0 : Int32) ≠ 0))
    rw [tb_zero]; simp
  · show tb 0 b = decide ((0 : Int32) ≠ 0)
    rw [tb_zero]; simp
  · show tb 0 b = (decide (b < 0) && _)
    rw [tb_zero]; simp
  · show tb 0 r = (decide (r < 0) && _)
    rw [tb_zero]; simp
  · show tb 0 s = (decide (s < 0) && _ && _)
    rw [tb_zero]; simp
  · show tb 0 s = (decide (s < 10) && decide ((0 : Int32) ≠ 0))
    rw [tb_zero]; simp
  · show κ 0 (32 * r + b) = if r < 0 then _ else -1
    rw [if_neg (Nat.not_lt_zero r), h1 _ (by omega)]
  · exact absurd hi (Nat.not_lt_zero i)
  · rcases (show v = 0 ∨ v = 1 ∨ v = 2 by omega) with rfl | rfl | rfl <;> exact ⟨30, by decide, rfl⟩
