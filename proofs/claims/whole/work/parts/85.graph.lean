/-! rings: the graph alone -/
def wk (W : Nat → Nat → Bool) (s R : Nat) : Nat → Nat → Bool
  | 0, r => decide (r = s)
  | k + 1, r => decide (s < r) && decide (r < R) && (lf (fun q => W r q && wk W s R k q) R 0).isSome
def dk (W : Nat → Nat → Bool) (s R k r : Nat) : Bool := wk W s R k r && !(lf (fun j => wk W s R j r) k 0).isSome
section
variable {W : Nat → Nat → Bool} {s R : Nat}
theorem bnot_is {o : Bool} : (!o) = true ↔ ¬ (o = true) := by cases o <;> simp
theorem dk_iff {k r : Nat} : dk W s R k r = true ↔ wk W s R k r = true ∧ ∀ j, j < k → wk W s R j r = false := by
  unfold dk
  rw [Bool.and_eq_true, bnot_is, lf_is]
  constructor
  · rintro ⟨h1, h2⟩
    refine ⟨h1, fun j hj => ?_⟩
    cases q : wk W s R j r
    · rfl
    · exact absurd ⟨j, Nat.zero_le _, by omega, q⟩ h2
  · rintro ⟨h1, h2⟩
    refine ⟨h1, fun ⟨j, _, hj, q⟩ => ?_⟩
    rw [h2 j (by omega)] at q
    cases q
theorem wk_S {k r : Nat} : wk W s R (k + 1) r = true ↔ s < r ∧ r < R ∧ ∃ q, q < R ∧ W r q = true ∧ wk W s R k q = true := by
  show (decide (s < r) && decide (r < R) && (lf (fun q => W r q && wk W s R k q) R 0).isSome) = true ↔ _
  rw [Bool.and_eq_true, Bool.and_eq_true, decide_eq_true_eq, decide_eq_true_eq, lf_is]
  constructor
  · rintro ⟨⟨h1, h2⟩, q, _, h3, h4⟩
    rw [Bool.and_eq_true] at h4
    exact ⟨h1, h2, q, by omega, h4.1, h4.2⟩
  · rintro ⟨h1, h2, q, h3, h4, h5⟩
    exact ⟨⟨h1, h2⟩, q, Nat.zero_le _, by omega, by rw [Bool.and_eq_true]; exact ⟨h4, h5⟩⟩
theorem wk_rng {k r : Nat} (h : wk W s R k r = true) : r = s ∨ (s < r ∧ r < R) := by
  cases k with
  | zero => exact Or.inl (of_decide_eq_true h)
  | succ k => rw [wk_S] at h; exact Or.inr ⟨h.1, h.2.1⟩
theorem dk_rng {k r : Nat} (h : dk W s R (k + 1) r = true) : s < r ∧ r < R := by
  have := (dk_iff.mp h).1
  rw [wk_S] at this
  exact ⟨this.1, this.2.1⟩
theorem dk_0 {r : Nat} : dk W s R 0 r = true ↔ r = s := by
  rw [dk_iff]
  constructor
  · rintro ⟨h, _⟩; exact of_decide_eq_true h
  · intro h; exact ⟨decide_eq_true h, fun j hj => by omega⟩
theorem wk_dk : ∀ {k r : Nat}, wk W s R k r = true → ∃ j, j ≤ k ∧ dk W s R j r = true := by
  intro k
  induction k using Nat.strongRecOn with
  | ind k ih =>
    intro r h
    by_cases c : ∃ j, j < k ∧ wk W s R j r = true
    · obtain ⟨j, h1, h2⟩ := c
      obtain ⟨i, h3, h4⟩ := ih j h1 h2
      exact ⟨i, by omega, h4⟩
    · refine ⟨k, Nat.le_refl _, dk_iff.mpr ⟨h, fun j hj => ?_⟩⟩
      cases q : wk W s R j r
      · rfl
      · exact absurd ⟨j, hj, q⟩ c
theorem dk_wk {k j r : Nat} (h : dk W s R k r = true) (h2 : wk W s R j r = true) : k ≤ j := by
  rcases Nat.lt_or_ge j k with c | c
  · rw [(dk_iff.mp h).2 j c] at h2; cases h2
  · exact c
theorem dk_un {k j r : Nat} (h : dk W s R k r = true) (h2 : dk W s R j r = true) : k = j := Nat.le_antisymm (dk_wk h (dk_iff.mp h2).1) (dk_wk h2 (dk_iff.mp h).1)
theorem dk_pre {k r : Nat} (h : dk W s R (k + 1) r = true) : ∃ q, q < R ∧ W r q = true ∧ dk W s R k q = true := by
  obtain ⟨h1, h2⟩ := dk_iff.mp h
  rw [wk_S] at h1
  obtain ⟨a, b, q, q1, q2, q3⟩ := h1
  refine ⟨q, q1, q2, dk_iff.mpr ⟨q3, fun j hj => ?_⟩⟩
  cases e : wk W s R j q
  · rfl
  · have : wk W s R (j + 1) r = true := wk_S.mpr ⟨a, b, q, q1, q2, e⟩
    rw [h2 (j + 1) (by omega)] at this
    cases this
theorem dk_S {k r : Nat} : dk W s R (k + 1) r = true ↔ s < r ∧ r < R ∧ (∃ q, q < R ∧ W r q = true ∧ dk W s R k q = true) ∧ ∀ j, j ≤ k → dk W s R j r = false := by
  constructor
  · intro h
    have h1 := (dk_iff.mp h).1
    rw [wk_S] at h1
    refine ⟨h1.1, h1.2.1, dk_pre h, fun j hj => ?_⟩
    cases e : dk W s R j r
    · rfl
    · have := dk_un h e; omega
  · rintro ⟨h1, h2, ⟨q, q1, q2, q3⟩, h3⟩
    refine dk_iff.mpr ⟨wk_S.mpr ⟨h1, h2, q, q1, q2, (dk_iff.mp q3).1⟩, fun j hj => ?_⟩
    cases e : wk W s R j r
    · rfl
    · obtain ⟨i, i1, i2⟩ := wk_dk e
      rw [h3 i (by omega)] at i2
      cases i2
def sn (W : Nat → Nat → Bool) (s R k r : Nat) : Bool := (lf (fun j => dk W s R j r) (k + 1) 0).isSome
theorem sn_iff {k r : Nat} : sn W s R k r = true ↔ ∃ j, j ≤ k ∧ dk W s R j r = true := by
  unfold sn
  rw [lf_is]
  constructor
  · rintro ⟨j, _, h1, h2⟩; exact ⟨j, by omega, h2⟩
  · rintro ⟨j, h1, h2⟩; exact ⟨j, Nat.zero_le _, by omega, h2⟩
theorem cn_mono {p q : Nat → Bool} (h : ∀ i, p i = true → q i = true) : ∀ n, cn p n ≤ cn q n
  | 0 => Nat.le_refl _
  | n + 1 => by
    have ih := cn_mono h n
    simp only [cn]
    cases e : p n
    · have : (false : Bool).toNat = 0 := rfl
      omega
    · rw [h n e]
      omega
theorem cn_more {p q : Nat → Bool} (h : ∀ i, p i = true → q i = true) {i : Nat} (h0 : p i = false) (h1 : q i = true) : ∀ {n : Nat}, i < n → cn p n + 1 ≤ cn q n
  | 0, hi => absurd hi (Nat.not_lt_zero i)
  | n + 1, hi => by
    simp only [cn]
    by_cases e : i = n
    · subst e
      have := cn_mono h i
      rw [h0, h1]
      have t1 : (true : Bool).toNat = 1 := rfl
      have t0 : (false : Bool).toNat = 0 := rfl
      omega
    · have ih := cn_more h h0 h1 (n := n) (by omega)
      cases c : p n
      · have t0 : (false : Bool).toNat = 0 := rfl
        omega
      · rw [h n c]
        omega
theorem dk_ne {k r : Nat} (h : dk W s R k r = true) : ∀ j, j ≤ k → ∃ q, dk W s R j q = true := by
  induction k generalizing r with
  | zero => intro j hj; have : j = 0 := by omega
            subst this; exact ⟨r, h⟩
  | succ k ih =>
    intro j hj
    by_cases e : j = k + 1
    · subst e; exact ⟨r, h⟩
    · obtain ⟨q, _, _, q3⟩ := dk_pre h
      exact ih q3 j (by omega)
theorem dk_cnt (hs : s < R) : ∀ k, (∀ j, j ≤ k → ∃ q, dk W s R j q = true) → k + 1 ≤ cn (sn W s R k) R
  | 0, _ => by
    have := cn_more (p := fun _ => false) (q := sn W s R 0) (fun _ h => (nomatch h)) (i := s) rfl (sn_iff.mpr ⟨0, Nat.le_refl _, dk_0.mpr rfl⟩) hs
    omega
  | k + 1, h => by
    have ih := dk_cnt hs k (fun j hj => h j (by omega))
    obtain ⟨q, hq⟩ := h (k + 1) (Nat.le_refl _)
    have hr := dk_rng hq
    have := cn_more (p := sn W s R k) (q := sn W s R (k + 1)) (fun i hi => by
      obtain ⟨j, j1, j2⟩ := sn_iff.mp hi
      exact sn_iff.mpr ⟨j, by omega, j2⟩) (i := q) (by
      cases e : sn W s R k q
      · rfl
      · obtain ⟨j, j1, j2⟩ := sn_iff.mp e
        have := dk_un hq j2
        omega) (sn_iff.mpr ⟨k + 1, Nat.le_refl _, hq⟩) hr.2
    omega
theorem dk_lt (hs : s < R) {k r : Nat} (h : dk W s R k r = true) : k < R := by
  have h1 := dk_cnt hs k (dk_ne h)
  have h2 := cn_le (sn W s R k) R
  omega
/-- one relaxing -/
def rlx (W : Nat → Nat → Bool) (r q : Nat) (f : Nat → Int32) : Nat → Int32 := if f q = -1 then f else if q = r then f else if W r q = true then upd f r (if f r = -1 then f q + 1 else if f r ≤ f q + 1 then f r else f q + 1) else f
def sok (W : Nat → Nat → Bool) (s R B : Nat) (f : Nat → Int32) : Prop := ∀ r, r < R → f r = -1 ∨ ∃ k, k ≤ B ∧ f r = nI k ∧ wk W s R k r = true
theorem rlx_ok {r q B : Nat} {f : Nat → Int32} (h : sok W s R B f) (hB : B < 100000) (hr : s < r) (hr2 : r < R) (hq : q < R) : sok W s R (B + 1) (rlx W r q f) := by
  have up : sok W s R (B + 1) f := fun a ha => (h a ha).imp id (fun ⟨k, k1, k2, k3⟩ => ⟨k, by omega, k2, k3⟩)
  unfold rlx
  by_cases c1 : f q = -1
  · rw [if_pos c1]; exact up
  · rw [if_neg c1]
    by_cases c2 : q = r
    · rw [if_pos c2]; exact up
    · rw [if_neg c2]
      by_cases c3 : W r q = true
      · rw [if_pos c3]
        obtain ⟨j, j1, j2, j3⟩ := (h q hq).resolve_left c1
        have hw : wk W s R (j + 1) r = true := wk_S.mpr ⟨hr, hr2, q, hq, c3, j3⟩
        intro a ha
        by_cases e : a = r
        · subst e
          rw [upd_s]
          rcases h a ha with c4 | ⟨k, k1, k2, k3⟩
          · rw [if_pos c4, j2, nI_1]; exact Or.inr ⟨j + 1, by omega, rfl, hw⟩
          · rw [k2, if_neg (nI_m1 (by omega)), j2, nI_1]
            by_cases c5 : nI k ≤ nI (j + 1)
            · rw [if_pos c5]; exact Or.inr ⟨k, by omega, rfl, k3⟩
            · rw [if_neg c5]; exact Or.inr ⟨j + 1, by omega, rfl, hw⟩
        · rw [upd_n e]; exact up a ha
      · rw [if_neg c3]; exact up
theorem rlx_keep {r q B : Nat} {f : Nat → Int32} (h : sok W s R B f) (hB : B < 100000) (hr : s < r) (hr2 : r < R) (hq : q < R) {a k : Nat} (hd : dk W s R k a = true) (ha : a < R) (hk : k < 100000) (hf : f a = nI k) : rlx W r q f a = nI k := by
  unfold rlx
  by_cases c1 : f q = -1
  · rw [if_pos c1]; exact hf
  · rw [if_neg c1]
    by_cases c2 : q = r
    · rw [if_pos c2]; exact hf
    · rw [if_neg c2]
      by_cases c3 : W r q = true
      · rw [if_pos c3]
        obtain ⟨j, j1, j2, j3⟩ := (h q hq).resolve_left c1
        have hw : wk W s R (j + 1) r = true := wk_S.mpr ⟨hr, hr2, q, hq, c3, j3⟩
        by_cases e : a = r
        · subst e
          have hle := dk_wk hd hw
          rw [upd_s, hf, if_neg (nI_m1 (by omega)), j2, nI_1, if_pos (nI_le hle (by omega))]
        · rw [upd_n e]; exact hf
      · rw [if_neg c3]; exact hf
theorem rlx_gain {r q B t : Nat} {f : Nat → Int32} (h : sok W s R B f) (hB : B < 100000) (hr2 : r < R) (ht : t < 10000) (hd : dk W s R (t + 1) r = true) (hq : dk W s R t q = true) (hf : f q = nI t) (hW : W r q = true) : rlx W r q f r = nI (t + 1) := by
  unfold rlx
  have hne : q ≠ r := fun e => by subst e; have := dk_un hd hq; omega
  rw [hf, if_neg (nI_m1 (by omega)), if_neg hne, if_pos hW, upd_s, nI_1]
  rcases h r hr2 with c | ⟨k, k1, k2, k3⟩
  · rw [if_pos c]
  · have hle := dk_wk hd k3
    rw [k2, if_neg (nI_m1 (by omega))]
    by_cases c : nI k ≤ nI (t + 1)
    · rw [if_pos c]
      have := (nI_leI (a := k) (b := t + 1) (by omega) (by omega)).mp c
      rw [show k = t + 1 by omega]
    · rw [if_neg c]
def rqf (W : Nat → Nat → Bool) (s r : Nat) : Nat → (Nat → Int32) → (Nat → Int32)
  | 0, f => f
  | i + 1, f => rlx W r (s + i) (rqf W s r i f)
def rrf (W : Nat → Nat → Bool) (s R : Nat) : Nat → (Nat → Int32) → (Nat → Int32)
  | 0, f => f
  | i + 1, f => rqf W s (s + 1 + i) (R - s) (rrf W s R i f)
def rof (W : Nat → Nat → Bool) (s R : Nat) : Nat → (Nat → Int32) → (Nat → Int32)
  | 0, f => f
  | i + 1, f => rrf W s R (R - (s + 1)) (rof W s R i f)
theorem rqf_ok {r B : Nat} {f : Nat → Int32} (h : sok W s R B f) (hr : s < r) (hr2 : r < R) (hB : B < 50000) (hR : R ≤ 16) : ∀ i, s + i ≤ R → sok W s R (B + i) (rqf W s r i f) ∧ (∀ a k, dk W s R k a = true → a < R → k < 100000 → f a = nI k → rqf W s r i f a = nI k) ∧ ∀ t q, t < 10000 → dk W s R (t + 1) r = true → dk W s R t q = true → f q = nI t → W r q = true → s ≤ q → q < s + i → rqf W s r i f r = nI (t + 1)
  | 0, _ => ⟨h, fun _ _ _ _ _ hf => hf, fun _ _ _ _ _ _ _ h1 h2 => by omega⟩
  | i + 1, hi => by
    obtain ⟨h1, h2, h3⟩ := rqf_ok h hr hr2 hB hR i (by omega)
    refine ⟨rlx_ok (B := B + i) h1 (by omega) hr hr2 (by omega), fun a k hd ha hk hf => rlx_keep h1 (by omega) hr hr2 (by omega) hd ha hk (h2 a k hd ha hk hf), fun t q ht hd hq hf hW q1 q2 => ?_⟩
    by_cases e : q = s + i
    · subst e
      exact rlx_gain h1 (by omega) hr2 ht hd hq (h2 _ t hq (by omega) (by omega) hf) hW
    · exact rlx_keep h1 (by omega) hr hr2 (by omega) hd hr2 (by omega) (h3 t q ht hd hq hf hW q1 (by omega))
theorem rrf_ok {B : Nat} {f : Nat → Int32} (h : sok W s R B f) (hB : B < 20000) (hR : R ≤ 16) : ∀ i, s + 1 + i ≤ R → sok W s R (B + 16 * i) (rrf W s R i f) ∧ (∀ a k, dk W s R k a = true → a < R → k < 100000 → f a = nI k → rrf W s R i f a = nI k) ∧ ∀ t, t < 10000 → (∀ q, dk W s R t q = true → q < R → f q = nI t) → ∀ r, dk W s R (t + 1) r = true → r < s + 1 + i → rrf W s R i f r = nI (t + 1)
  | 0, _ => ⟨h, fun _ _ _ _ _ hf => hf, fun _ _ _ r hd hr => by have := dk_rng hd; omega⟩
  | i + 1, hi => by
    obtain ⟨h1, h2, h3⟩ := rrf_ok h hB hR i (by omega)
    obtain ⟨k1, k2, k3⟩ := rqf_ok (r := s + 1 + i) h1 (by omega) (by omega) (by omega) hR (R - s) (by omega)
    refine ⟨fun a ha => (k1 a ha).imp id (fun ⟨k, c1, c2, c3⟩ => ⟨k, by omega, c2, c3⟩), fun a k hd ha hk hf => k2 a k hd ha hk (h2 a k hd ha hk hf), fun t ht hf r hd hr => ?_⟩
    have hrr := dk_rng hd
    by_cases e : r = s + 1 + i
    · subst e
      obtain ⟨q, q1, q2, q3⟩ := dk_pre hd
      have hq := wk_rng (dk_iff.mp q3).1
      exact k3 t q ht hd q3 (h2 q t q3 q1 (by omega) (hf q q3 q1)) q2 (by omega) (by omega)
    · exact k2 r (t + 1) hd hrr.2 (by omega) (h3 t ht hf r hd (by omega))
theorem rof_ok (hs : s < R) (hR : R ≤ 16) {f : Nat → Int32} (h : sok W s R 0 f) (h0 : f s = 0) : ∀ i, i ≤ 16 → sok W s R (256 * i) (rof W s R i f) ∧ ∀ k, k ≤ i → ∀ a, dk W s R k a = true → a < R → rof W s R i f a = nI k
  | 0, _ => ⟨h, fun k hk a hd ha => by
      have : k = 0 := by omega
      subst this
      rw [dk_0.mp hd]; exact h0⟩
  | i + 1, hi => by
    obtain ⟨h1, h2⟩ := rof_ok hs hR h h0 i (by omega)
    obtain ⟨k1, k2, k3⟩ := rrf_ok h1 (by omega) hR (R - (s + 1)) (by omega)
    refine ⟨fun a ha => (k1 a ha).imp id (fun ⟨k, c1, c2, c3⟩ => ⟨k, by omega, c2, c3⟩), fun k hk a hd ha => ?_⟩
    by_cases e : k = i + 1
    · subst e
      exact k3 i (by omega) (fun q hq1 hq2 => h2 i (Nat.le_refl _) q hq1 hq2) a hd (by omega)
    · exact k2 a k hd ha (by omega) (h2 k (by omega) a hd ha)
/-- what the relaxing comes to: the distances -/
theorem rof_dist (hs : s < R) (hR : R ≤ 16) {f : Nat → Int32} (h : sok W s R 0 f) (h0 : f s = 0) {a : Nat} (ha : a < R) : (∀ k, dk W s R k a = true → rof W s R 16 f a = nI k) ∧ ((∀ k, dk W s R k a = false) → rof W s R 16 f a = -1) := by
  obtain ⟨h1, h2⟩ := rof_ok hs hR h h0 16 (Nat.le_refl _)
  refine ⟨fun k hd => h2 k (by have := dk_lt hs hd; omega) a hd ha, fun hn => ?_⟩
  rcases h1 a ha with c | ⟨k, _, _, c⟩
  · exact c
  · obtain ⟨j, _, hj⟩ := wk_dk c
    rw [hn j] at hj
    cases hj
end
