/-! loops that find, and loops that gather bits -/
def lf (p : Nat → Bool) : Nat → Nat → Option Nat
  | 0, _ => none
  | m + 1, i => if p i = true then some i else lf p m (i + 1)
theorem lf_some {p : Nat → Bool} : ∀ {m i k : Nat}, lf p m i = some k → i ≤ k ∧ k < i + m ∧ p k = true ∧ ∀ j, i ≤ j → j < k → p j = false
  | 0, _, _, h => nomatch h
  | m + 1, i, k, h => by
    unfold lf at h
    by_cases c : p i = true
    · rw [if_pos c] at h
      have e : i = k := Option.some.inj h
      subst e
      exact ⟨Nat.le_refl _, by omega, c, fun j h1 h2 => by omega⟩
    · rw [if_neg c] at h
      obtain ⟨h1, h2, h3, h4⟩ := lf_some h
      refine ⟨by omega, by omega, h3, fun j j1 j2 => ?_⟩
      by_cases e : j = i
      · subst e; simpa using c
      · exact h4 j (by omega) j2
theorem lf_none {p : Nat → Bool} : ∀ {m i : Nat}, lf p m i = none → ∀ j, i ≤ j → j < i + m → p j = false
  | 0, _, _, _, _, _ => by omega
  | m + 1, i, h, j, h1, h2 => by
    unfold lf at h
    by_cases c : p i = true
    · rw [if_pos c] at h; cases h
    · rw [if_neg c] at h
      by_cases e : j = i
      · subst e; simpa using c
      · exact lf_none h j (by omega) (by omega)
theorem lf_cong {p q : Nat → Bool} : ∀ {m i : Nat}, (∀ j, i ≤ j → j < i + m → p j = q j) → lf p m i = lf q m i
  | 0, _, _ => rfl
  | m + 1, i, h => by
    unfold lf
    rw [h i (Nat.le_refl _) (by omega), lf_cong (fun j h1 h2 => h j (by omega) (by omega))]
theorem find_loop {E : Type} {f : Int32 → Option (Int32 ⊕ E)} {p : Nat → Bool} (lo n : Nat) (yes : Nat → E) (no : E) (hs : ∀ i, lo ≤ i → i < n → f (nI i) = if p i = true then some (.inr (yes i)) else some (.inl (nI (i + 1)))) (he : f (nI n) = some (.inr no)) : ∀ m i F, lo ≤ i → i + m = n → m < F → miter f F (nI i) = some (match lf p m i with
  | some k => yes k
  | none => no) := by
  intro m
  induction m with
  | zero =>
    intro i F h1 h2 h3
    obtain ⟨F', rfl⟩ : ∃ F', F = F' + 1 := ⟨F - 1, by omega⟩
    have e : i = n := by omega
    subst e
    exact miter_r he
  | succ m ih =>
    intro i F h1 h2 h3
    obtain ⟨F', rfl⟩ : ∃ F', F = F' + 1 := ⟨F - 1, by omega⟩
    have hi := hs i h1 (by omega)
    unfold lf
    by_cases c : p i = true
    · rw [if_pos c] at hi
      rw [if_pos c]
      exact miter_r hi
    · rw [if_neg c] at hi
      rw [if_neg c]
      exact miter_l hi (ih (i + 1) F' (by omega) (by omega) (by omega))
def mkb (p : Nat → Bool) : Nat → Int32
  | 0 => 0
  | n + 1 => if p n = true then mkb p n ||| ((1 : Int32) <<< (nI n &&& 31)) else mkb p n
theorem tb_mkb (p : Nat → Bool) : ∀ {n : Nat}, n ≤ 32 → ∀ j, j < 32 → tb (mkb p n) j = (decide (j < n) && p j)
  | 0, _, j, _ => by rw [show mkb p 0 = 0 from rfl, tb_zero]; simp
  | n + 1, hn, j, hj => by
    unfold mkb
    have ih := tb_mkb p (n := n) (by omega) j hj
    by_cases c : p n = true
    · rw [if_pos c, tb_set _ (by omega) hj, ih]
      by_cases e : j = n
      · subst e; rw [c]; simp
      · have : (j < n) ↔ (j < n + 1) := by omega
        simp [this, e]
    · rw [if_neg c, ih]
      by_cases e : j = n
      · subst e; simp [c]
      · have : (j < n) ↔ (j < n + 1) := by omega
        simp [this]
theorem mkb_of {p : Nat → Bool} {n : Nat} {x : Int32} (hn : n ≤ 32) (h : ∀ j, j < 32 → tb x j = (decide (j < n) && p j)) : x = mkb p n := tb_ext (fun j hj => by rw [h j hj, tb_mkb p hn j hj])
theorem mkb_cong {p q : Nat → Bool} : ∀ {n : Nat}, (∀ j, j < n → p j = q j) → mkb p n = mkb q n
  | 0, _ => rfl
  | n + 1, h => by unfold mkb; rw [h n (by omega), mkb_cong (fun j hj => h j (by omega))]
theorem z_iff {x : Int32} : x = 0 ↔ ∀ j, j < 32 → tb x j = false := by
  constructor
  · intro h j _; rw [h, tb_zero]
  · intro h; exact tb_ext (fun j hj => by rw [h j hj, tb_zero])
theorem set_loop {f : Int32 → Int32 → Option ((Int32 × Int32) ⊕ Int32)} {n : Nat} (p : Nat → Bool) (hn : n < 10000) (hs : ∀ i a, i < n → f a (nI i) = if p i = true then some (.inl (a ||| ((1 : Int32) <<< (nI i &&& 31)), nI (i + 1))) else some (.inl (a, nI (i + 1)))) (he : ∀ a, f a (nI n) = some (.inr a)) : miter (fun q => f q.1 q.2) FU (0, 0) = some (mkb p n) := by
  obtain ⟨e, h1, h2⟩ := miter_cnt (f := fun q : Int32 × Int32 => f q.1 q.2) (fun i (a : Int32) => (a, nI i)) n (fun i a => a = mkb p i) (fun e => e = mkb p n)
    (fun i a hi hI => Or.inl (by
      have h := hs i a hi
      by_cases c : p i = true
      · rw [if_pos c] at h
        exact ⟨_, h, by rw [hI]; exact (if_pos c).symm⟩
      · rw [if_neg c] at h
        exact ⟨_, h, by rw [hI]; exact (if_neg c).symm⟩))
    (fun a hI => ⟨a, he a, hI⟩) FU 0 0 (Nat.zero_le _) (by have : FU = 1048576 := rfl; omega) rfl
  rw [← h2]
  exact h1
theorem tb_sshr (x : Int32) {j : Nat} (hj : j < 32) : ((x >>> (nI j &&& 31)) &&& 1) = if tb x j = true then 1 else 0 := by
  apply Int32.toBitVec_inj.mp
  apply BitVec.eq_of_getLsbD_eq
  intro i hi
  have e1 : ((x >>> (nI j &&& 31)) &&& 1).toBitVec.getLsbD i = (decide (i = 0) && tb x j) := by
    rw [Int32.toBitVec_and, BitVec.getLsbD_and]
    have e2 : (1 : Int32).toBitVec.getLsbD i = decide (i = 0) := by
      rw [show (1 : Int32).toBitVec = 1#32 from rfl, BitVec.getLsbD_one]
      simp
    rw [e2]
    by_cases c : i = 0
    · subst c
      have e3 : (x >>> (nI j &&& 31)).toBitVec = x.toBitVec.sshiftRight' ((nI j &&& 31).toBitVec.smod 32) := rfl
      rw [e3, BitVec.sshiftRight', ishr_k j hj, BitVec.getLsbD_sshiftRight]
      simp [tb, hj]
    · simp [c]
  rw [e1]
  cases tb x j
  · simp
  · rw [if_pos rfl, show (1 : Int32).toBitVec = 1#32 from rfl, BitVec.getLsbD_one]
    simp
theorem tb_sshr1 (x : Int32) {j : Nat} (hj : j < 32) : ((x >>> (nI j &&& 31)) &&& 1) = 1 ↔ tb x j = true := by
  rw [tb_sshr x hj]
  cases tb x j <;> simp
theorem tb_sshr0 (x : Int32) {j : Nat} (hj : j < 32) : ((x >>> (nI j &&& 31)) &&& 1) = 0 ↔ tb x j = false := by
  rw [tb_sshr x hj]
  cases tb x j <;> simp
