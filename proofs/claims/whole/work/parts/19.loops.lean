/-! loops that count -/
theorem miter_cnt {S E A : Type} {f : S → Option (S ⊕ E)} (st : Nat → A → S) (n : Nat) (I : Nat → A → Prop) (P : E → Prop) (hs : ∀ i a, i < n → I i a → (∃ a', f (st i a) = some (.inl (st (i + 1) a')) ∧ I (i + 1) a') ∨ ∃ e, f (st i a) = some (.inr e) ∧ P e) (he : ∀ a, I n a → ∃ e, f (st n a) = some (.inr e) ∧ P e) : ∀ k i a, i ≤ n → n < i + k → I i a → ∃ e, miter f k (st i a) = some e ∧ P e := by
  intro k
  induction k with
  | zero => intro i a h1 h2; omega
  | succ k ih =>
    intro i a h1 h2 hI
    rcases Nat.lt_or_ge i n with h | h
    · rcases hs i a h hI with ⟨a', e1, e2⟩ | ⟨e, e1, e2⟩
      · obtain ⟨e, e3, e4⟩ := ih (i + 1) a' h (by omega) e2
        exact ⟨e, by simp only [miter, e1]; exact e3, e4⟩
      · exact ⟨e, by simp only [miter, e1], e2⟩
    · have : i = n := by omega
      subst this
      obtain ⟨e, e1, e2⟩ := he a hI
      exact ⟨e, by simp only [miter, e1], e2⟩
theorem mrd_nI {α : Type} {μ : Mm} {c n k : Nat} {K : Int32 → Option α} (h : k < n) (hn : n < 2 ^ 31) : mrd μ c n (nI k) K = K (μ c k) := by
  unfold mrd
  rw [if_neg (nI_in h hn), nI_clamp (by omega)]
theorem mwr_nI {α : Type} {μ : Mm} {c n k : Nat} {v : Int32} {K : Mm → Option α} (h : k < n) (hn : n < 2 ^ 31) : mwr μ c n (nI k) v K = K (mset μ c k v) := by
  unfold mwr
  rw [if_neg (nI_in h hn), nI_clamp (by omega)]
theorem mset_s {μ : Mm} {k i : Nat} {v : Int32} : mset μ k i v k i = v := by simp [mset, upd]
theorem mset_n {μ : Mm} {k i j : Nat} {v : Int32} (h : j ≠ i) : mset μ k i v k j = μ k j := by simp [mset, upd, h]
theorem mset_o {μ : Mm} {k i q : Nat} {v : Int32} (h : q ≠ k) : mset μ k i v q = μ q := by simp [mset, h]
theorem FU_big : 100000 < FU := by decide
/-- an array filled -/
theorem fill_pure (v : Int32) (N c : Nat) (hN : N < 2 ^ 30) (f : (Int32 × Mm) → Option ((Int32 × Mm) ⊕ Mm)) (hf : ∀ q, f q = if nI N ≤ q.1 then some (.inr q.2) else mwr q.2 c N q.1 v fun μ' => some (.inl (q.1 + 1, μ'))) (hNF : N < FU) (μ : Mm) : ∃ u, miter f FU (0, μ) = some u ∧ (∀ i, i < N → u c i = v) ∧ ∀ k, k ≠ c → u k = μ k := by
  have := miter_cnt (f := f) (fun i (ν : Mm) => (nI i, ν)) N (fun i ν => (∀ j, j < i → ν c j = v) ∧ ∀ k, k ≠ c → ν k = μ k) (fun u => (∀ i, i < N → u c i = v) ∧ ∀ k, k ≠ c → u k = μ k)
    (fun i ν hi hI => Or.inl ⟨mset ν c i v, by
      rw [hf]
      rw [if_neg (by exact nI_ge hi (by omega))]
      rw [mwr_nI hi (by omega), nI_1], fun j hj => by
        by_cases e : j = i
        · subst e; exact mset_s
        · rw [mset_n e]; exact hI.1 j (by omega), fun k hk => by rw [mset_o hk]; exact hI.2 k hk⟩)
    (fun ν hI => ⟨ν, by rw [hf, if_pos (by exact nI_le (Nat.le_refl N) (by omega))], hI⟩) FU 0 μ (Nat.zero_le _) (by omega) ⟨fun j hj => by omega, fun _ _ => rfl⟩
  exact this
