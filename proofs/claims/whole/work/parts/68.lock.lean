/-- two loops that step together -/
theorem lock_loop {S S' E E' A : Type} {f : S → Option (S ⊕ E)} {f' : S' → Option (S' ⊕ E')} (x : Nat → A → S) (y : Nat → A → S') (n : Nat) (I : Nat → A → Prop) (P : E → E' → Prop) (hs : ∀ i a, i < n → I i a → ∃ a', f (x i a) = some (.inl (x (i + 1) a')) ∧ f' (y i a) = some (.inl (y (i + 1) a')) ∧ I (i + 1) a') (he : ∀ a, I n a → ∃ e e', f (x n a) = some (.inr e) ∧ f' (y n a) = some (.inr e') ∧ P e e') : ∀ (m i F : Nat) (a : A), i + m = n → m < F → I i a → ∃ e e', miter f F (x i a) = some e ∧ miter f' F (y i a) = some e' ∧ P e e' := by
  intro m
  induction m with
  | zero =>
    intro i F a hi hF hI
    obtain ⟨F', rfl⟩ : ∃ F', F = F' + 1 := ⟨F - 1, by omega⟩
    have : i = n := by omega
    subst this
    obtain ⟨e, e', h1, h2, h3⟩ := he a hI
    exact ⟨e, e', miter_r h1, miter_r h2, h3⟩
  | succ m ih =>
    intro i F a hi hF hI
    obtain ⟨F', rfl⟩ : ∃ F', F = F' + 1 := ⟨F - 1, by omega⟩
    obtain ⟨a', h1, h2, h3⟩ := hs i a (by omega) hI
    obtain ⟨e, e', g1, g2, g3⟩ := ih (i + 1) F' a' (by omega) (by omega) h3
    exact ⟨e, e', miter_l h1 g1, miter_l h2 g2, g3⟩
