def stk (f : Nat → Int32) : List Int32 → Prop
  | [] => True
  | x :: r => f r.length = x ∧ stk f r
theorem stk_upd {f : Nat → Int32} {i : Nat} {v : Int32} : ∀ {st : List Int32}, stk f st → st.length ≤ i → stk (upd f i v) st
  | [], _, _ => trivial
  | x :: r, h, hl => ⟨by
      have : r.length < i := hl
      rw [upd_n (by omega)]; exact h.1, stk_upd h.2 (by have : r.length < i := hl; omega)⟩
/-- the class's stack -/
def SX (μ : Mm) (st : List Int32) : Prop := μ 10 10 = 0 ∧ μ 10 9 = nI st.length ∧ st.length ≤ 64 ∧ stk (μ 69) st
/-- the class's memory but for its scratch -/
def FX (μ μ' : Mm) : Prop := (∀ c, c ≠ 69 → c ≠ 10 → μ' c = μ c) ∧ ∀ i, i ≠ 9 → i ≠ 10 → μ' 10 i = μ 10 i
theorem FX_r (μ : Mm) : FX μ μ := ⟨fun _ _ _ => rfl, fun _ _ _ => rfl⟩
theorem FX_t {μ μ' μ'' : Mm} (h : FX μ μ') (h2 : FX μ' μ'') : FX μ μ'' := ⟨fun c a b => (h2.1 c a b).trans (h.1 c a b), fun i a b => (h2.2 i a b).trans (h.2 i a b)⟩
theorem FX_69 {μ μ' : Mm} {i : Nat} {v : Int32} (h : FX μ μ') : FX μ (mset μ' 69 i v) := ⟨fun c a b => by rw [mset_o a]; exact h.1 c a b, fun j a b => by rw [mset_o (by decide)]; exact h.2 j a b⟩
theorem FX_10 {μ μ' : Mm} {i : Nat} {v : Int32} (hi : i = 9 ∨ i = 10) (h : FX μ μ') : FX μ (mset μ' 10 i v) := ⟨fun c a b => by rw [mset_o b]; exact h.1 c a b, fun j a b => by rw [mset_n (by omega)]; exact h.2 j a b⟩
theorem x_push {μ : Mm} {st : List Int32} (h : SX μ st) (hl : st.length < 64) (v : Int32) : ∃ μ', vs_Law_push μ v = some μ' ∧ SX μ' (v :: st) ∧ FX μ μ' := by
  unfold vs_Law_push
  obtain ⟨h1, h2, h3, h4⟩ := h
  rw [h2, if_pos (by exact nI_lt (b := 64) hl (by decide)), mwr_nI hl (by decide)]
  refine ⟨_, rfl, ⟨?_, ?_, hl, ?_, ?_⟩, FX_10 (Or.inl rfl) (FX_69 (FX_r μ))⟩
  · rw [mset_n (by decide), mset_o (by decide)]; exact h1
  · rw [mset_s, mset_o (by decide), h2, nI_1]; rfl
  · rw [mset_o (by decide), mset_s]
  · rw [mset_o (by decide)]; exact stk_upd h4 (Nat.le_refl _)
theorem x_pop {μ : Mm} {x : Int32} {st : List Int32} (h : SX μ (x :: st)) : ∃ μ', vs_Law_pop μ = some (x, μ') ∧ SX μ' st ∧ FX μ μ' := by
  unfold vs_Law_pop
  obtain ⟨h1, h2, h3, h4⟩ := h
  have hl : st.length < 64 := h3
  have e2 : μ 10 9 = nI (st.length + 1) := h2
  rw [e2, if_pos (by exact nI_le (a := 1) (by omega) (by omega))]
  have e3 : nI (st.length + 1) - 1 = nI st.length := nI_pred _
  rw [e3]
  simp only [mst, mset_s]
  rw [mrd_nI hl (by decide)]
  refine ⟨_, by rw [mset_o (by decide), h4.1], ⟨?_, mset_s, by omega, ?_⟩, FX_10 (Or.inl rfl) (FX_r μ)⟩
  · rw [mset_n (by decide)]; exact h1
  · rw [mset_o (by decide)]; exact h4.2
