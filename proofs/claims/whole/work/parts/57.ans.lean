/-- what a run of the class's law needs of its memory -/
def LX (n : Nat) (od : Nat → Nat × Nat) (cd fc : Nat → Int32) (μ : Mm) : Prop := n ≤ 14 ∧ μ 10 8 = nI n ∧ (∀ w, w < 12 → μ 52 (lch w) = fc w) ∧ ∀ q, q < n → ∃ a b c, μ 66 q = nI a ∧ μ 67 q = nI b ∧ μ 68 q = nI c ∧ a ≤ b ∧ b ≤ c ∧ c ≤ 200 ∧ wfE od a b ∧ wfC od b c ∧ ∀ k, a ≤ k → k < c → opOk k (μ 63 k) (μ 64 k) (cd k) (od k)
theorem LX_F {n : Nat} {od : Nat → Nat × Nat} {cd fc : Nat → Int32} {μ μ' : Mm} (h : LX n od cd fc μ) (f : FX μ μ') : LX n od cd fc μ' := by
  unfold LX at h ⊢
  rw [f.1 52 (by decide) (by decide), f.1 63 (by decide) (by decide), f.1 64 (by decide) (by decide), f.1 66 (by decide) (by decide), f.1 67 (by decide) (by decide), f.1 68 (by decide) (by decide), f.2 8 (by decide) (by decide)]
  exact h
theorem x_clause {n : Nat} {od : Nat → Nat × Nat} {cd fc : Nat → Int32} {μ : Mm} (h : LX n od cd fc μ) {q : Nat} (hq : q < n) : (∃ μ', vs_Law_run μ (μ 67 q) (μ 68 q) = some (clC od fc (μ 67) (μ 68) q, μ') ∧ FX μ μ') ∧ ∃ μ', vs_Law_run μ (μ 66 q) (μ 67 q) = some (clC od fc (μ 66) (μ 67) q, μ') ∧ FX μ μ' := by
  obtain ⟨h1, h2, h3, h4⟩ := h
  obtain ⟨a, b, c, ea, eb, ec, hab, hbc, hc, we, wc, ho⟩ := h4 q hq
  unfold clC
  rw [ea, eb, ec, nI_clamp (by omega), nI_clamp (by omega), nI_clamp (by omega)]
  exact ⟨x_run hbc hc (wfC_E wc) (fun k k1 k2 => ho k (by omega) k2) h3, x_run hab (by omega) we (fun k k1 k2 => ho k k1 (by omega)) h3⟩
def RAX (o : Option Nat) (r : Option ((Int32 × Mm) ⊕ Mm)) (μ : Mm) : Prop := match o with
  | some q => r = some (.inl (nI q, μ))
  | none => r = some (.inr μ)
theorem x_ans_loop {n : Nat} {od : Nat → Nat × Nat} {cd fc : Nat → Int32} (L d : Int32) : ∀ (m i F : Nat) (μ : Mm), LX n od cd fc μ → i + m = n → m < F → ∃ μ', FX μ μ' ∧ RAX (lfind L (μ 65) (clC od fc (μ 67) (μ 68)) m i) (miter (fun q : Int32 × Mm => vs_Law_answer_b3 q.2 L d q.1) F (nI i, μ)) μ' := by
  intro m
  induction m with
  | zero =>
    intro i F μ h hi hF
    obtain ⟨F', rfl⟩ : ∃ F', F = F' + 1 := ⟨F - 1, by omega⟩
    refine ⟨μ, FX_r μ, miter_r ?_⟩
    show vs_Law_answer_b3 μ L d (nI i) = _
    unfold vs_Law_answer_b3
    rw [h.2.1, if_pos (nI_le (by omega) (by have := h.1; omega))]
  | succ m ih =>
    intro i F μ h hi hF
    obtain ⟨F', rfl⟩ : ∃ F', F = F' + 1 := ⟨F - 1, by omega⟩
    have hn := h.1
    have hin : i < n := by omega
    have hb : vs_Law_answer_b3 μ L d (nI i) = vs_Law_answer_b3 μ L d (nI i) := rfl
    conv at hb => rhs; unfold vs_Law_answer_b3
    rw [h.2.1, if_neg (nI_ge hin (by omega)), mrd_nI (by omega) (by decide), mrd_nI (by omega) (by decide), mrd_nI (by omega) (by decide)] at hb
    obtain ⟨μ1, r1, f1⟩ := (x_clause h hin).1
    have e65 := f1.1 65 (by decide) (by decide)
    have e67 := f1.1 67 (by decide) (by decide)
    have e68 := f1.1 68 (by decide) (by decide)
    have go : ∀ μ1, FX μ μ1 → vs_Law_answer_b3 μ L d (nI i) = some (.inl (nI i + 1, μ1)) → ∃ μ', FX μ μ' ∧ RAX (lfind L (μ 65) (clC od fc (μ 67) (μ 68)) m (i + 1)) (miter (fun q : Int32 × Mm => vs_Law_answer_b3 q.2 L d q.1) (F' + 1) (nI i, μ)) μ' := by
      intro μ1 f1 g
      have e65 := f1.1 65 (by decide) (by decide)
      have e67 := f1.1 67 (by decide) (by decide)
      have e68 := f1.1 68 (by decide) (by decide)
      obtain ⟨μ', g1, g2⟩ := ih (i + 1) F' μ1 (LX_F h f1) (by omega) (by omega)
      rw [e65, e67, e68] at g2
      refine ⟨μ', FX_t f1 g1, ?_⟩
      rw [nI_1] at g
      rw [miter_l (q := (nI i, μ)) (q' := (nI (i + 1), μ1)) g rfl]
      exact g2
    unfold lfind
    by_cases c1 : μ 65 i = L
    · rw [if_pos c1, r1] at hb
      simp only [mbm] at hb
      by_cases c2 : clC od fc (μ 67) (μ 68) i = 0
      · rw [if_pos c2] at hb
        rw [if_neg (fun q => q.2 c2)]
        exact go μ1 f1 hb
      · rw [if_neg c2] at hb
        rw [if_pos ⟨c1, c2⟩]
        exact ⟨μ1, f1, miter_r hb⟩
    · rw [if_neg c1] at hb
      rw [if_neg (fun q => c1 q.1)]
      exact go μ (FX_r μ) hb
theorem x_answer {n : Nat} {od : Nat → Nat × Nat} {cd fc : Nat → Int32} {μ : Mm} (h : LX n od cd fc μ) (L d : Int32) : ∃ μ', vs_Law_answer μ L d = some (ansV od fc (μ 65) (μ 66) (μ 67) (μ 68) n L d, μ') ∧ FX μ μ' := by
  unfold vs_Law_answer vs_Law_answer_l3
  obtain ⟨μ1, f1, g⟩ := x_ans_loop (n := n) (od := od) (cd := cd) (fc := fc) L d n 0 FU μ h (by omega) (by have := h.1; unfold FU; omega)
  unfold ansV
  cases hl : lfind L (μ 65) (clC od fc (μ 67) (μ 68)) n 0 with
  | none =>
    rw [hl] at g
    have g' : miter (fun q : Int32 × Mm => vs_Law_answer_b3 q.2 L d q.1) FU (0, μ) = some (.inr μ1) := g
    rw [g']
    exact ⟨μ1, rfl, f1⟩
  | some q =>
    rw [hl] at g
    have g' : miter (fun q : Int32 × Mm => vs_Law_answer_b3 q.2 L d q.1) FU (0, μ) = some (.inl (nI q, μ1)) := g
    rw [g']
    have hq := lfind_lt hl
    have hn := h.1
    obtain ⟨μ2, r2, f2⟩ := (x_clause (LX_F h f1) (q := q) (by omega)).2
    have e66 := f1.1 66 (by decide) (by decide)
    have e67 := f1.1 67 (by decide) (by decide)
    refine ⟨μ2, ?_, FX_t f1 f2⟩
    show (mrd μ1 66 14 (nI q) fun x12 => mrd μ1 67 14 (nI q) fun x13 => mbm (vs_Law_run μ1 x12 x13) fun x14 μ15 => some (x14, μ15)) = _
    rw [mrd_nI (by omega) (by decide), mrd_nI (by omega) (by decide), r2, e66, e67]
    rfl
