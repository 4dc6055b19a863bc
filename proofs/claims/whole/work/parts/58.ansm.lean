def LM (n : Nat) (od : Nat → Nat × Nat) (fc : Nat → Int32) (ν : Mm) : Prop := n ≤ 14 ∧ ν 0 58 = nI n ∧ (∀ w, w < 12 → ν 43 w = fc w) ∧ ∀ q, q < n → ∃ a b c, ν 39 q = nI a ∧ ν 40 q = nI b ∧ ν 41 q = nI c ∧ a ≤ b ∧ b ≤ c ∧ c ≤ 200 ∧ wfE od a b ∧ wfC od b c ∧ ∀ k, a ≤ k → k < c → ∃ s v, opOk k s v (ν 37 k) (od k)
theorem LM_F {n : Nat} {od : Nat → Nat × Nat} {fc : Nat → Int32} {ν ν' : Mm} (h : LM n od fc ν) (f : FM ν ν') : LM n od fc ν' := by
  unfold LM at h ⊢
  rw [f 0 (by decide), f 43 (by decide), f 37 (by decide), f 39 (by decide), f 40 (by decide), f 41 (by decide)]
  exact h
theorem m_clause {n : Nat} {od : Nat → Nat × Nat} {fc : Nat → Int32} {ν : Mm} (h : LM n od fc ν) {q : Nat} (hq : q < n) : (∃ ν', md_comesTo ν (ν 40 q) (ν 41 q) = some (clC od fc (ν 40) (ν 41) q, ν') ∧ FM ν ν') ∧ (∃ ν', md_comesTo ν (ν 39 q) (ν 40 q) = some (clC od fc (ν 39) (ν 40) q, ν') ∧ FM ν ν') ∧ (clC od fc (ν 40) (ν 41) q = 0 ∨ clC od fc (ν 40) (ν 41) q = 1) := by
  obtain ⟨h1, h2, h3, h4⟩ := h
  obtain ⟨a, b, c, ea, eb, ec, hab, hbc, hc, we, wc, ho⟩ := h4 q hq
  unfold clC
  rw [ea, eb, ec, nI_clamp (by omega), nI_clamp (by omega), nI_clamp (by omega)]
  exact ⟨m_run hbc hc (wfC_E wc) (fun k k1 k2 => ho k (by omega) k2) h3, m_run hab (by omega) we (fun k k1 k2 => ho k k1 (by omega)) h3, wfC_v wc fc⟩
theorem m_ans_loop {n : Nat} {od : Nat → Nat × Nat} {fc : Nat → Int32} (L lo hi d : Int32) : ∀ (m i F : Nat) (ν : Mm), LM n od fc ν → i + m = n → m < F → ∃ ν', FM ν ν' ∧ RAX (lfind L (ν 38) (clC od fc (ν 40) (ν 41)) m i) (miter (fun q : Int32 × Mm => md_byLaw_b3 q.2 L lo hi d q.1) F (nI i, ν)) ν' := by
  intro m
  induction m with
  | zero =>
    intro i F ν h hi hF
    obtain ⟨F', rfl⟩ : ∃ F', F = F' + 1 := ⟨F - 1, by omega⟩
    refine ⟨ν, FM_r ν, miter_r ?_⟩
    show md_byLaw_b3 ν L lo _ d (nI i) = _
    unfold md_byLaw_b3
    rw [h.2.1, if_pos (nI_le (by omega) (by have := h.1; omega))]
  | succ m ih =>
    intro i F ν h hi2 hF
    obtain ⟨F', rfl⟩ : ∃ F', F = F' + 1 := ⟨F - 1, by omega⟩
    have hn := h.1
    have hin : i < n := by omega
    have hb : md_byLaw_b3 ν L lo hi d (nI i) = md_byLaw_b3 ν L lo hi d (nI i) := rfl
    conv at hb => rhs; unfold md_byLaw_b3
    rw [h.2.1, if_neg (nI_ge hin (by omega)), mrd_nI (by omega) (by decide), mrd_nI (by omega) (by decide), mrd_nI (by omega) (by decide)] at hb
    obtain ⟨⟨ν1, r1, f1⟩, -, cv⟩ := m_clause h hin
    have go : ∀ ν1, FM ν ν1 → md_byLaw_b3 ν L lo hi d (nI i) = some (.inl (nI i + 1, ν1)) → ∃ ν', FM ν ν' ∧ RAX (lfind L (ν 38) (clC od fc (ν 40) (ν 41)) m (i + 1)) (miter (fun q : Int32 × Mm => md_byLaw_b3 q.2 L lo hi d q.1) (F' + 1) (nI i, ν)) ν' := by
      intro ν1 f1 g
      obtain ⟨ν', g1, g2⟩ := ih (i + 1) F' ν1 (LM_F h f1) (by omega) (by omega)
      rw [f1 38 (by decide), f1 40 (by decide), f1 41 (by decide)] at g2
      refine ⟨ν', FM_t f1 g1, ?_⟩
      rw [nI_1] at g
      rw [miter_l (q := (nI i, ν)) (q' := (nI (i + 1), ν1)) g rfl]
      exact g2
    unfold lfind
    by_cases c1 : ν 38 i = L
    · rw [if_pos c1, r1] at hb
      simp only [mbm] at hb
      rcases cv with c2 | c2
      · rw [if_neg (by rw [c2]; decide)] at hb
        rw [if_neg (fun q => q.2 c2)]
        exact go ν1 f1 hb
      · rw [if_pos c2] at hb
        rw [if_pos ⟨c1, by rw [c2]; decide⟩]
        exact ⟨ν1, f1, miter_r hb⟩
    · rw [if_neg c1] at hb
      rw [if_neg (fun q => c1 q.1)]
      exact go ν (FM_r ν) hb
def bnd (x lo hi : Int32) : Int32 := jmax lo (jmin hi x)
theorem bnd_m {x lo hi : Int32} (h : lo ≤ hi) {α : Type} (K : Int32 → α) : (if lo ≤ x then if x ≤ hi then K x else K hi else K lo) = K (bnd x lo hi) := by
  unfold bnd
  have hj : (jmin hi x = x ∧ x < hi) ∨ (jmin hi x = hi ∧ ¬ x < hi) := by
    unfold jmin
    by_cases c : x < hi
    · rw [if_pos c]; exact Or.inl ⟨rfl, c⟩
    · rw [if_neg c]; exact Or.inr ⟨rfl, c⟩
  rw [Int32.le_iff_toInt_le] at h
  rw [Int32.lt_iff_toInt_lt] at hj
  simp only [Int32.le_iff_toInt_le]
  rcases hj with ⟨e, c⟩ | ⟨e, c⟩
  · rw [e]; unfold jmax; simp only [Int32.lt_iff_toInt_lt]
    repeat' split
    all_goals first | rfl | (exfalso; omega) | (congr 1; exact Int32.toInt_inj.mp (by omega))
  · rw [e]; unfold jmax; simp only [Int32.lt_iff_toInt_lt]
    repeat' split
    all_goals first | rfl | (exfalso; omega) | (congr 1; exact Int32.toInt_inj.mp (by omega))
theorem m_byLaw {n : Nat} {od : Nat → Nat × Nat} {fc : Nat → Int32} {ν : Mm} (h : LM n od fc ν) (L lo hi d : Int32) (hlh : lo ≤ hi) (hd : bnd d lo hi = d) : ∃ ν', md_byLaw ν L lo hi d = some (bnd (ansV od fc (ν 38) (ν 39) (ν 40) (ν 41) n L d) lo hi, ν') ∧ FM ν ν' := by
  unfold md_byLaw md_byLaw_l3
  obtain ⟨ν1, f1, g⟩ := m_ans_loop (n := n) (od := od) (fc := fc) L lo hi d n 0 FU ν h (by omega) (by have := h.1; unfold FU; omega)
  unfold ansV
  cases hl : lfind L (ν 38) (clC od fc (ν 40) (ν 41)) n 0 with
  | none =>
    rw [hl] at g
    have g' : miter (fun q : Int32 × Mm => md_byLaw_b3 q.2 L lo hi d q.1) FU (0, ν) = some (.inr ν1) := g
    rw [g']
    refine ⟨ν1, ?_, f1⟩
    show some (d, ν1) = some (bnd d lo hi, ν1)
    rw [hd]
  | some q =>
    rw [hl] at g
    have g' : miter (fun q : Int32 × Mm => md_byLaw_b3 q.2 L lo hi d q.1) FU (0, ν) = some (.inl (nI q, ν1)) := g
    rw [g']
    have hq := lfind_lt hl
    have hn := h.1
    obtain ⟨ν2, r2, f2⟩ := (m_clause (LM_F h f1) (q := q) (by omega)).2.1
    have e39 := f1 39 (by decide)
    have e40 := f1 40 (by decide)
    refine ⟨ν2, ?_, FM_t f1 f2⟩
    show (mrd ν1 39 14 (nI q) fun x12 => mrd ν1 40 14 (nI q) fun x13 => mbm (md_comesTo ν1 x12 x13) fun x14 μ15 => if lo ≤ x14 then if x14 ≤ hi then some (x14, μ15) else some (hi, μ15) else some (lo, μ15)) = _
    rw [mrd_nI (by omega) (by decide), mrd_nI (by omega) (by decide), r2, e39, e40]
    exact bnd_m hlh (fun x => some (x, ν2))
