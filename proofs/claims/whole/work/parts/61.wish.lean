def nL (ν : Mm) : Nat := (ν 0 58).toNatClampNeg
/-- what the law says of reader r and book b, x days late -/
def lawV (ν : Mm) (r b : Nat) (x L d : Int32) : Int32 := ansV (odOf (ν 37)) (fcv ν r b x (ν 0 0)) (ν 38) (ν 39) (ν 40) (ν 41) (nL ν) L d
theorem lawV_abs {ν ν' : Mm} (h : absM ν' = absM ν) (r b : Nat) (x L d : Int32) : lawV ν' r b x L d = lawV ν r b x L d := by
  have e1 : lawV ν' r b x L d = lawV (absM ν') r b x L d := rfl
  have e2 : lawV ν r b x L d = lawV (absM ν) r b x L d := rfl
  rw [e1, e2, h]
theorem lfind_cong {L : Int32} {le le' C C' : Nat → Int32} : ∀ {m i : Nat}, (∀ q, i ≤ q → q < i + m → le q = le' q ∧ C q = C' q) → lfind L le C m i = lfind L le' C' m i
  | 0, _, _ => rfl
  | m + 1, i, h => by
    obtain ⟨h1, h2⟩ := h i (Nat.le_refl _) (by omega)
    unfold lfind
    rw [h1, h2, lfind_cong (fun q q1 q2 => h q (by omega) (by omega))]
theorem FX_abs {μ μ' : Mm} (h : FX μ μ') : absX μ' = absX μ := by
  funext c i
  unfold absX
  by_cases e : c = 69
  · subst e; rfl
  · by_cases e2 : c = 10
    · subst e2
      by_cases e3 : i = 8
      · rw [h.2 i (by omega) (by omega)]
      · have : pX 10 i = false := by
          show (i == 8) = false
          simp [e3]
        rw [this]; rfl
    · rw [h.1 c e e2]
theorem FM_abs {ν ν' : Mm} (h : FM ν ν') : absM ν' = absM ν := by
  funext c i
  unfold absM
  by_cases e : c = 42
  · subst e; rfl
  · rw [h c e]
section
variable {μ ν : Mm}
theorem x_law (h : Rel μ ν) {r b : Nat} (hr : r < nR ν) (hb : b < nB ν) (x L d : Int32) : ∃ μ', vs_Law_answer (wr12 μ (fcv ν r b x (ν 0 0))) L d = some (lawV ν r b x L d, μ') ∧ absX μ' = absX μ ∧ ∀ c, c ≠ 52 → c ≠ 69 → c ≠ 10 → μ' c = μ c := by
  obtain ⟨hcl, n, hn, en, hq⟩ := h.1.2.2.2.2.2.2.2.2.2.2.2.2.2.2.2.2
  have hnL : nL ν = n := by unfold nL; rw [en, nI_clamp (by omega)]
  have hLX : LX n (odOf (ν 37)) (ν 37) (fcv ν r b x (ν 0 0)) (wr12 μ (fcv ν r b x (ν 0 0))) := by
    refine ⟨hn, ?_, wr12_f, fun q hqn => ?_⟩
    · rw [wr12_o (by decide), hcl, en]
    · obtain ⟨l1, l2, l3, l4, a, b', c, ea, eb, ec, rest⟩ := hq q hqn
      rw [wr12_o (by decide), wr12_o (by decide), wr12_o (by decide), wr12_o (by decide), wr12_o (by decide)]
      exact ⟨a, b', c, l2.trans ea, l3.trans eb, l4.trans ec, rest⟩
  obtain ⟨μ', h1, h2⟩ := x_answer hLX L d
  refine ⟨μ', ?_, (FX_abs h2).trans (wr12_abs μ _), fun c c1 c2 c3 => (h2.1 c c2 c3).trans (wr12_o c1)⟩
  rw [h1, wr12_o (by decide), wr12_o (by decide), wr12_o (by decide), wr12_o (by decide)]
  unfold lawV ansV
  rw [hnL]
  have hc : ∀ q, q < n → clC (odOf (ν 37)) (fcv ν r b x (ν 0 0)) (μ 67) (μ 68) q = clC (odOf (ν 37)) (fcv ν r b x (ν 0 0)) (ν 40) (ν 41) q ∧ clC (odOf (ν 37)) (fcv ν r b x (ν 0 0)) (μ 66) (μ 67) q = clC (odOf (ν 37)) (fcv ν r b x (ν 0 0)) (ν 39) (ν 40) q := by
    intro q hqn
    obtain ⟨l1, l2, l3, l4, -⟩ := hq q hqn
    unfold clC
    rw [l2, l3, l4]
    exact ⟨rfl, rfl⟩
  rw [lfind_cong (le' := ν 38) (C' := clC (odOf (ν 37)) (fcv ν r b x (ν 0 0)) (ν 40) (ν 41)) (fun q _ q2 => ⟨(hq q (by omega)).1, (hc q (by omega)).1⟩)]
  cases hl : lfind L (ν 38) (clC (odOf (ν 37)) (fcv ν r b x (ν 0 0)) (ν 40) (ν 41)) n 0 with
  | none => rfl
  | some q =>
    have := lfind_lt hl
    show some (clC _ _ (μ 66) (μ 67) q, μ') = some (clC _ _ (ν 39) (ν 40) q, μ')
    rw [(hc q (by omega)).2]
theorem m_law (h : Rel μ ν) {r b : Nat} (hr : r < nR ν) (hb : b < nB ν) (x L lo hi d : Int32) (hlh : lo ≤ hi) (hd : bnd d lo hi = d) : ∃ ν', md_byLaw (wm12 ν (fcv ν r b x (ν 0 0))) L lo hi d = some (bnd (lawV ν r b x L d) lo hi, ν') ∧ absM ν' = absM ν ∧ ∀ c, c ≠ 42 → c ≠ 43 → ν' c = ν c := by
  obtain ⟨hcl, n, hn, en, hq⟩ := h.1.2.2.2.2.2.2.2.2.2.2.2.2.2.2.2.2
  have hnL : nL ν = n := by unfold nL; rw [en, nI_clamp (by omega)]
  have hLM : LM n (odOf (ν 37)) (fcv ν r b x (ν 0 0)) (wm12 ν (fcv ν r b x (ν 0 0))) := by
    refine ⟨hn, ?_, wm12_f, fun q hqn => ?_⟩
    · rw [wm12_o (by decide), en]
    · obtain ⟨l1, l2, l3, l4, a, b', c, ea, eb, ec, p1, p2, p3, p4, p5, p6⟩ := hq q hqn
      rw [wm12_o (by decide), wm12_o (by decide), wm12_o (by decide), wm12_o (by decide)]
      exact ⟨a, b', c, ea, eb, ec, p1, p2, p3, p4, p5, fun k k1 k2 => ⟨_, _, p6 k k1 k2⟩⟩
  obtain ⟨ν', h1, h2⟩ := m_byLaw hLM L lo hi d hlh hd
  refine ⟨ν', ?_, (FM_abs h2).trans (wm12_abs ν _), fun c c1 c2 => (h2 c c1).trans (wm12_o c2)⟩
  rw [h1, wm12_o (by decide), wm12_o (by decide), wm12_o (by decide), wm12_o (by decide)]
  unfold lawV
  rw [hnL]
end
