/-! loops that add up -/
theorem sum_loop {f : Int32 → Int32 → Option ((Int32 × Int32) ⊕ Int32)} {n : Nat} (g : Nat → Int32) (hn : n < 10000) (hs : ∀ i a, i < n → f a (nI i) = some (.inl (a + g i, nI i + 1))) (he : ∀ a, f a (nI n) = some (.inr a)) : miter (fun q => f q.1 q.2) FU (0, 0) = some (sm g n) := by
  obtain ⟨e, h1, h2⟩ := miter_cnt (f := fun q : Int32 × Int32 => f q.1 q.2) (fun i (a : Int32) => (a, nI i)) n (fun i a => a = sm g i) (fun e => e = sm g n)
    (fun i a hi hI => Or.inl ⟨a + g i, by show f a (nI i) = _; rw [hs i a hi, nI_1], by rw [hI]; rfl⟩)
    (fun a hI => ⟨a, he a, hI⟩) FU 0 0 (Nat.zero_le _) (by have : FU = 1048576 := rfl; omega) rfl
  rw [← h2]
  exact h1
theorem add0 (a : Int32) : a + 0 = a := by simp
theorem sm_cn (p : Nat → Bool) : ∀ n, sm (fun k => if p k = true then 1 else 0) n = nI (cn p n)
  | 0 => rfl
  | n + 1 => by
    simp only [sm, cn]
    rw [sm_cn p n]
    cases p n
    · simp
    · simp only [if_true, Bool.toNat_true]; exact nI_1 _
theorem bcn_cn (x : Int32) : ∀ n, bcn x n = cn (fun j => tb x j) n
  | 0 => rfl
  | n + 1 => by simp only [bcn, cn]; rw [bcn_cn x n]
theorem cn_lt {p q : Nat → Bool} {R : Nat} : ∀ {n : Nat}, R ≤ n → (∀ r, r < R → q r = p r) → (∀ r, R ≤ r → r < n → q r = false) → cn q n = cn p R
  | 0, h, _, _ => by have : R = 0 := by omega
                     subst this; rfl
  | n + 1, h, h1, h2 => by
    rcases Nat.lt_or_ge n R with e | e
    · have : R = n + 1 := by omega
      subst this
      exact cn_cong h1
    · simp only [cn]
      rw [cn_lt e h1 (fun r a b => h2 r a (by omega)), h2 n e (by omega)]
      rfl
section
variable {μ ν : Mm}
def lenV (ν : Mm) (v : Nat) : Int32 := sm (fun b => if ν 5 b = nI (1 + v) then ν 2 b else 0) (nB ν)
theorem x_vanOf (r : RX μ ν) {b : Nat} (hb : b < 32) : vs_Books_vanOf μ (nI b) = some (if wi (ν 5 b) 1 3 = true then ν 5 b - 1 else -1) := by
  unfold vs_Books_vanOf
  have e : μ 19 = ν 5 := r.2.1.2.2.2.2.1
  rw [mrd_nI hb (by decide), within_eq, mbv_s, e]
  cases wi (ν 5 b) 1 3
  · rfl
  · simp only [ifT, if_true]
    rw [mrd_nI hb (by decide), e]
theorem van_iff (p : Int32) {v : Nat} (hv : v < 3) : (if wi p 1 3 = true then p - 1 else -1) = nI v ↔ p = nI (1 + v) := by
  constructor
  · intro h
    split at h
    · have h2 : p - 1 + 1 = nI v + 1 := by rw [h]
      rw [nI_1, Int32.sub_add_cancel] at h2
      rw [h2, Nat.add_comm]
    · exact absurd h.symm (nI_v (by omega))
  · intro h
    subst h
    have : wi (nI (1 + v)) 1 3 = true := by rcases (show v = 0 ∨ v = 1 ∨ v = 2 by omega) with rfl | rfl | rfl <;> decide
    rw [if_pos this, Nat.add_comm]
    exact nI_pred v
theorem x_lengthOn (r : RX μ ν) (g : Good ν) {v : Nat} (hv : v < 3) : vs_Books_lengthOn μ (nI v) = some (lenV ν v) := by
  have hB := g_B g
  have eB : μ 2 10 = nI (nB ν) := (x_B r).trans hB.1
  have eL : μ 16 = ν 2 := r.2.1.2.1
  unfold vs_Books_lengthOn vs_Books_lengthOn_l4
  rw [sum_loop (f := vs_Books_lengthOn_b4 μ (nI v)) (n := nB ν) (fun b => if ν 5 b = nI (1 + v) then ν 2 b else 0) (by omega) (fun i a hi => by
    unfold vs_Books_lengthOn_b4
    rw [eB, if_neg (nI_ge hi (by omega)), x_vanOf r (by omega), mbv_s]
    simp only [van_iff _ hv]
    split
    · rw [mrd_nI (by omega) (by decide), eL]
    · rw [add0]) (fun a => by
    unfold vs_Books_lengthOn_b4
    rw [eB, if_pos (nI_le (Nat.le_refl _) (by omega))])]
  rfl
theorem m_lengthOn (g : Good ν) {v : Nat} (hv : v < 3) : md_lengthOn ν (nI v) = some (lenV ν v) := by
  have hB := g_B g
  unfold md_lengthOn md_lengthOn_l4
  rw [sum_loop (f := md_lengthOn_b4 ν (nI v)) (n := nB ν) (fun b => if ν 5 b = nI (1 + v) then ν 2 b else 0) (by omega) (fun i a hi => by
    unfold md_lengthOn_b4
    rw [hB.1, if_neg (nI_ge hi (by omega)), mrd_nI (by omega) (by decide)]
    rw [show (1 : Int32) + nI v = nI (1 + v) from nI_add 1 v]
    split
    · rw [mrd_nI (by omega) (by decide)]
    · rfl) (fun a => by
    unfold md_lengthOn_b4
    rw [hB.1, if_pos (nI_le (Nat.le_refl _) (by omega))])]
  rfl
end
theorem st_shelf : ST_shelf Rel := by
  intro μ ν a1 a2 h
  unfold vs_shelf md_shelf
  simp only [x_isVan, m_isVan, within_eq, in_eq, mbv_s]
  cases h1 : ix a1 3
  · exact ⟨false, μ, ν, rfl, rfl, h⟩
  cases h2 : wi a2 0 99
  · exact ⟨false, μ, ν, rfl, rfl, h⟩
  obtain ⟨v, hv, rfl⟩ := ix_t h1 (by decide)
  simp only [ifT]
  rw [x_lengthOn h.1 h.2 hv, m_lengthOn h.2 hv, mbv_s, mbv_s]
  by_cases hle : lenV ν v ≤ a2
  · rw [if_pos hle, if_pos hle, mwr_nI hv (by decide), mwr_nI hv (by decide)]
    refine ⟨true, _, _, rfl, rfl, ?_⟩
    obtain ⟨⟨n, rb, rs, rr, ⟨v1, v2⟩, hrest⟩, ⟨gn, gb, gsh, grest⟩⟩ := h
    refine ⟨⟨n, rb, rs, rr, ⟨fun w hw => ?_, v2⟩, hrest⟩, ⟨gn, gb, fun w hw => ?_, grest⟩⟩
    · show upd (μ 12) v a2 w = upd (ν 9) v a2 w
      by_cases e : w = v
      · subst e; rw [upd_s, upd_s]
      · rw [upd_n e, upd_n e]; exact v1 w hw
    · show gI (upd (ν 9) v a2 w) 99
      by_cases e : w = v
      · subst e; rw [upd_s]; exact wi_c 0 99 h2 rfl rfl (by decide)
      · rw [upd_n e]; exact gsh w hw
  · rw [if_neg hle, if_neg hle]
    exact ⟨false, μ, ν, rfl, rfl, h⟩
