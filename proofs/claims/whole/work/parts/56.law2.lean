def lvl (od : Nat → Nat × Nat) (fc : Nat → Int32) (a b : Nat) : Int32 := match lev od fc (b - a + 1) a b [] with
  | some (some (v :: _)) => v
  | _ => 0
theorem x_run {od : Nat → Nat × Nat} {fc : Nat → Int32} {cd : Nat → Int32} {μ : Mm} {a b : Nat} (hab : a ≤ b) (hb : b ≤ 200) (hw : wfE od a b) (hop : ∀ k, a ≤ k → k < b → opOk k (μ 63 k) (μ 64 k) (cd k) (od k)) (hfc : ∀ w, w < 12 → μ 52 (lch w) = fc w) : ∃ μ', vs_Law_run μ (nI a) (nI b) = some (lvl od fc a b, μ') ∧ FX μ μ' := by
  unfold vs_Law_run
  simp only [mst]
  have f0 : FX μ (mset (mset μ 10 9 0) 10 10 0) := FX_10 (Or.inr rfl) (FX_10 (Or.inl rfl) (FX_r μ))
  have s0 : SX (mset (mset μ 10 9 0) 10 10 0) [] := ⟨mset_s, by rw [mset_n (by decide), mset_s]; rfl, by decide, trivial⟩
  have hop2 : ∀ k, a ≤ k → k < b → opOk k (mset (mset μ 10 9 0) 10 10 0 63 k) (mset (mset μ 10 9 0) 10 10 0 64 k) (cd k) (od k) := hop
  have hfc2 : ∀ w, w < 12 → mset (mset μ 10 9 0) 10 10 0 52 (lch w) = fc w := hfc
  unfold lvl vs_Law_run_l16
  rcases hw fc with h | ⟨v, h⟩
  · obtain ⟨μ', g1, g2, g3⟩ := x_run_loop hb (b - a + 1) a 0 [] _ FU none h (Nat.le_refl _) (by omega) (by omega) (by unfold FU; omega) s0 hop2 hfc2
    have g3' : μ' 10 10 = 1 := g3
    have g1' : miter (fun q : Int32 × Int32 × Mm => vs_Law_run_b16 q.2.2 (nI b) q.1 q.2.1) FU (nI a, 0, mset (mset μ 10 9 0) 10 10 0) = some μ' := g1
    rw [g1', mbv_s, if_neg (by rw [g3']; decide), h]
    exact ⟨μ', rfl, FX_t f0 g2⟩
  · obtain ⟨μ', g1, g2, g3⟩ := x_run_loop hb (b - a + 1) a 0 [] _ FU (some [v]) h (Nat.le_refl _) (by omega) (by omega) (by unfold FU; omega) s0 hop2 hfc2
    have g3' : SX μ' [v] := g3
    have g1' : miter (fun q : Int32 × Int32 × Mm => vs_Law_run_b16 q.2.2 (nI b) q.1 q.2.1) FU (nI a, 0, mset (mset μ 10 9 0) 10 10 0) = some μ' := g1
    have e9 : μ' 10 9 = 1 := g3'.2.1
    have e69 : μ' 69 0 = v := g3'.2.2.2.1
    rw [g1', mbv_s, if_pos g3'.1, if_pos e9, h]
    refine ⟨μ', ?_, FX_t f0 g2⟩
    refine (mrd_nI (k := 0) (by decide) (by decide)).trans ?_
    rw [e69]
theorem m_run {od : Nat → Nat × Nat} {fc : Nat → Int32} {ν : Mm} {a b : Nat} (hab : a ≤ b) (hb : b ≤ 200) (hw : wfE od a b) (hop : ∀ k, a ≤ k → k < b → ∃ s v, opOk k s v (ν 37 k) (od k)) (hfc : ∀ w, w < 12 → ν 43 w = fc w) : ∃ ν', md_comesTo ν (nI a) (nI b) = some (lvl od fc a b, ν') ∧ FM ν ν' := by
  unfold md_comesTo
  have e4 : (220 : Int32) * (nI a / 220) = nI 0 := by
    have e := pk_div (a := a) (d := 220) (by omega) (by decide) (by decide)
    rw [show a / 220 = 0 by omega] at e
    have e' : nI a / 220 = nI 0 := e
    rw [e']; rfl
  rw [e4]
  unfold lvl md_comesTo_l16
  rcases hw fc with h | ⟨v, h⟩
  · obtain ⟨ν', g2, g3⟩ := m_run_loop hb (b - a + 1) a [] ν FU none h (Nat.le_refl _) (by omega) (by decide) (by unfold FU; omega) trivial hop hfc
    have g1' : miter (fun q : Int32 × Int32 × Mm => md_comesTo_b16 q.2.2 (nI b) (nI 0) q.1 q.2.1) FU (0, nI a, ν) = some (.inl ν') := g3
    rw [g1', h]
    exact ⟨ν', rfl, g2⟩
  · obtain ⟨ν', g2, g3⟩ := m_run_loop hb (b - a + 1) a [] ν FU (some [v]) h (Nat.le_refl _) (by omega) (by decide) (by unfold FU; omega) trivial hop hfc
    have g1' : miter (fun q : Int32 × Int32 × Mm => md_comesTo_b16 q.2.2 (nI b) (nI 0) q.1 q.2.1) FU (0, nI a, ν) = some (.inr ν') := g3.1
    have e42 : ν' 42 0 = v := g3.2.1
    rw [g1', h]
    refine ⟨ν', ?_, g2⟩
    show mrd ν' 42 220 (nI 0) (fun x30 => some (x30, ν')) = some (v, ν')
    rw [mrd_nI (by decide) (by decide), e42]
theorem wfC_E {od : Nat → Nat × Nat} {a b : Nat} (h : wfC od a b) : wfE od a b := fun fc => (h fc).imp id (fun ⟨v, _, q⟩ => ⟨v, q⟩)
theorem wfC_v {od : Nat → Nat × Nat} {a b : Nat} (h : wfC od a b) (fc : Nat → Int32) : lvl od fc a b = 0 ∨ lvl od fc a b = 1 := by
  unfold lvl
  rcases h fc with q | ⟨v, hv, q⟩
  · rw [q]; exact Or.inl rfl
  · rw [q]; exact hv
def lfind (L : Int32) (le C : Nat → Int32) : Nat → Nat → Option Nat
  | 0, _ => none
  | m + 1, i => if le i = L ∧ C i ≠ 0 then some i else lfind L le C m (i + 1)
theorem lfind_lt {L : Int32} {le C : Nat → Int32} : ∀ {m i q : Nat}, lfind L le C m i = some q → i ≤ q ∧ q < i + m
  | 0, _, _, h => by cases h
  | m + 1, i, q, h => by
    unfold lfind at h
    split at h
    · cases h; omega
    · have := lfind_lt h; omega
def clC (od : Nat → Nat × Nat) (fc : Nat → Int32) (te en : Nat → Int32) (q : Nat) : Int32 := lvl od fc (te q).toNatClampNeg (en q).toNatClampNeg
def ansV (od : Nat → Nat × Nat) (fc le su te en : Nat → Int32) (n : Nat) (L d : Int32) : Int32 := match lfind L le (clC od fc te en) n 0 with
  | some q => clC od fc su te q
  | none => d
