/-! pairs: the reference's search -/
def eo (o : Option Nat) : Int32 := match o with
  | none => -1
  | some x => nI x
def mq (ν : Mm) (h a f q : Nat → Int32) : Mm := fun c => if c = 51 then h else if c = 52 then a else if c = 53 then f else if c = 54 then q else ν c
theorem mq_51 {ν : Mm} {h a f q : Nat → Int32} {i : Nat} {v : Int32} : mset (mq ν h a f q) 51 i v = mq ν (upd h i v) a f q := by
  funext c
  by_cases e : c = 51
  · subst e; rfl
  · rw [mset_o e]; unfold mq; rw [if_neg e, if_neg e]
theorem mq_52 {ν : Mm} {h a f q : Nat → Int32} {i : Nat} {v : Int32} : mset (mq ν h a f q) 52 i v = mq ν h (upd a i v) f q := by
  funext c
  by_cases e : c = 52
  · subst e; rfl
  · rw [mset_o e]; unfold mq; simp only [if_neg e]
theorem mq_53 {ν : Mm} {h a f q : Nat → Int32} {i : Nat} {v : Int32} : mset (mq ν h a f q) 53 i v = mq ν h a (upd f i v) q := by
  funext c
  by_cases e : c = 53
  · subst e; rfl
  · rw [mset_o e]; unfold mq; simp only [if_neg e]
theorem mq_54 {ν : Mm} {h a f q : Nat → Int32} {i : Nat} {v : Int32} : mset (mq ν h a f q) 54 i v = mq ν h a f (upd q i v) := by
  funext c
  by_cases e : c = 54
  · subst e; rfl
  · rw [mset_o e]; unfold mq; simp only [if_neg e]
theorem mq_self (ν : Mm) : mq ν (ν 51) (ν 52) (ν 53) (ν 54) = ν := by
  funext c
  unfold mq
  by_cases e1 : c = 51
  · rw [if_pos e1, e1]
  · rw [if_neg e1]
    by_cases e2 : c = 52
    · rw [if_pos e2, e2]
    · rw [if_neg e2]
      by_cases e3 : c = 53
      · rw [if_pos e3, e3]
      · rw [if_neg e3]
        by_cases e4 : c = 54
        · rw [if_pos e4, e4]
        · rw [if_neg e4]
def wF (ν : Mm) (b r : Nat) : Bool := decide (ν 50 (32 * r + b) ≠ 0)
/-- holds and mate tell c -/
def mqOK (R B : Nat) (h a : Nat → Int32) (c : Nat → Option Nat) : Prop := (∀ r, r < R → h r = eo (c r)) ∧ ∀ b, b < B → (∀ r, c r = some b → a b = nI r) ∧ ((∀ r, c r ≠ some b) → a b = -1)
/-- how far the search is -/
def bfs (F : Nat → Nat → Bool) (R B : Nat) (c : Nat → Option Nat) (b0 : Nat) (f q : Nat → Int32) (many : Nat) (ρ : Nat → Nat) : Prop :=
  many = 1 + cn (fun r => decide (f r ≠ -1)) R ∧ q 0 = nI b0 ∧ (∀ r, r < R → f r ≠ -1 → ∃ j k x, 1 ≤ j ∧ j < many ∧ ρ j = r ∧ k < j ∧ x < B ∧ q k = nI x ∧ f r = nI x ∧ F x r = true) ∧ (∀ j, 1 ≤ j → j < many → ρ j < R ∧ f (ρ j) ≠ -1 ∧ ∃ x, x < B ∧ c (ρ j) = some x ∧ q j = nI x) ∧ ∀ j j', 1 ≤ j → j < many → 1 ≤ j' → j' < many → ρ j = ρ j' → j = j'
section
variable {ν : Mm} {R B : Nat} {P : Nat → Bool} {c : Nat → Option Nat} {T : Nat → Bool}
theorem m_passes (hR : R ≤ 16) (hB : B ≤ 32) {f q : Nat → Int32} {b0 : Nat} (hb0 : b0 < B) {many : Nat} {ρ : Nat → Nat} (hm : many ≤ 17) (hρ : ∀ j, 1 ≤ j → j < many → ρ j < R ∧ ∃ x, x < B ∧ c (ρ j) = some x ∧ q j = nI x) (hi : ∀ j j', 1 ≤ j → j < many → 1 ≤ j' → j' < many → ρ j = ρ j' → j = j') (hf : ∀ j, 1 ≤ j → j < many → ∃ k x, k < j ∧ x < B ∧ q k = nI x ∧ f (ρ j) = nI x ∧ wF ν x (ρ j) = true) (hq0 : q 0 = nI b0) : ∀ (k : Nat) (r x : Nat) (c1 : Nat → Option Nat) (h a : Nat → Int32) (n : Nat), k < many → r < R → x < B → q k = nI x → f r = nI x → wF ν x r = true → c1 r = none → mInv (wF ν) P R c1 T → (∀ z, c1 z ≠ some b0) → (∀ j, 1 ≤ j → j ≤ k → ρ j ≠ r ∧ c1 (ρ j) = c (ρ j)) → (∀ r', r' < R → r' ≠ r → h r' = eo (c1 r')) → (∀ b, b < B → (∀ r', c1 r' = some b → a b = nI r') ∧ ((∀ r', c1 r' ≠ some b) → a b = -1)) → mSz c1 R = n → ∀ F0, k + 1 < F0 → ∃ h' a' c', miter (fun z : Int32 × Mm => md_passesOn_b2 z.2 z.1) F0 (nI r, mq ν h a f q) = some (mq ν h' a' f q) ∧ mqOK R B h' a' c' ∧ mInv (wF ν) (pad P b0) R c' T ∧ mSz c' R = n + 1 := by
  intro k
  induction k using Nat.strongRecOn with
  | ind k ih =>
    intro r x c1 h a n hk hr hx hqk hfr hF h0 hinv hnb hj hh ha hn F0 hF0
    obtain ⟨F1, rfl⟩ : ∃ F1, F0 = F1 + 1 := ⟨F0 - 1, by omega⟩
    have hstep : md_passesOn_b2 (mq ν h a f q) (nI r) = some (.inl (a x, mq ν (upd h r (nI x)) (upd a x (nI r)) f q)) := by
      unfold md_passesOn_b2
      rw [if_neg (nI_m1 (by omega)), mrd_nI (by omega) (by decide), show mq ν h a f q 53 r = nI x from hfr, mrd_nI (by omega) (by decide), mwr_nI (by omega) (by decide), mq_51, mwr_nI (by omega) (by decide), mq_52]
      rfl
    by_cases ck : k = 0
    · subst ck
      have ex : x = b0 := by
        rw [hq0] at hqk
        exact ((nI_eq (by omega) (by omega)).mp hqk).symm
      subst ex
      have ea : a x = -1 := (ha x hx).2 (fun r' => hnb r')
      rw [ea] at hstep
      obtain ⟨g1, g2⟩ := m_fin hinv hr h0 hF hnb
      refine ⟨upd h r (nI x), upd a x (nI r), oupd c1 r (some x), ?_, ⟨fun r' hr' => ?_, fun b hb => ⟨fun r' e => ?_, fun e => ?_⟩⟩, g1, by rw [g2, hn]⟩
      · obtain ⟨F2, rfl⟩ : ∃ F2, F1 = F2 + 1 := ⟨F1 - 1, by omega⟩
        exact miter_l hstep (miter_r rfl)
      · by_cases e : r' = r
        · subst e; rw [upd_s, oupd_s]; rfl
        · rw [upd_n e, oupd_n e]; exact hh r' hr' e
      · by_cases e1 : r' = r
        · subst e1
          rw [oupd_s] at e
          have := Option.some.inj e
          subst this
          rw [upd_s]
        · rw [oupd_n e1] at e
          have e2 : b ≠ x := fun z => by subst z; exact hnb r' e
          rw [upd_n e2]; exact (ha b hb).1 r' e
      · have e2 : b ≠ x := fun z => by subst z; exact e r oupd_s
        rw [upd_n e2]
        refine (ha b hb).2 (fun r' z => ?_)
        by_cases e1 : r' = r
        · subst e1; rw [h0] at z; cases z
        · exact e r' (by rw [oupd_n e1]; exact z)
    · obtain ⟨p1, x', p2, p3, p4⟩ := hρ k (by omega) hk
      rw [hqk] at p4
      have exx : x = x' := (nI_eq (by omega) (by omega)).mp p4
      subst exx
      obtain ⟨n1, n2⟩ := hj k (by omega) (Nat.le_refl _)
      have c1k : c1 (ρ k) = some x := by rw [n2, p3]
      have ea : a x = nI (ρ k) := (ha x hx).1 _ c1k
      rw [ea] at hstep
      obtain ⟨g1, g2⟩ := m_rot hinv hr h0 hF c1k
      obtain ⟨k', y, k1, k2, k3, k4, k5⟩ := hf k (by omega) hk
      have hco : ∀ z, z ≠ r → z ≠ ρ k → oupd (oupd c1 r (some x)) (ρ k) none z = c1 z := fun z z1 z2 => by rw [oupd_n z2, oupd_n z1]
      have hcr : oupd (oupd c1 r (some x)) (ρ k) none r = some x := by rw [oupd_n (fun e => n1 e.symm), oupd_s]
      have hck : oupd (oupd c1 r (some x)) (ρ k) none (ρ k) = none := oupd_s
      obtain ⟨h', a', c', w1, w2⟩ := ih k' k1 (ρ k) y (oupd (oupd c1 r (some x)) (ρ k) none) (upd h r (nI x)) (upd a x (nI r)) n (by omega) p1 k2 k3 k4 k5 hck g1 (fun z e => by
        by_cases e1 : z = r
        · subst e1
          rw [hcr] at e
          have := Option.some.inj e
          subst this
          exact hnb (ρ k) c1k
        · by_cases e2 : z = ρ k
          · subst e2; rw [hck] at e; cases e
          · rw [hco z e1 e2] at e; exact hnb z e) (fun j j1 j2 => by
        obtain ⟨m1, m2⟩ := hj j j1 (by omega)
        have e2 : ρ j ≠ ρ k := fun e => by have := hi j k j1 (by omega) (by omega) hk e; omega
        exact ⟨e2, by rw [hco (ρ j) m1 e2]; exact m2⟩) (fun r' hr' e => by
        by_cases e1 : r' = r
        · subst e1; rw [upd_s, hcr]; rfl
        · rw [upd_n e1, hco r' e1 e]; exact hh r' hr' e1) (fun b hb => ⟨fun r' e => by
        by_cases e1 : r' = r
        · subst e1
          rw [hcr] at e
          have := Option.some.inj e
          subst this
          rw [upd_s]
        · by_cases e2 : r' = ρ k
          · subst e2; rw [hck] at e; cases e
          · rw [hco r' e1 e2] at e
            have e3 : b ≠ x := fun z => by subst z; exact e2 (hinv.2.1 r' (ρ k) b e c1k)
            rw [upd_n e3]; exact (ha b hb).1 r' e, fun e => by
        have e3 : b ≠ x := fun z => by subst z; exact e r hcr
        rw [upd_n e3]
        refine (ha b hb).2 (fun r' z => ?_)
        by_cases e1 : r' = r
        · subst e1; rw [h0] at z; cases z
        · by_cases e2 : r' = ρ k
          · subst e2; rw [c1k] at z; exact e3 (Option.some.inj z).symm
          · exact e r' (by rw [hco r' e1 e2]; exact z)⟩) (by rw [g2]; exact hn) F1 (by omega)
      exact ⟨h', a', c', miter_l hstep w1, w2⟩
end
