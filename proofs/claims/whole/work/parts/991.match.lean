/-! pairs: the graph alone. x's are added one by one, c gives each y its x; T chooses for each pair who is in the cover -/
theorem cn_inj {p : Nat → Bool} (f : Nat → Nat) {m : Nat} : ∀ (n : Nat) (q : Nat → Bool), (∀ i, i < n → p i = true → f i < m ∧ q (f i) = true) → (∀ i j, i < n → j < n → p i = true → p j = true → f i = f j → i = j) → cn p n ≤ cn q m
  | 0, _, _, _ => Nat.zero_le _
  | n + 1, q, h1, h2 => by
    simp only [cn]
    cases c : p n
    · have := cn_inj f n q (fun i hi hp => h1 i (by omega) hp) (fun i j hi hj => h2 i j (by omega) (by omega))
      rw [Bool.toNat_false]
      omega
    · obtain ⟨a1, a2⟩ := h1 n (by omega) c
      have := cn_inj f n (fun j => q j && !decide (j = f n)) (fun i hi hp => by
        obtain ⟨b1, b2⟩ := h1 i (by omega) hp
        refine ⟨b1, ?_⟩
        have : ¬ (f i = f n) := fun e => by have := h2 i n (by omega) (by omega) hp c e; omega
        simp [b2, this]) (fun i j hi hj => h2 i j (by omega) (by omega))
      have e := cn_dn (p := q) (p' := fun j => q j && !decide (j = f n)) (b := f n) (fun k hk => by simp [hk]) a2 (by simp) a1
      rw [Bool.toNat_true]
      omega
def mSz (c : Nat → Option Nat) (m : Nat) : Nat := cn (fun y => (c y).isSome) m
/-- the cover of the x's in P -/
def covK (F : Nat → Nat → Bool) (P : Nat → Bool) (m : Nat) (c : Nat → Option Nat) (T : Nat → Bool) : Prop := ∀ x y, P x = true → y < m → F x y = true → ((c y).isSome = true ∧ T y = true) ∨ ∃ y2, y2 < m ∧ c y2 = some x ∧ T y2 = false
/-- a matching's size is at most the cover's -/
theorem cov_max {F : Nat → Nat → Bool} {P : Nat → Bool} {n m : Nat} {c : Nat → Option Nat} {T : Nat → Bool} (hc : covK F P m c T) (a : Nat → Option Nat) (ha : ∀ x y, x < n → a x = some y → P x = true ∧ y < m ∧ F x y = true) (hi : ∀ x x' y, x < n → x' < n → a x = some y → a x' = some y → x = x') : mSz a n ≤ mSz c m := by
  have key : ∀ x, x < n → (a x).isSome = true → ∃ z, z < m ∧ (c z).isSome = true ∧ ((a x = some z ∧ T z = true) ∨ (c z = some x ∧ T z = false)) := by
    intro x hx h
    cases e : a x with
    | none => rw [e] at h; cases h
    | some y =>
      obtain ⟨p1, p2, p3⟩ := ha x y hx e
      rcases hc x y p1 p2 p3 with ⟨q1, q2⟩ | ⟨y2, q1, q2, q3⟩
      · exact ⟨y, p2, q1, Or.inl ⟨rfl, q2⟩⟩
      · exact ⟨y2, q1, by rw [q2]; rfl, Or.inr ⟨q2, q3⟩⟩
  refine cn_inj (fun x => if h : x < n ∧ (a x).isSome = true then Classical.choose (key x h.1 h.2) else 0) n _ (fun x hx hp => ?_) (fun x x' hx hx' hp hp' e => ?_)
  · have h : x < n ∧ (a x).isSome = true := ⟨hx, hp⟩
    have s := Classical.choose_spec (key x h.1 h.2)
    simp only [dif_pos h]
    exact ⟨s.1, s.2.1⟩
  · have h : x < n ∧ (a x).isSome = true := ⟨hx, hp⟩
    have h' : x' < n ∧ (a x').isSome = true := ⟨hx', hp'⟩
    have s := Classical.choose_spec (key x h.1 h.2)
    have s' := Classical.choose_spec (key x' h'.1 h'.2)
    simp only [dif_pos h, dif_pos h'] at e
    rw [← e] at s'
    rcases s.2.2 with ⟨q1, q2⟩ | ⟨q1, q2⟩
    · rcases s'.2.2 with ⟨r1, r2⟩ | ⟨r1, r2⟩
      · exact hi x x' _ hx hx' q1 r1
      · rw [q2] at r2; cases r2
    · rcases s'.2.2 with ⟨r1, r2⟩ | ⟨r1, r2⟩
      · rw [q2] at r2; cases r2
      · rw [q1] at r1; exact Option.some.inj r1
/-- a matching of the x's in P with its cover -/
def mInv (F : Nat → Nat → Bool) (P : Nat → Bool) (m : Nat) (c : Nat → Option Nat) (T : Nat → Bool) : Prop := (∀ y x, c y = some x → y < m ∧ P x = true ∧ F x y = true) ∧ (∀ y y' x, c y = some x → c y' = some x → y = y') ∧ (∀ y, T y = true → (c y).isSome = true) ∧ covK F P m c T
def oupd (c : Nat → Option Nat) (i : Nat) (v : Option Nat) : Nat → Option Nat := fun j => if j = i then v else c j
theorem oupd_s {c : Nat → Option Nat} {i : Nat} {v : Option Nat} : oupd c i v i = v := if_pos rfl
theorem oupd_n {c : Nat → Option Nat} {i j : Nat} {v : Option Nat} (h : j ≠ i) : oupd c i v j = c j := if_neg h
def pad (P : Nat → Bool) (x z : Nat) : Bool := P z || decide (z = x)
section
variable {F : Nat → Nat → Bool} {P : Nat → Bool} {m : Nat} {c : Nat → Option Nat} {T : Nat → Bool}
theorem m_fail (h : mInv F P m c T) (x0 : Nat) (V : Nat → Bool) (h1 : ∀ y, V y = true → (c y).isSome = true) (h2 : ∀ y, y < m → F x0 y = true → V y = true) (h3 : ∀ y x, V y = true → c y = some x → ∀ y', y' < m → F x y' = true → V y' = true) : mInv F (pad P x0) m c (fun y => T y || V y) := by
  obtain ⟨m1, m2, mt, mc⟩ := h
  refine ⟨fun y x e => ?_, m2, fun y e => ?_, fun x y hx hy hF => ?_⟩
  · obtain ⟨a, b, d⟩ := m1 y x e
    exact ⟨a, by unfold pad; rw [b]; rfl, d⟩
  · rw [Bool.or_eq_true] at e
    rcases e with e | e
    · exact mt y e
    · exact h1 y e
  · by_cases cx : x = x0
    · subst cx
      have v := h2 y hy hF
      exact Or.inl ⟨h1 y v, by simp [v]⟩
    · have px : P x = true := by
        unfold pad at hx
        simpa [cx] using hx
      by_cases cv : ∃ z, V z = true ∧ c z = some x
      · obtain ⟨z, z1, z2⟩ := cv
        have v := h3 z x z1 z2 y hy hF
        exact Or.inl ⟨h1 y v, by simp [v]⟩
      · rcases mc x y px hy hF with ⟨q1, q2⟩ | ⟨y2, q1, q2, q3⟩
        · exact Or.inl ⟨q1, by simp [q2]⟩
        · refine Or.inr ⟨y2, q1, q2, ?_⟩
          cases v : V y2
          · simp [q3, v]
          · exact absurd ⟨y2, v, q2⟩ cv
theorem m_rot (h : mInv F P m c T) {x y y' : Nat} (hy : y < m) (h0 : c y = none) (hF : F x y = true) (h1 : c y' = some x) : mInv F P m (oupd (oupd c y (some x)) y' none) T ∧ mSz (oupd (oupd c y (some x)) y' none) m = mSz c m := by
  obtain ⟨m1, m2, mt, mc⟩ := h
  have hne : y ≠ y' := fun e => by rw [e, h1] at h0; cases h0
  obtain ⟨b1, b2, b3⟩ := m1 y' x h1
  have hT : T y' = false := by
    rcases mc x y b2 hy hF with ⟨q1, _⟩ | ⟨y2, _, q2, q3⟩
    · rw [h0] at q1; cases q1
    · rw [m2 y' y2 x h1 q2]; exact q3
  have hTy : T y = false := by
    cases e : T y
    · rfl
    · have := mt y e; rw [h0] at this; cases this
  have cy : oupd (oupd c y (some x)) y' none y = some x := by rw [oupd_n hne, oupd_s]
  have cy' : oupd (oupd c y (some x)) y' none y' = none := oupd_s
  have co : ∀ z, z ≠ y → z ≠ y' → oupd (oupd c y (some x)) y' none z = c z := fun z z1 z2 => by rw [oupd_n z2, oupd_n z1]
  generalize oupd (oupd c y (some x)) y' none = c' at cy cy' co
  refine ⟨⟨fun z u e => ?_, fun z z' u e e' => ?_, fun z e => ?_, fun u z hu hz hFu => ?_⟩, ?_⟩
  · by_cases e1 : z = y
    · subst e1; rw [cy] at e; have := Option.some.inj e; subst this; exact ⟨hy, b2, hF⟩
    · by_cases e2 : z = y'
      · subst e2; rw [cy'] at e; cases e
      · rw [co z e1 e2] at e; exact m1 z u e
  · by_cases e1 : z = y
    · by_cases e1' : z' = y
      · rw [e1, e1']
      · subst e1
        rw [cy] at e
        have := Option.some.inj e
        subst this
        by_cases e2 : z' = y'
        · subst e2; rw [cy'] at e'; cases e'
        · rw [co z' e1' e2] at e'
          exact absurd (m2 z' y' x e' h1) e2
    · by_cases e2 : z = y'
      · subst e2; rw [cy'] at e; cases e
      · rw [co z e1 e2] at e
        by_cases e1' : z' = y
        · subst e1'
          rw [cy] at e'
          have := Option.some.inj e'
          subst this
          exact absurd (m2 z y' x e h1) e2
        · by_cases e2' : z' = y'
          · subst e2'; rw [cy'] at e'; cases e'
          · rw [co z' e1' e2'] at e'; exact m2 z z' u e e'
  · by_cases e1 : z = y
    · subst e1; rw [hTy] at e; cases e
    · by_cases e2 : z = y'
      · subst e2; rw [hT] at e; cases e
      · rw [co z e1 e2]; exact mt z e
  · rcases mc u z hu hz hFu with ⟨q1, q2⟩ | ⟨y2, q1, q2, q3⟩
    · have e2 : z ≠ y' := fun e => by rw [e, hT] at q2; cases q2
      have e1 : z ≠ y := fun e => by rw [e, hTy] at q2; cases q2
      exact Or.inl ⟨by rw [co z e1 e2]; exact q1, q2⟩
    · by_cases e2 : y2 = y'
      · subst e2
        rw [h1] at q2
        have := Option.some.inj q2
        subst this
        exact Or.inr ⟨y, hy, cy, hTy⟩
      · have e1 : y2 ≠ y := fun e => by rw [e, h0] at q2; cases q2
        exact Or.inr ⟨y2, q1, by rw [co y2 e1 e2]; exact q2, q3⟩
  · have s1 := cn_up (p := fun z => (c z).isSome) (p' := fun z => ((oupd c y (some x)) z).isSome) (b := y) (fun k hk => by show ((oupd c y (some x)) k).isSome = _; rw [oupd_n hk]) (by show (c y).isSome = false; rw [h0]; rfl) (by show ((oupd c y (some x)) y).isSome = true; rw [oupd_s]; rfl) hy
    have s2 := cn_dn (p := fun z => ((oupd c y (some x)) z).isSome) (p' := fun z => (c' z).isSome) (b := y') (fun k hk => by
      show (c' k).isSome = ((oupd c y (some x)) k).isSome
      by_cases e : k = y
      · subst e; rw [cy, oupd_s]
      · rw [co k e hk, oupd_n e]) (by show ((oupd c y (some x)) y').isSome = true; rw [oupd_n (fun e => hne e.symm), h1]; rfl) (by show (c' y').isSome = false; rw [cy']; rfl) b1
    unfold mSz
    omega
theorem m_fin (h : mInv F P m c T) {x y : Nat} (hy : y < m) (h0 : c y = none) (hF : F x y = true) (h1 : ∀ z, c z ≠ some x) : mInv F (pad P x) m (oupd c y (some x)) T ∧ mSz (oupd c y (some x)) m = mSz c m + 1 := by
  obtain ⟨m1, m2, mt, mc⟩ := h
  have hTy : T y = false := by
    cases e : T y
    · rfl
    · have := mt y e; rw [h0] at this; cases this
  refine ⟨⟨fun z u e => ?_, fun z z' u e e' => ?_, fun z e => ?_, fun u z hu hz hFu => ?_⟩, ?_⟩
  · by_cases e1 : z = y
    · subst e1; rw [oupd_s] at e; have := Option.some.inj e; subst this; exact ⟨hy, by unfold pad; simp, hF⟩
    · rw [oupd_n e1] at e
      obtain ⟨a, b, d⟩ := m1 z u e
      exact ⟨a, by unfold pad; rw [b]; rfl, d⟩
  · by_cases e1 : z = y
    · by_cases e1' : z' = y
      · rw [e1, e1']
      · subst e1
        rw [oupd_s] at e
        have := Option.some.inj e
        subst this
        rw [oupd_n e1'] at e'
        exact absurd e' (h1 z')
    · rw [oupd_n e1] at e
      by_cases e1' : z' = y
      · subst e1'
        rw [oupd_s] at e'
        have := Option.some.inj e'
        subst this
        exact absurd e (h1 z)
      · rw [oupd_n e1'] at e'; exact m2 z z' u e e'
  · by_cases e1 : z = y
    · subst e1; rw [oupd_s]; rfl
    · rw [oupd_n e1]; exact mt z e
  · by_cases cx : u = x
    · subst cx
      exact Or.inr ⟨y, hy, oupd_s, hTy⟩
    · have px : P u = true := by
        unfold pad at hu
        simpa [cx] using hu
      rcases mc u z px hz hFu with ⟨q1, q2⟩ | ⟨y2, q1, q2, q3⟩
      · have e1 : z ≠ y := fun e => by rw [e, hTy] at q2; cases q2
        exact Or.inl ⟨by rw [oupd_n e1]; exact q1, q2⟩
      · have e1 : y2 ≠ y := fun e => by rw [e, h0] at q2; cases q2
        exact Or.inr ⟨y2, q1, by rw [oupd_n e1]; exact q2, q3⟩
  · exact cn_up (p := fun z => (c z).isSome) (p' := fun z => ((oupd c y (some x)) z).isSome) (b := y) (fun k hk => by show ((oupd c y (some x)) k).isSome = _; rw [oupd_n hk]) (by show (c y).isSome = false; rw [h0]; rfl) (by show ((oupd c y (some x)) y).isSome = true; rw [oupd_s]; rfl) hy
theorem m_none : mInv F (fun _ => false) m (fun _ => none) (fun _ => false) := ⟨fun _ _ e => (nomatch e), fun _ _ _ e => (nomatch e), fun _ e => (nomatch e), fun _ _ e => (nomatch e)⟩
theorem m_P {Q : Nat → Bool} (h : mInv F P m c T) (e : ∀ x, P x = Q x) : mInv F Q m c T := by
  have : P = Q := funext e
  rw [← this]; exact h
end
