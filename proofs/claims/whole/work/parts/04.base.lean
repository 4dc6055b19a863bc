/-! the words of the shallow semantics: memories, guarded reads and writes, loops with fuel -/
abbrev Mm : Type := Nat → Nat → Int32
def mset (μ : Mm) (k i : Nat) (v : Int32) : Mm := fun q => if q = k then upd (μ k) i v else μ q
def FU : Nat := 1048576
def mrd {α : Type} (μ : Mm) (k n : Nat) (i : Int32) (K : Int32 → Option α) : Option α := if i < 0 ∨ n ≤ i.toNatClampNeg then none else K (μ k i.toNatClampNeg)
def mwr {α : Type} (μ : Mm) (k n : Nat) (i v : Int32) (K : Mm → Option α) : Option α := if i < 0 ∨ n ≤ i.toNatClampNeg then none else K (mset μ k i.toNatClampNeg v)
def mdv {α : Type} (y : Int32) (K : Option α) : Option α := if y = 0 then none else K
def mzr {α : Type} (v : Int32) (K : Bool → Option α) : Option α := if v = 0 then K false else if v = 1 then K true else none
def bI (b : Bool) : Int32 := if b then 1 else 0
def mbv {α β : Type} (o : Option β) (K : β → Option α) : Option α := match o with
  | none => none
  | some v => K v
def mbm {α β : Type} (o : Option (β × Mm)) (K : β → Mm → Option α) : Option α := match o with
  | none => none
  | some q => K q.1 q.2
def ush (x y : Int32) : Int32 := (x.toUInt32 >>> (y.toUInt32 &&& Int32.toUInt32 31)).toInt32
def lcm (x y : Int64) : Int32 := if x < y then -1 else if x = y then 0 else 1
def miter {S E : Type} (f : S → Option (S ⊕ E)) : Nat → S → Option E
  | 0, _ => none
  | n + 1, q => match f q with
    | none => none
    | some (.inl q') => miter f n q'
    | some (.inr e) => some e
theorem miter_ind {S E : Type} {f : S → Option (S ⊕ E)} {e : E} {P : S → Prop} (step : ∀ q r, f q = some r → (∀ q', r = .inl q' → P q') → (∀ e', r = .inr e' → e' = e) → P q) : ∀ n q, miter f n q = some e → P q := by
  intro n
  induction n with
  | zero => intro q h; cases h
  | succ n ih =>
    intro q h
    cases hf : f q with
    | none => simp [miter, hf] at h
    | some r =>
      refine step q r hf (fun q' hr => ?_) (fun e' hr => ?_)
      · subst hr
        simp only [miter, hf] at h
        exact ih q' h
      · subst hr
        simp only [miter, hf] at h
        exact Option.some.inj h
theorem mrd_some {α : Type} {μ : Mm} {k n : Nat} {i : Int32} {K : Int32 → Option α} {r : α} (h : mrd μ k n i K = some r) : vp_in i n ∧ K (μ k i.toNatClampNeg) = some r := by
  unfold mrd at h
  split at h
  · cases h
  · rename_i h1
    exact ⟨h1, h⟩
theorem mwr_some {α : Type} {μ : Mm} {k n : Nat} {i v : Int32} {K : Mm → Option α} {r : α} (h : mwr μ k n i v K = some r) : vp_in i n ∧ K (mset μ k i.toNatClampNeg v) = some r := by
  unfold mwr at h
  split at h
  · cases h
  · rename_i h1
    exact ⟨h1, h⟩
theorem mdv_some {α : Type} {y : Int32} {K : Option α} {r : α} (h : mdv y K = some r) : ¬ y = 0 ∧ K = some r := by
  unfold mdv at h
  split at h
  · cases h
  · rename_i h1
    exact ⟨h1, h⟩
theorem mzr_some {α : Type} {v : Int32} {K : Bool → Option α} {r : α} (h : mzr v K = some r) : ∃ b, v = bI b ∧ K b = some r := by
  unfold mzr at h
  split at h
  · exact ⟨false, by assumption, h⟩
  · split at h
    · exact ⟨true, by assumption, h⟩
    · cases h
theorem mbv_some {α β : Type} {o : Option β} {K : β → Option α} {r : α} (h : mbv o K = some r) : ∃ v, o = some v ∧ K v = some r := by
  cases o with
  | none => cases h
  | some v => exact ⟨v, rfl, h⟩
theorem mbm_some {α β : Type} {o : Option (β × Mm)} {K : β → Mm → Option α} {r : α} (h : mbm o K = some r) : ∃ v u, o = some (v, u) ∧ K v u = some r := by
  cases o with
  | none => cases h
  | some q => exact ⟨q.1, q.2, rfl, h⟩
theorem if_p {c : Prop} [Decidable c] {α : Type} {a b x : α} (hc : c) (h : (if c then a else b) = x) : a = x := by rwa [if_pos hc] at h
theorem if_n {c : Prop} [Decidable c] {α : Type} {a b x : α} (hc : ¬ c) (h : (if c then a else b) = x) : b = x := by rwa [if_neg hc] at h
theorem bI_nar (b : Bool) : narrow .boolean (.int (bI b)) = .int (bI b) := by cases b <;> rfl
theorem bI_fit (b : Bool) : fits .boolean (.int (bI b)) = true := by cases b <;> rfl

def mst {α : Type} (μ : Mm) (k j : Nat) (v : Int32) (K : Mm → Option α) : Option α := K (mset μ k j v)
theorem mst_some {α : Type} {μ : Mm} {k j : Nat} {v : Int32} {K : Mm → Option α} {r : α} (h : mst μ k j v K = some r) : ∃ u, u = mset μ k j v ∧ K u = some r := ⟨_, rfl, h⟩
theorem mrd_ex {α : Type} {μ : Mm} {k n : Nat} {i : Int32} {K : Int32 → Option α} {r : α} (h : mrd μ k n i K = some r) : ∃ x, x = μ k i.toNatClampNeg ∧ vp_in i n ∧ K x = some r := ⟨_, rfl, mrd_some h⟩
theorem mwr_ex {α : Type} {μ : Mm} {k n : Nat} {i v : Int32} {K : Mm → Option α} {r : α} (h : mwr μ k n i v K = some r) : ∃ u, u = mset μ k i.toNatClampNeg v ∧ vp_in i n ∧ K u = some r := ⟨_, rfl, mwr_some h⟩
def un2 {A1 A2 B : Type} (f : A1 → A2 → B) (q : A1 × A2) : B := f q.1 q.2
theorem un2_ex {A1 A2 B : Type} {f : A1 → A2 → B} {q : A1 × A2} {r : B} (h : un2 f q = r) : ∃ x1 x2, q = (x1, x2) ∧ f x1 x2 = r := ⟨_, _, rfl, h⟩
def un3 {A1 A2 A3 B : Type} (f : A1 → A2 → A3 → B) (q : A1 × A2 × A3) : B := f q.1 q.2.1 q.2.2
theorem un3_ex {A1 A2 A3 B : Type} {f : A1 → A2 → A3 → B} {q : A1 × A2 × A3} {r : B} (h : un3 f q = r) : ∃ x1 x2 x3, q = (x1, x2, x3) ∧ f x1 x2 x3 = r := ⟨_, _, _, rfl, h⟩
def un4 {A1 A2 A3 A4 B : Type} (f : A1 → A2 → A3 → A4 → B) (q : A1 × A2 × A3 × A4) : B := f q.1 q.2.1 q.2.2.1 q.2.2.2
theorem un4_ex {A1 A2 A3 A4 B : Type} {f : A1 → A2 → A3 → A4 → B} {q : A1 × A2 × A3 × A4} {r : B} (h : un4 f q = r) : ∃ x1 x2 x3 x4, q = (x1, x2, x3, x4) ∧ f x1 x2 x3 x4 = r := ⟨_, _, _, _, rfl, h⟩
def un5 {A1 A2 A3 A4 A5 B : Type} (f : A1 → A2 → A3 → A4 → A5 → B) (q : A1 × A2 × A3 × A4 × A5) : B := f q.1 q.2.1 q.2.2.1 q.2.2.2.1 q.2.2.2.2
theorem un5_ex {A1 A2 A3 A4 A5 B : Type} {f : A1 → A2 → A3 → A4 → A5 → B} {q : A1 × A2 × A3 × A4 × A5} {r : B} (h : un5 f q = r) : ∃ x1 x2 x3 x4 x5, q = (x1, x2, x3, x4, x5) ∧ f x1 x2 x3 x4 x5 = r := ⟨_, _, _, _, _, rfl, h⟩
def un6 {A1 A2 A3 A4 A5 A6 B : Type} (f : A1 → A2 → A3 → A4 → A5 → A6 → B) (q : A1 × A2 × A3 × A4 × A5 × A6) : B := f q.1 q.2.1 q.2.2.1 q.2.2.2.1 q.2.2.2.2.1 q.2.2.2.2.2
theorem un6_ex {A1 A2 A3 A4 A5 A6 B : Type} {f : A1 → A2 → A3 → A4 → A5 → A6 → B} {q : A1 × A2 × A3 × A4 × A5 × A6} {r : B} (h : un6 f q = r) : ∃ x1 x2 x3 x4 x5 x6, q = (x1, x2, x3, x4, x5, x6) ∧ f x1 x2 x3 x4 x5 x6 = r := ⟨_, _, _, _, _, _, rfl, h⟩
def un7 {A1 A2 A3 A4 A5 A6 A7 B : Type} (f : A1 → A2 → A3 → A4 → A5 → A6 → A7 → B) (q : A1 × A2 × A3 × A4 × A5 × A6 × A7) : B := f q.1 q.2.1 q.2.2.1 q.2.2.2.1 q.2.2.2.2.1 q.2.2.2.2.2.1 q.2.2.2.2.2.2
theorem un7_ex {A1 A2 A3 A4 A5 A6 A7 B : Type} {f : A1 → A2 → A3 → A4 → A5 → A6 → A7 → B} {q : A1 × A2 × A3 × A4 × A5 × A6 × A7} {r : B} (h : un7 f q = r) : ∃ x1 x2 x3 x4 x5 x6 x7, q = (x1, x2, x3, x4, x5, x6, x7) ∧ f x1 x2 x3 x4 x5 x6 x7 = r := ⟨_, _, _, _, _, _, _, rfl, h⟩
def un8 {A1 A2 A3 A4 A5 A6 A7 A8 B : Type} (f : A1 → A2 → A3 → A4 → A5 → A6 → A7 → A8 → B) (q : A1 × A2 × A3 × A4 × A5 × A6 × A7 × A8) : B := f q.1 q.2.1 q.2.2.1 q.2.2.2.1 q.2.2.2.2.1 q.2.2.2.2.2.1 q.2.2.2.2.2.2.1 q.2.2.2.2.2.2.2
theorem un8_ex {A1 A2 A3 A4 A5 A6 A7 A8 B : Type} {f : A1 → A2 → A3 → A4 → A5 → A6 → A7 → A8 → B} {q : A1 × A2 × A3 × A4 × A5 × A6 × A7 × A8} {r : B} (h : un8 f q = r) : ∃ x1 x2 x3 x4 x5 x6 x7 x8, q = (x1, x2, x3, x4, x5, x6, x7, x8) ∧ f x1 x2 x3 x4 x5 x6 x7 x8 = r := ⟨_, _, _, _, _, _, _, _, rfl, h⟩
def msum2 {A1 A2 B : Type} (o : Option (A1 ⊕ A2)) (f1 : A1 → Option B) (f2 : A2 → Option B) : Option B := match o with
  | none => none
  | some (.inl a) => f1 a
  | some (.inr a) => f2 a
theorem msum2_ex {A1 A2 B : Type} {o : Option (A1 ⊕ A2)} {f1 : A1 → Option B} {f2 : A2 → Option B} {r : B} (h : msum2 o f1 f2 = some r) : (∃ a, o = some (.inl a) ∧ f1 a = some r) ∨ (∃ a, o = some (.inr a) ∧ f2 a = some r) := by
  rcases o with _ | a | a
  · cases h
  · exact Or.inl ⟨a, rfl, h⟩
  · exact Or.inr ⟨a, rfl, h⟩
def msum3 {A1 A2 A3 B : Type} (o : Option (A1 ⊕ A2 ⊕ A3)) (f1 : A1 → Option B) (f2 : A2 → Option B) (f3 : A3 → Option B) : Option B := match o with
  | none => none
  | some (.inl a) => f1 a
  | some (.inr (.inl a)) => f2 a
  | some (.inr (.inr a)) => f3 a
theorem msum3_ex {A1 A2 A3 B : Type} {o : Option (A1 ⊕ A2 ⊕ A3)} {f1 : A1 → Option B} {f2 : A2 → Option B} {f3 : A3 → Option B} {r : B} (h : msum3 o f1 f2 f3 = some r) : (∃ a, o = some (.inl a) ∧ f1 a = some r) ∨ (∃ a, o = some (.inr (.inl a)) ∧ f2 a = some r) ∨ (∃ a, o = some (.inr (.inr a)) ∧ f3 a = some r) := by
  rcases o with _ | a | a | a
  · cases h
  · exact Or.inl ⟨a, rfl, h⟩
  · exact Or.inr (Or.inl ⟨a, rfl, h⟩)
  · exact Or.inr (Or.inr ⟨a, rfl, h⟩)
def msum4 {A1 A2 A3 A4 B : Type} (o : Option (A1 ⊕ A2 ⊕ A3 ⊕ A4)) (f1 : A1 → Option B) (f2 : A2 → Option B) (f3 : A3 → Option B) (f4 : A4 → Option B) : Option B := match o with
  | none => none
  | some (.inl a) => f1 a
  | some (.inr (.inl a)) => f2 a
  | some (.inr (.inr (.inl a))) => f3 a
  | some (.inr (.inr (.inr a))) => f4 a
theorem msum4_ex {A1 A2 A3 A4 B : Type} {o : Option (A1 ⊕ A2 ⊕ A3 ⊕ A4)} {f1 : A1 → Option B} {f2 : A2 → Option B} {f3 : A3 → Option B} {f4 : A4 → Option B} {r : B} (h : msum4 o f1 f2 f3 f4 = some r) : (∃ a, o = some (.inl a) ∧ f1 a = some r) ∨ (∃ a, o = some (.inr (.inl a)) ∧ f2 a = some r) ∨ (∃ a, o = some (.inr (.inr (.inl a))) ∧ f3 a = some r) ∨ (∃ a, o = some (.inr (.inr (.inr a))) ∧ f4 a = some r) := by
  rcases o with _ | a | a | a | a
  · cases h
  · exact Or.inl ⟨a, rfl, h⟩
  · exact Or.inr (Or.inl ⟨a, rfl, h⟩)
  · exact Or.inr (Or.inr (Or.inl ⟨a, rfl, h⟩))
  · exact Or.inr (Or.inr (Or.inr ⟨a, rfl, h⟩))
theorem oi_1 : Int32.ofInt 1 = 1 := by decide
theorem oi_m1 : Int32.ofInt (-1) = (-1) := by decide
theorem oi_m8 : Int32.ofInt (-8) = (-8) := by decide
def jmax (x y : Int32) : Int32 := if x < y then y else x
def jmin (x y : Int32) : Int32 := if y < x then y else x
def jabs (x : Int32) : Int32 := if 0 ≤ x then x else 0 - x
