abbrev Mm : Type := Nat → Nat → Int32
def st (μ : Mm) (k i : Nat) (v : Int32) : Mm := fun q => if q = k then upd (μ k) i v else μ q
def FU : Nat := 1048576
def rd {α : Type} (μ : Mm) (k n : Nat) (i : Int32) (K : Int32 → Option α) : Option α := if i < 0 ∨ n ≤ i.toNatClampNeg then none else K (μ k i.toNatClampNeg)
def wr {α : Type} (μ : Mm) (k n : Nat) (i v : Int32) (K : Mm → Option α) : Option α := if i < 0 ∨ n ≤ i.toNatClampNeg then none else K (st μ k i.toNatClampNeg v)
def sf {α : Type} (μ : Mm) (k j : Nat) (v : Int32) (K : Mm → Option α) : Option α := K (st μ k j v)
def dv {α : Type} (y : Int32) (K : Option α) : Option α := if y = 0 then none else K
def zr {α : Type} (v : Int32) (K : Option α) : Option α := if v = 0 ∨ v = 1 then K else none
def bv {α β : Type} (o : Option β) (K : β → Option α) : Option α := match o with
  | none => none
  | some v => K v
def bm {α β : Type} (o : Option (β × Mm)) (K : β → Mm → Option α) : Option α := match o with
  | none => none
  | some q => K q.1 q.2
def ush (x y : Int32) : Int32 := (x.toUInt32 >>> (y.toUInt32 &&& Int32.toUInt32 31)).toInt32
def iter {S E : Type} (f : S → Option (S ⊕ E)) : Nat → S → Option E
  | 0, _ => none
  | n + 1, q => match f q with
    | none => none
    | some (.inl q') => iter f n q'
    | some (.inr e) => some e
theorem iter_ind {S E : Type} {f : S → Option (S ⊕ E)} {e : E} {P : S → Prop} (step : ∀ q r, f q = some r → (∀ q', r = .inl q' → P q') → (∀ e', r = .inr e' → e' = e) → P q) : ∀ n q, iter f n q = some e → P q := by
  intro n
  induction n with
  | zero => intro q h; cases h
  | succ n ih =>
    intro q h
    cases hf : f q with
    | none => simp [iter, hf] at h
    | some r =>
      refine step q r hf (fun q' hr => ?_) (fun e' hr => ?_)
      · subst hr
        simp only [iter, hf] at h
        exact ih q' h
      · subst hr
        simp only [iter, hf] at h
        exact Option.some.inj h
theorem rd_some {α : Type} {μ : Mm} {k n : Nat} {i : Int32} {K : Int32 → Option α} {r : α} (h : rd μ k n i K = some r) : vp_in i n ∧ K (μ k i.toNatClampNeg) = some r := by
  unfold rd at h
  split at h
  · cases h
  · rename_i h1
    exact ⟨h1, h⟩
theorem wr_some {α : Type} {μ : Mm} {k n : Nat} {i v : Int32} {K : Mm → Option α} {r : α} (h : wr μ k n i v K = some r) : vp_in i n ∧ K (st μ k i.toNatClampNeg v) = some r := by
  unfold wr at h
  split at h
  · cases h
  · rename_i h1
    exact ⟨h1, h⟩
theorem dv_some {α : Type} {y : Int32} {K : Option α} {r : α} (h : dv y K = some r) : ¬ y = 0 ∧ K = some r := by
  unfold dv at h
  split at h
  · cases h
  · rename_i h1
    exact ⟨h1, h⟩
theorem zr_some {α : Type} {v : Int32} {K : Option α} {r : α} (h : zr v K = some r) : (v = 0 ∨ v = 1) ∧ K = some r := by
  unfold zr at h
  split at h
  · rename_i h1
    exact ⟨h1, h⟩
  · cases h
theorem bv_some {α β : Type} {o : Option β} {K : β → Option α} {r : α} (h : bv o K = some r) : ∃ v, o = some v ∧ K v = some r := by
  cases o with
  | none => cases h
  | some v => exact ⟨v, rfl, h⟩
theorem bm_some {α β : Type} {o : Option (β × Mm)} {K : β → Mm → Option α} {r : α} (h : bm o K = some r) : ∃ v u, o = some (v, u) ∧ K v u = some r := by
  cases o with
  | none => cases h
  | some q => exact ⟨q.1, q.2, rfl, h⟩
theorem zr_nar {v : Int32} (h : v = 0 ∨ v = 1) : narrow .boolean (.int v) = .int v := by
  rcases h with rfl | rfl <;> rfl
def rmD (d : Nat) : Room := { frames := d, cells := 0, slots := 0, locals := 60 * d }
/-- the world of a method, along its walk -/
def wP (D : va_G) (Wd : Mm → va_W) (A : Nat → Prop) (H0 : Heap) (μ : Mm) (H : Heap) (locs : List Loc) : Prop := va_P D vwCl (Wd μ) H ∧ va_D A (Wd μ) ∧ va_S A H0 H locs ∧ ∀ q : Nat, H0.size ≤ q → A q
/-- the world at a method's start -/
def wU (D : va_G) (tys : List (ClassId × FieldType)) (Wd : Mm → va_W) (A : Nat → Prop) (μ : Mm) (U : State) : Prop := va_P D vwCl (Wd μ) U.heap ∧ va_K D vwCl tys U ∧ va_D A (Wd μ) ∧ (∀ q : Nat, U.heap.size ≤ q → A q) ∧ ∀ w ∈ nW, va_Nw w U
/-- the world behind a method -/
def wV (D : va_G) (Wd : Mm → va_W) (A : Nat → Prop) (u : Mm) (t : State) : Prop := va_P D vwCl (Wd u) t.heap ∧ va_D A (Wd u)
def Cx (D : va_G) (tys : List (ClassId × FieldType)) (own : String) (cc : ByteArray) (nL : Nat) (p : Program) (s : State) (m : MethodId) (args : Array Value) (c : Code) : Prop := p.tables.exec = Jvm.exec ∧ c.code = cc ∧ c.maxLocals = nL ∧ s.vm.findClass own = some m.cls ∧ (∀ w ∈ wT, w.before args s = true) ∧ va_K D vwCl tys s ∧ ∀ w ∈ nW, va_Nw w s
abbrev wY (y : MethodName) (cc : ByteArray) (nL : Nat) (ret : Option FieldType) : List Cond := Cond.code y cc nL ret :: wT
abbrev Cti (l : Launch) (D : va_G) (tys : List (ClassId × FieldType)) (A : Nat → Prop) (Wd : Mm → va_W) (y : MethodName) (cc : ByteArray) (nL : Nat) (ret : Option FieldType) (d : Nat) (av : List Value) (μ : Mm) (v : Int32) (u : Mm) : Prop := Met l y (wY y cc nL ret) (rmD d) (va_Pc av (wU D tys Wd A μ)) (va_Qi (fun (x : Int32) (z : Mm) => x = v ∧ z = u) (wV D Wd A) A) 0 0 A
abbrev Ctl (l : Launch) (D : va_G) (tys : List (ClassId × FieldType)) (A : Nat → Prop) (Wd : Mm → va_W) (y : MethodName) (cc : ByteArray) (nL : Nat) (ret : Option FieldType) (d : Nat) (av : List Value) (μ : Mm) (v : Int64) (u : Mm) : Prop := Met l y (wY y cc nL ret) (rmD d) (va_Pc av (wU D tys Wd A μ)) (va_Ql (fun (x : Int64) (z : Mm) => x = v ∧ z = u) (wV D Wd A) A) 0 0 A
abbrev Ctv (l : Launch) (D : va_G) (tys : List (ClassId × FieldType)) (A : Nat → Prop) (Wd : Mm → va_W) (y : MethodName) (cc : ByteArray) (nL : Nat) (ret : Option FieldType) (d : Nat) (av : List Value) (μ : Mm) (u : Mm) : Prop := Met l y (wY y cc nL ret) (rmD d) (va_Pc av (wU D tys Wd A μ)) (va_Qv (fun (z : Mm) => z = u) (wV D Wd A) A) 0 0 A
theorem nests_warm {s U : State} (hW : s.WarmedH U.vm) (h : ∀ w ∈ nW, va_Nw w s) : ∀ w ∈ nW, va_Nw w U := by
  intro w hw
  have hz := h w hw
  have hk : ∃ (a : String) (i : Nat) (x : MethodName) (g : String), w = .methodLinkNest a i x g := by
    revert w
    decide +kernel
  obtain ⟨a, i, x, g, rfl⟩ := hk
  exact va_Nw.warmM hW hz
theorem wU_blind {av : List Value} {D : va_G} {tys : List (ClassId × FieldType)} {Wd : Mm → va_W} {A : Nat → Prop} {μ : Mm} : FrameBlind (va_Pc av (wU D tys Wd A μ)) := by
  intro a U g mk h
  obtain ⟨h0, h1, h2, h3, h4, h5⟩ := h
  exact ⟨h0, h1, va_K.moved (u := U) (U := U.calling g mk a) (Vm.Alike.refl U.vm) h2, h3, h4, fun w hw => va_Nw.same (by revert w; decide +kernel) rfl (h5 w hw)⟩
theorem ent {l : Launch} {D : va_G} {tys : List (ClassId × FieldType)} {A : Nat → Prop} {Wd : Mm → va_W} {y : MethodName} {cc : ByteArray} {nL : Nat} {ret : Option FieldType} {rm : Room} {av : List Value} {μ : Mm} {Qc : Array Value → State → Outcome → State → Prop} {mc ms : Nat} {lv : List (Nat × Value)} (hy : plainName y.cls = true) (hlen : (lg_sl av).length ≤ nL) (hlv : lv_args 0 av = lv)
    (body : ∀ p e s m args below meth c, Cx D tys y.cls cc nL p s m args c → meth.sig.returnType = ret → meth.locks = false → meth.name = y.name → wP D Wd A s.heap μ s.heap [] → ∀ ls, lv_has ls nL lv → W p l e rm s m args below meth c s.heap [] 0 0 (MQ below Qc args s mc ms A) (F0 m 0 ls [])) : Met l y (wY y cc nL ret) rm (va_Pc av (wU D tys Wd A μ)) Qc mc ms A := by
  refine Met.ofW (cc := cc) (maxL := nL) (ret := ret) hy rfl ?_
  intro p e s m args below meth c s₁ B hml hv
  obtain ⟨rfl, hP, hK, hD, hA, hN⟩ := hv
  have hts := atoms_spec (ws := wY y cc nL ret) B.pre
  have hown : s.vm.findClass y.cls = some m.cls := findClass_of_methodNamed B.named
  have hl := lv_entry av (n := nL) hlen
  rw [lg_entry_eq]
  generalize (lg_sl av ++ List.replicate (nL - (lg_sl av).length) Slot.unset).toArray = ls at hl ⊢
  rw [hlv] at hl
  exact body p e s m _ below meth c ⟨B.exec, B.bytes, hml, hown, fun w h => hts w (List.mem_cons_of_mem _ h), hK, hN⟩ B.returns B.notSynchronized (name_of_methodNamed B.named B.method).1 ⟨hP, hD, va_S.rf, hA⟩ ls hl
