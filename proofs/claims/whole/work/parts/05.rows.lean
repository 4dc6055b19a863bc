/-! a side's world, contracts over it, and the kit's rows said for it -/
abbrev Gx : Type := va_G × (ClassId × ClassId × ClassId) × (Nat → Nat) × va_W
def ad (g : Gx) (k : Nat) : Nat := g.2.2.1 k
def cI (g : Gx) : ClassId := g.2.1.1
def cZ (g : Gx) : ClassId := g.2.1.2.1
def cB (g : Gx) : ClassId := g.2.1.2.2
def gT (g : Gx) : List (ClassId × FieldType) := [(cI g, .int), (cZ g, .boolean), (cB g, .byte)]
def rmD (d : Nat) : Room := { frames := d, cells := 0, slots := 0, locals := 60 * d }
/-- the world of a method, along its walk -/
def wP (g : Gx) (Wd : Gx → Mm → va_W) (A : Nat → Prop) (H0 : Heap) (μ : Mm) (H : Heap) (locs : List Loc) : Prop := va_P g.1 vwCl (Wd g μ) H ∧ va_D A (Wd g μ) ∧ va_S A H0 H locs ∧ ∀ q : Nat, H0.size ≤ q → A q
/-- the world at a method's start -/
def wU (g : Gx) (Wd : Gx → Mm → va_W) (A : Nat → Prop) (μ : Mm) (U : State) : Prop := va_P g.1 vwCl (Wd g μ) U.heap ∧ va_K g.1 vwCl (gT g) U ∧ va_D A (Wd g μ) ∧ (∀ q : Nat, U.heap.size ≤ q → A q) ∧ ∀ w ∈ nW, va_Nw w U
/-- the world behind a method -/
def wV (g : Gx) (Wd : Gx → Mm → va_W) (A : Nat → Prop) (u : Mm) (t : State) : Prop := va_P g.1 vwCl (Wd g u) t.heap ∧ va_D A (Wd g u)
def Cx (g : Gx) (own : String) (cc : ByteArray) (nL : Nat) (p : Program) (s : State) (m : MethodId) (args : Array Value) (c : Code) : Prop := p.tables.exec = Jvm.exec ∧ c.code = cc ∧ c.maxLocals = nL ∧ s.vm.findClass own = some m.cls ∧ (∀ w ∈ wT, w.before args s = true) ∧ va_K g.1 vwCl (gT g) s ∧ ∀ w ∈ nW, va_Nw w s
abbrev wY (y : MethodName) (cc : ByteArray) (nL : Nat) (ret : Option FieldType) : List Cond := Cond.code y cc nL ret :: wT
def Qi (g : Gx) (A : Nat → Prop) (Wd : Gx → Mm → va_W) (v : Int32) (u : Mm) : Array Value → State → Outcome → State → Prop := va_Qi (fun (x : Int32) (z : Mm) => x = v ∧ z = u) (wV g Wd A) A
def Ql (g : Gx) (A : Nat → Prop) (Wd : Gx → Mm → va_W) (v : Int64) (u : Mm) : Array Value → State → Outcome → State → Prop := va_Ql (fun (x : Int64) (z : Mm) => x = v ∧ z = u) (wV g Wd A) A
def Qv (g : Gx) (A : Nat → Prop) (Wd : Gx → Mm → va_W) (u : Mm) : Array Value → State → Outcome → State → Prop := va_Qv (fun (z : Mm) => z = u) (wV g Wd A) A
abbrev Cti (l : Launch) (g : Gx) (A : Nat → Prop) (Wd : Gx → Mm → va_W) (y : MethodName) (cc : ByteArray) (nL : Nat) (ret : Option FieldType) (d : Nat) (av : List Value) (μ : Mm) (v : Int32) (u : Mm) : Prop := Met l y (wY y cc nL ret) (rmD d) (va_Pc av (wU g Wd A μ)) (Qi g A Wd v u) 0 0 A
abbrev Ctl (l : Launch) (g : Gx) (A : Nat → Prop) (Wd : Gx → Mm → va_W) (y : MethodName) (cc : ByteArray) (nL : Nat) (ret : Option FieldType) (d : Nat) (av : List Value) (μ : Mm) (v : Int64) (u : Mm) : Prop := Met l y (wY y cc nL ret) (rmD d) (va_Pc av (wU g Wd A μ)) (Ql g A Wd v u) 0 0 A
abbrev Ctv (l : Launch) (g : Gx) (A : Nat → Prop) (Wd : Gx → Mm → va_W) (y : MethodName) (cc : ByteArray) (nL : Nat) (ret : Option FieldType) (d : Nat) (av : List Value) (μ : Mm) (u : Mm) : Prop := Met l y (wY y cc nL ret) (rmD d) (va_Pc av (wU g Wd A μ)) (Qv g A Wd u) 0 0 A
def isNest : Cond → Bool
  | .methodLinkNest _ _ _ _ => true
  | _ => false
theorem nW_nest : ∀ w ∈ nW, isNest w = true := by decide +kernel
theorem nW_tab : ∀ w ∈ nW, w.onTables = true := by decide +kernel
theorem nests_warm {s U : State} (hW : s.WarmedH U.vm) (h : ∀ w ∈ nW, va_Nw w s) : ∀ w ∈ nW, va_Nw w U := by
  intro w hw
  have hz := h w hw
  have hk := nW_nest w hw
  cases w <;> first | exact va_Nw.warmM hW hz | cases hk
theorem wU_blind {av : List Value} {g : Gx} {Wd : Gx → Mm → va_W} {A : Nat → Prop} {μ : Mm} : FrameBlind (va_Pc av (wU g Wd A μ)) := by
  intro a U gg mk h
  obtain ⟨h0, h1, h2, h3, h4, h5⟩ := h
  exact ⟨h0, h1, va_K.moved (u := U) (U := U.calling gg mk a) (Vm.Alike.refl U.vm) h2, h3, h4, fun w hw => va_Nw.same (u := U) (nW_tab w hw) rfl (h5 w hw)⟩
theorem ent {l : Launch} {g : Gx} {A : Nat → Prop} {Wd : Gx → Mm → va_W} {y : MethodName} {cc : ByteArray} {nL : Nat} {ret : Option FieldType} {rm : Room} {av : List Value} {μ : Mm} {Qc : Array Value → State → Outcome → State → Prop} {mc ms : Nat} {lv : List (Nat × Value)} (hy : plainName y.cls = true) (hlen : (lg_sl av).length ≤ nL) (hlv : lv_args 0 av = lv)
    (body : ∀ p e s m args below meth c, Cx g y.cls cc nL p s m args c → meth.sig.returnType = ret → meth.locks = false → meth.name = y.name → wP g Wd A s.heap μ s.heap [] → ∀ ls, lv_has ls nL lv → W p l e rm s m args below meth c s.heap [] 0 0 (MQ below Qc args s mc ms A) (F0 m 0 ls [])) : Met l y (wY y cc nL ret) rm (va_Pc av (wU g Wd A μ)) Qc mc ms A := by
  refine Met.ofW (cc := cc) (maxL := nL) (ret := ret) hy rfl ?_
  intro p e s m args below meth c s₁ B hml hv
  obtain ⟨rfl, hP, hK, hD, hA, hN⟩ := hv
  have hts := atoms_spec (ws := wY y cc nL ret) B.pre
  have hown : s.vm.findClass y.cls = some m.cls := findClass_of_methodNamed B.named
  have hl := lv_entry av (n := nL) hlen
  rw [lg_entry_eq]
  generalize (lg_sl av ++ List.replicate (nL - (lg_sl av).length) Slot.unset).toArray = ls at hl ⊢
  rw [hlv] at hl
  exact body p e s m _ below meth c ⟨B.exec, B.bytes, hml, hown, fun w h => hts w (List.mem_cons_of_mem _ h), hK, hN⟩ B.returns B.notSynchronized (name_of_methodNamed B.named B.method).1 ⟨hP, hD, va_S.rf, hA⟩ ls hl
section KR
variable {p : Program} {l : Launch} {e : Env} {R : Room} {s : State} {m : MethodId} {args : Array Value} {below : List Frame} {meth : Method} {c : Code} {H : Heap} {locs : List Loc} {cells slots : Nat} {Q : State → Prop}
variable {cc : ByteArray} {pc : Nat} {ls : Array Slot} {rest : List Value} {g : Gx} {Wd : Gx → Mm → va_W} {A : Nat → Prop} {own : String} {nL : Nat} {μ μ' u : Mm}
theorem kr_iald (hC : Cx g own cc nL p s m args c) (hW : wP g Wd A s.heap μ H locs) {q0 a n : Nat} {f : Nat → Int32} (he : (Wd g μ)[q0]? = some (a, .inl (cI g, n, .inl f))) {i : Int32} (hin : vp_in i n) {x : Int32} (hx : x = f i.toNatClampNeg) (hdg : decode cc pc = .ok (.iaload, 1))
    (kk : W p l e R s m args below meth c H locs cells slots Q (F0 m (pc + 1) ls (.int x :: rest))) : W p l e R s m args below meth c H locs cells slots Q (F0 m pc ls (.int i :: .ref a :: rest)) := by
  subst hx
  exact va_iald hC.1 hC.2.1 hC.2.2.2.2.2.1 hW.1 q0 0 he rfl hin hdg kk
theorem kr_zald (hC : Cx g own cc nL p s m args c) (hW : wP g Wd A s.heap μ H locs) {q0 a n : Nat} {f : Nat → Int32} (he : (Wd g μ)[q0]? = some (a, .inl (cZ g, n, .inl f))) {i : Int32} (hin : vp_in i n) {x : Int32} (hx : x = f i.toNatClampNeg) (hdg : decode cc pc = .ok (.baload, 1))
    (kk : W p l e R s m args below meth c H locs cells slots Q (F0 m (pc + 1) ls (.int x :: rest))) : W p l e R s m args below meth c H locs cells slots Q (F0 m pc ls (.int i :: .ref a :: rest)) := by
  subst hx
  exact va_zald hC.1 hC.2.1 hC.2.2.2.2.2.1 hW.1 q0 1 he rfl hin hdg kk
theorem kr_bald (hC : Cx g own cc nL p s m args c) (hW : wP g Wd A s.heap μ H locs) {q0 a n : Nat} {f : Nat → Int32} (he : (Wd g μ)[q0]? = some (a, .inl (cB g, n, .inl f))) {i : Int32} (hin : vp_in i n) {x : Int32} (hx : x = f i.toNatClampNeg) (hdg : decode cc pc = .ok (.baload, 1))
    (kk : W p l e R s m args below meth c H locs cells slots Q (F0 m (pc + 1) ls (.int x :: rest))) : W p l e R s m args below meth c H locs cells slots Q (F0 m pc ls (.int i :: .ref a :: rest)) := by
  subst hx
  exact va_bald hC.1 hC.2.1 hC.2.2.2.2.2.1 hW.1 q0 2 he rfl hin hdg kk
theorem kr_alen (hC : Cx g own cc nL p s m args c) (hW : wP g Wd A s.heap μ H locs) {q0 a n : Nat} {f : Nat → Int32} (he : (Wd g μ)[q0]? = some (a, .inl (cI g, n, .inl f))) {v : Int32} (hv : Int32.ofNat n = v) (hdg : decode cc pc = .ok (.arraylength, 1))
    (kk : W p l e R s m args below meth c H locs cells slots Q (F0 m (pc + 1) ls (.int v :: rest))) : W p l e R s m args below meth c H locs cells slots Q (F0 m pc ls (.ref a :: rest)) :=
  va_alen hC.1 hC.2.1 hC.2.2.2.2.2.1 hW.1 q0 0 he (ty := .int) rfl hv hdg kk
theorem kr_iast (hC : Cx g own cc nL p s m args c) (hW : wP g Wd A s.heap μ H locs) {q0 a n : Nat} {f : Nat → Int32} (he : (Wd g μ)[q0]? = some (a, .inl (cI g, n, .inl f))) {i x : Int32} (hs : (Wd g μ).set q0 (a, .inl (cI g, n, .inl (upd f i.toNatClampNeg x))) = Wd g μ') (hin : vp_in i n) (hdg : decode cc pc = .ok (.iastore, 1))
    (kk : ∀ (H1 : Heap) (locs1 : List Loc), wP g Wd A s.heap μ' H1 locs1 → W p l e R s m args below meth c H1 locs1 cells slots Q (F0 m (pc + 1) ls rest)) : W p l e R s m args below meth c H locs cells slots Q (F0 m pc ls (.int x :: .int i :: .ref a :: rest)) :=
  va_iast hC.1 hC.2.1 hC.2.2.2.2.2.1 hW.1 hW.2.1 hW.2.2.1 q0 0 he rfl hin hdg (fun H1 locs1 h1 h2 h3 => kk H1 locs1 ⟨hs ▸ h1, hs ▸ h2, h3, hW.2.2.2⟩)
theorem kr_zast (hC : Cx g own cc nL p s m args c) (hW : wP g Wd A s.heap μ H locs) {q0 a n : Nat} {f : Nat → Int32} (he : (Wd g μ)[q0]? = some (a, .inl (cZ g, n, .inl f))) {i x : Int32} (hs : (Wd g μ).set q0 (a, .inl (cZ g, n, .inl (upd f i.toNatClampNeg (vp_nar .boolean x)))) = Wd g μ') (hin : vp_in i n) (hdg : decode cc pc = .ok (.bastore, 1))
    (kk : ∀ (H1 : Heap) (locs1 : List Loc), wP g Wd A s.heap μ' H1 locs1 → W p l e R s m args below meth c H1 locs1 cells slots Q (F0 m (pc + 1) ls rest)) : W p l e R s m args below meth c H locs cells slots Q (F0 m pc ls (.int x :: .int i :: .ref a :: rest)) :=
  va_zast hC.1 hC.2.1 hC.2.2.2.2.2.1 hW.1 hW.2.1 hW.2.2.1 q0 1 he rfl hin hdg (fun H1 locs1 h1 h2 h3 => kk H1 locs1 ⟨hs ▸ h1, hs ▸ h2, h3, hW.2.2.2⟩)
theorem kr_bast (hC : Cx g own cc nL p s m args c) (hW : wP g Wd A s.heap μ H locs) {q0 a n : Nat} {f : Nat → Int32} (he : (Wd g μ)[q0]? = some (a, .inl (cB g, n, .inl f))) {i x : Int32} (hs : (Wd g μ).set q0 (a, .inl (cB g, n, .inl (upd f i.toNatClampNeg (vp_nar .byte x)))) = Wd g μ') (hin : vp_in i n) (hdg : decode cc pc = .ok (.bastore, 1))
    (kk : ∀ (H1 : Heap) (locs1 : List Loc), wP g Wd A s.heap μ' H1 locs1 → W p l e R s m args below meth c H1 locs1 cells slots Q (F0 m (pc + 1) ls rest)) : W p l e R s m args below meth c H locs cells slots Q (F0 m pc ls (.int x :: .int i :: .ref a :: rest)) :=
  va_bast hC.1 hC.2.1 hC.2.2.2.2.2.1 hW.1 hW.2.1 hW.2.2.1 q0 2 he rfl hin hdg (fun H1 locs1 h1 h2 h3 => kk H1 locs1 ⟨hs ▸ h1, hs ▸ h2, h3, hW.2.2.2⟩)
/-- a field that is read -/
theorem kr_get (hC : Cx g own cc nL p s m args c) (hW : wP g Wd A s.heap μ H locs) {q0 a ci N index : Nat} {fs : List Value} {C : String} {T : u_T} (he : (Wd g μ)[q0]? = some (a, .inr (ci, fs))) (hc : vwCl[ci]? = some (C, T, N)) (hin : ∀ w ∈ u_ws C T N, w ∈ wT) (k : Nat) (hk : k < N) (hlink : Cond.fieldLink own index (T k).1 (T k).2.1 (T k).2.2.1 ∈ wT) {v : Value} (hv : fs[k]? = some v) (hdg : decode cc pc = .ok (.getfield index, 3))
    (kk : W p l e R s m args below meth c H locs cells slots Q (F0 m (pc + 3) ls (v :: rest))) : W p l e R s m args below meth c H locs cells slots Q (F0 m pc ls (.ref a :: rest)) :=
  va_get hC.1 hC.2.1 hC.2.2.2.2.1 hin hC.2.2.2.1 hC.2.2.2.2.2.1 hW.1 q0 he hc k hk (hC.2.2.2.2.1 _ hlink) (fun _ h9 => h9) hv hdg kk
/-- a field that is written, not final -/
theorem kr_put (hC : Cx g own cc nL p s m args c) (hW : wP g Wd A s.heap μ H locs) {q0 a ci N index : Nat} {fs : List Value} {C : String} {T : u_T} (he : (Wd g μ)[q0]? = some (a, .inr (ci, fs))) (hc : vwCl[ci]? = some (C, T, N)) (hin : ∀ w ∈ u_ws C T N, w ∈ wT) (ty0 : Nat → FieldType) (hty : ∀ k, k < N → parseFieldDescriptor (T k).2.2.1 = some (ty0 k)) (hnm : ∀ a, a < N → ∀ b, b < N → a ≠ b → (T a).2.1 ≠ (T b).2.1) (k : Nat) (hk : k < N) (hlink : Cond.fieldLink own index (T k).1 (T k).2.1 (T k).2.2.1 ∈ wT) (hfin : (T k).2.2.2 = false) {v : Value} (hn : narrow (ty0 k) v = v) (hfit : fits (ty0 k) v = true) (hl : k < fs.length) (hs : (Wd g μ).set q0 (a, .inr (ci, fs.set k v)) = Wd g μ') (hdg : decode cc pc = .ok (.putfield index, 3))
    (kk : ∀ (H1 : Heap) (locs1 : List Loc), wP g Wd A s.heap μ' H1 locs1 → W p l e R s m args below meth c H1 locs1 cells slots Q (F0 m (pc + 3) ls rest)) : W p l e R s m args below meth c H locs cells slots Q (F0 m pc ls (v :: .ref a :: rest)) :=
  va_put hC.1 hC.2.1 hC.2.2.2.2.1 hin ty0 hty hnm hC.2.2.2.1 hC.2.2.2.2.2.1 hW.1 hW.2.1 hW.2.2.1 q0 he hc k hk (hC.2.2.2.2.1 _ hlink) (fun _ h9 => h9) hfin (hty k hk) hn hfit hl hdg (fun H1 locs1 h1 h2 h3 => kk H1 locs1 ⟨hs ▸ h1, hs ▸ h2, h3, hW.2.2.2⟩)
theorem kr_iret (hC : Cx g own cc nL p s m args c) (hr : meth.sig.returnType = some .int) (hlocks : meth.locks = false) {v : Int32} (hW : wP g Wd A s.heap u H locs) (hdg : decode cc pc = .ok (.ireturn, 1)) : W p l e R s m args below meth c H locs 0 0 (MQ below (Qi g A Wd v u) args s 0 0 A) (F0 m pc ls [.int v]) :=
  W.iret hC.1 hC.2.1 hr (fun _ ht _ => ⟨⟨v, u, rfl, ⟨rfl, rfl⟩, by rw [ht]; exact hW.1, hW.2.1⟩, hW.2.2.1.F ht⟩) hW.2.2.1.2.2 hdg hlocks
theorem kr_zret (hC : Cx g own cc nL p s m args c) (hr : meth.sig.returnType = some .boolean) (hlocks : meth.locks = false) {v : Int32} (b : Bool) (hv : v = bI b) (hW : wP g Wd A s.heap u H locs) (hdg : decode cc pc = .ok (.ireturn, 1)) : W p l e R s m args below meth c H locs 0 0 (MQ below (Qi g A Wd (bI b) u) args s 0 0 A) (F0 m pc ls [.int v]) := by
  subst hv
  exact W.zret hC.1 hC.2.1 hr (bI_nar b) (fun _ ht _ => ⟨⟨bI b, u, rfl, ⟨rfl, rfl⟩, by rw [ht]; exact hW.1, hW.2.1⟩, hW.2.2.1.F ht⟩) hW.2.2.1.2.2 hdg hlocks
theorem kr_lret (hC : Cx g own cc nL p s m args c) (hr : meth.sig.returnType = some .long) (hlocks : meth.locks = false) {v : Int64} (hW : wP g Wd A s.heap u H locs) (hdg : decode cc pc = .ok (.lreturn, 1)) : W p l e R s m args below meth c H locs 0 0 (MQ below (Ql g A Wd v u) args s 0 0 A) (F0 m pc ls [.long v]) :=
  W.lret hC.1 hC.2.1 hr (fun _ ht _ => ⟨⟨v, u, rfl, ⟨rfl, rfl⟩, by rw [ht]; exact hW.1, hW.2.1⟩, hW.2.2.1.F ht⟩) hW.2.2.1.2.2 hdg hlocks
theorem kr_vret (hC : Cx g own cc nL p s m args c) (hr : meth.sig.returnType = none) (hlocks : meth.locks = false) (hW : wP g Wd A s.heap u H locs) (hdg : decode cc pc = .ok (.return_, 1)) : W p l e R s m args below meth c H locs 0 0 (MQ below (Qv g A Wd u) args s 0 0 A) (F0 m pc ls []) :=
  W.vret hC.1 hC.2.1 hr (fun _ ht _ => ⟨⟨u, rfl, rfl, by rw [ht]; exact hW.1, hW.2.1⟩, hW.2.2.1.F ht⟩) hW.2.2.1.2.2 hdg hlocks
/-- the words of a call -/
def kw_v (own : String) (index : Nat) (y : MethodName) (bytes : ByteArray) (maxL : Nat) (ret : Option FieldType) (n : Nat) : Prop := Cond.methodLink own index y ∈ wT ∧ Cond.instanceMethod y ∈ wT ∧ Cond.selects y.cls y y ∈ wT ∧ Cond.initialized y.cls ∈ wT ∧ Cond.code y bytes maxL ret ∈ wT ∧ (y.cls ≠ "java/lang/invoke/MethodHandle" ∧ y.cls ≠ "java/lang/invoke/VarHandle" ∧ (parseMethodDescriptor y.desc).map (fun d => d.parameters.length) = some n)
def kw_s (own : String) (index : Nat) (y : MethodName) (bytes : ByteArray) (maxL : Nat) (ret : Option FieldType) (n : Nat) : Prop := Cond.methodLink own index y ∈ wT ∧ Cond.static y ∈ wT ∧ Cond.initialized y.cls ∈ wT ∧ Cond.code y bytes maxL ret ∈ wT ∧ (y.cls ≠ "java/lang/invoke/MethodHandle" ∧ y.cls ≠ "java/lang/invoke/VarHandle" ∧ (parseMethodDescriptor y.desc).map (fun d => d.parameters.length) = some n)
def kw_n (own : String) (index : Nat) (y : MethodName) (host : String) (bytes : ByteArray) (maxL : Nat) (ret : Option FieldType) (n : Nat) : Prop := Cond.methodLinkNest own index y host ∈ nW ∧ Cond.static y ∈ wT ∧ Cond.initialized y.cls ∈ wT ∧ Cond.code y bytes maxL ret ∈ wT ∧ (y.cls ≠ "java/lang/invoke/MethodHandle" ∧ y.cls ≠ "java/lang/invoke/VarHandle" ∧ (parseMethodDescriptor y.desc).map (fun d => d.parameters.length) = some n)
theorem kr_good {y : MethodName} {bytes : ByteArray} {maxL : Nat} {ret : Option FieldType} (h : Cond.code y bytes maxL ret ∈ wT) : GoodIn wT (wY y bytes maxL ret) := by
  intro w hw
  have h1 : w ∈ wT := by
    rcases List.mem_cons.mp hw with e | e
    · rw [e]; exact h
    · exact e
  exact ⟨h1, good_of_word (wT_good w h1)⟩
theorem kr_pre (hC : Cx g own cc nL p s m args c) (hW : wP g Wd A s.heap μ H locs) {av : List Value} : PreS s H (va_Pc av (wU g Wd A μ)) av :=
  ⟨wU_blind, fun U hU hw => ⟨rfl, by rw [hU]; exact hW.1, va_K.moved hw.alike hC.2.2.2.2.2.1, hW.2.1, fun q hq => hW.2.2.2 q (Nat.le_trans hW.2.2.1.1 (by rw [hU] at hq; exact hq)), nests_warm hw hC.2.2.2.2.2.2⟩⟩
section KC
variable {y : MethodName} {bytes : ByteArray} {maxL index n d q0 ci dd : Nat} {ret : Option FieldType} {As st0 : List Value} {b : Nat} {fs : List Value} {host : String} {N : Nat} {T : u_T}
theorem kr_runV {Qc : Array Value → State → Outcome → State → Prop} (hC : Cx g own cc nL p s m args c) (hW : wP g Wd A s.heap μ H locs) (hls : ls.size = nL) (hct : Met l y (wY y bytes maxL ret) (rmD d) (va_Pc (.ref b :: As) (wU g Wd A μ)) Qc 0 0 A) (kw : kw_v own index y bytes maxL ret n) (he : (Wd g μ)[q0]? = some (b, .inr (ci, fs))) (hcl : vwCl[ci]? = some (y.cls, T, N)) (hn : As.length = n) (hst : st0 = As.reverse ++ .ref b :: rest) (hrest : (rest.map fun v => v.category).sum ≤ 8) (hdg : decode cc pc = .ok (.invokevirtual index, 3)) (hR : d + 1 ≤ dd ∧ 19 + maxL + 60 * d ≤ 60 * dd) :
    va_Run p l e (rmD dd) s m args below meth c H locs 0 0 0 0 (F0 m pc ls st0) rest (Qc (Value.ref b :: As).toArray) A := by
  obtain ⟨hlk, hin, hse, hini, hcd, hy⟩ := kw
  have hts := hC.2.2.2.2.1
  refine va_runV (C := y.cls) (As := As) (rest := rest) ⟨hC.1, hC.2.1, hC.2.2.1, hC.2.2.2.1, hts⟩ hct ⟨callB_of n hts (kr_good hcd) rfl rfl rfl (hts _ hini) (hts _ hlk) hy ⟨hR.1, ?_⟩, hts _ hin, hts _ hse⟩ ⟨wU_blind, va_recv hC.2.2.2.2.2.1 hW.1 hcl he, (kr_pre hC hW).2⟩ rfl hn hls hst (lv_room hrest) hdg ⟨Nat.le_refl 0, Nat.le_refl 0⟩
  show 8 + (maxL + 11) + 60 * d ≤ 60 * dd
  omega
theorem kr_runS {Qc : Array Value → State → Outcome → State → Prop} (hC : Cx g own cc nL p s m args c) (hW : wP g Wd A s.heap μ H locs) (hls : ls.size = nL) (hct : Met l y (wY y bytes maxL ret) (rmD d) (va_Pc As (wU g Wd A μ)) Qc 0 0 A) (kw : kw_s own index y bytes maxL ret n) (hn : As.length = n) (hst : st0 = As.reverse ++ rest) (hrest : (rest.map fun v => v.category).sum ≤ 8) (hdg : decode cc pc = .ok (.invokestatic index, 3)) (hR : d + 1 ≤ dd ∧ 19 + maxL + 60 * d ≤ 60 * dd) :
    va_Run p l e (rmD dd) s m args below meth c H locs 0 0 0 0 (F0 m pc ls st0) rest (Qc As.toArray) A := by
  obtain ⟨hlk, hsta, hini, hcd, hy⟩ := kw
  have hts := hC.2.2.2.2.1
  refine va_runS (As := As) (rest := rest) ⟨hC.1, hC.2.1, hC.2.2.1, hC.2.2.2.1, hts⟩ hct ⟨callB_of n hts (kr_good hcd) rfl rfl rfl (hts _ hini) (hts _ hlk) hy ⟨hR.1, ?_⟩, hts _ hsta⟩ (kr_pre hC hW) rfl hn hls hst (lv_room hrest) hdg ⟨Nat.le_refl 0, Nat.le_refl 0⟩
  show 8 + (maxL + 11) + 60 * d ≤ 60 * dd
  omega
theorem kr_runN {Qc : Array Value → State → Outcome → State → Prop} (hC : Cx g own cc nL p s m args c) (hW : wP g Wd A s.heap μ H locs) (hls : ls.size = nL) (hct : Met l y (wY y bytes maxL ret) (rmD d) (va_Pc As (wU g Wd A μ)) Qc 0 0 A) (kw : kw_n own index y host bytes maxL ret n) (hn : As.length = n) (hst : st0 = As.reverse ++ rest) (hrest : (rest.map fun v => v.category).sum ≤ 8) (hdg : decode cc pc = .ok (.invokestatic index, 3)) (hR : d + 1 ≤ dd ∧ 19 + maxL + 60 * d ≤ 60 * dd) :
    va_Run p l e (rmD dd) s m args below meth c H locs 0 0 0 0 (F0 m pc ls st0) rest (Qc As.toArray) A := by
  obtain ⟨hlk, hsta, hini, hcd, hy⟩ := kw
  have hts := hC.2.2.2.2.1
  refine va_runSN (As := As) (rest := rest) ⟨hC.1, hC.2.1, hC.2.2.1, hC.2.2.2.1, hts⟩ hct ⟨va_cnB n hts (kr_good hcd) rfl rfl rfl (hC.2.2.2.2.2.2 _ hlk) (hts _ hini) hy ⟨hR.1, ?_⟩, hts _ hsta, trivial⟩ (kr_pre hC hW) rfl hn hls hst (lv_room hrest) hdg ⟨Nat.le_refl 0, Nat.le_refl 0⟩
  show 8 + (maxL + 11) + 60 * d ≤ 60 * dd
  omega
theorem kr_ci {v : Int32} {a : Array Value} (hC : Cx g own cc nL p s m args c) (hW : wP g Wd A s.heap μ H locs) (hr : va_Run p l e (rmD dd) s m args below meth c H locs 0 0 0 0 (F0 m pc ls st0) rest (Qi g A Wd v u a) A)
    (kk : ∀ (H1 : Heap) (locs1 : List Loc), wP g Wd A s.heap u H1 locs1 → W p l e (rmD dd) s m args below meth c H1 locs1 0 0 Q (F0 m (pc + 3) ls (.int v :: rest))) : W p l e (rmD dd) s m args below meth c H locs 0 0 Q (F0 m pc ls st0) := by
  refine va_calli hr hW.2.2.1 (fun q _ h => h) (fun q h => h) (fun r z t H1 locs1 ht hvm hp hB _ _ hS => ?_)
  obtain ⟨rfl, rfl⟩ := hp
  exact kk H1 locs1 ⟨by rw [← ht]; exact hB.1, hB.2, hS, hW.2.2.2⟩
theorem kr_cl {v : Int64} {a : Array Value} (hC : Cx g own cc nL p s m args c) (hW : wP g Wd A s.heap μ H locs) (hr : va_Run p l e (rmD dd) s m args below meth c H locs 0 0 0 0 (F0 m pc ls st0) rest (Ql g A Wd v u a) A)
    (kk : ∀ (H1 : Heap) (locs1 : List Loc), wP g Wd A s.heap u H1 locs1 → W p l e (rmD dd) s m args below meth c H1 locs1 0 0 Q (F0 m (pc + 3) ls (.long v :: rest))) : W p l e (rmD dd) s m args below meth c H locs 0 0 Q (F0 m pc ls st0) := by
  refine va_calll hr hW.2.2.1 (fun q _ h => h) (fun q h => h) (fun r z t H1 locs1 ht hvm hp hB _ _ hS => ?_)
  obtain ⟨rfl, rfl⟩ := hp
  exact kk H1 locs1 ⟨by rw [← ht]; exact hB.1, hB.2, hS, hW.2.2.2⟩
theorem kr_cv {a : Array Value} (hC : Cx g own cc nL p s m args c) (hW : wP g Wd A s.heap μ H locs) (hr : va_Run p l e (rmD dd) s m args below meth c H locs 0 0 0 0 (F0 m pc ls st0) rest (Qv g A Wd u a) A)
    (kk : ∀ (H1 : Heap) (locs1 : List Loc), wP g Wd A s.heap u H1 locs1 → W p l e (rmD dd) s m args below meth c H1 locs1 0 0 Q (F0 m (pc + 3) ls rest)) : W p l e (rmD dd) s m args below meth c H locs 0 0 Q (F0 m pc ls st0) := by
  refine va_callv hr hW.2.2.1 (fun q _ h => h) (fun q h => h) (fun z t H1 locs1 ht hvm hp hB _ _ hS => ?_)
  subst hp
  exact kk H1 locs1 ⟨by rw [← ht]; exact hB.1, hB.2, hS, hW.2.2.2⟩
end KC
end KR
