/-! worlds of two sides -/
theorem kd_split {A : Nat → Prop} {w0 w1 : va_W} (h : va_D A (w0 ++ w1)) : va_D A w0 ∧ va_D A w1 ∧ ∀ (i j : Nat) (p q : Nat × va_E), w0[i]? = some p → w1[j]? = some q → p.1 ≠ q.1 := by
  have l0 : ∀ (i : Nat) (p : Nat × va_E), w0[i]? = some p → (w0 ++ w1)[i]? = some p := fun i p hp => by
    rw [List.getElem?_append_left (List.getElem?_eq_some_iff.mp hp).1]; exact hp
  have l1 : ∀ (i : Nat) (p : Nat × va_E), w1[i]? = some p → (w0 ++ w1)[w0.length + i]? = some p := fun i p hp => by
    rw [List.getElem?_append_right (by omega), Nat.add_sub_cancel_left]; exact hp
  refine ⟨⟨fun i j p q hp hq e => h.1 i j p q (l0 i p hp) (l0 j q hq) e, fun k q hq => h.2 k q (l0 k q hq)⟩, ⟨fun i j p q hp hq e => ?_, fun k q hq => h.2 _ q (l1 k q hq)⟩, fun i j p q hp hq e => ?_⟩
  · have := h.1 _ _ p q (l1 i p hp) (l1 j q hq) e
    omega
  · have h1 := h.1 _ _ p q (l0 i p hp) (l1 j q hq) e
    have h2 := (List.getElem?_eq_some_iff.mp hp).1
    omega
theorem kd_psplit {D : va_G} {cl : List vw_C} {w0 w1 : va_W} {H : Heap} (h : va_P D cl (w0 ++ w1) H) : va_P D cl w0 H ∧ va_P D cl w1 H :=
  ⟨fun i p hp => h i p (by rw [List.getElem?_append_left (List.getElem?_eq_some_iff.mp hp).1]; exact hp), fun i p hp => h (w0.length + i) p (by rw [List.getElem?_append_right (by omega), Nat.add_sub_cancel_left]; exact hp)⟩
theorem kd_swap {g : Gx} {w0 w1 : va_W} {A : Nat → Prop} {H0 H : Heap} {locs : List Loc} (h : wA g (w0 ++ w1) A H0 H locs) : wA g (w1 ++ w0) A H0 H locs := by
  obtain ⟨h1, h2, h3, h4⟩ := h
  obtain ⟨p0, p1⟩ := kd_psplit h1
  obtain ⟨d0, d1, dx⟩ := kd_split h2
  exact ⟨p1.app p0, va_D.app d1 d0 (fun i j p q hp hq e => dx j i q p hq hp e.symm), h3, h4⟩
theorem kd_join {D : va_G} {cl : List vw_C} {A0 : Nat → Prop} {w0 w1 w2 : va_W} {H H1 : Heap} (hP : va_P D cl (w0 ++ w1) H) (hD : va_D A0 (w0 ++ w1)) (hk : ∀ q : Nat, q < H.size → ¬ va_A w0 H.size q → H1[q]? = H[q]?) (hF : ∀ q, va_A w0 H.size q → A0 q) (hP1 : va_P D cl w2 H1) (hD1 : va_D (va_A w0 H.size) w2) : va_P D cl (w2 ++ w1) H1 ∧ va_D A0 (w2 ++ w1) := by
  obtain ⟨p0, p1⟩ := kd_psplit hP
  obtain ⟨d0, d1, dx⟩ := kd_split hD
  have apart : ∀ (k : Nat) (q : Nat × va_E), w1[k]? = some q → q.1 < H.size ∧ ¬ va_A w0 H.size q.1 := by
    intro k q hq
    have hl := (p1 k q hq).lt
    refine ⟨hl, fun h => ?_⟩
    rcases h with ⟨j, e, h⟩ | h
    · exact dx j k (q.1, e) q h hq rfl
    · omega
  refine ⟨hP1.app (fun k q hq => (p1 k q hq).kept (hk q.1 (apart k q hq).1 (apart k q hq).2)), va_D.app (hD1.weaken (fun k q _ h => hF q.1 h)) d1 (fun i j p q hp hq e => ?_)⟩
  exact (apart j q hq).2 (by rw [← e]; exact hD1.2 i p hp)
theorem kd_free {g : Gx} {w0 w1 : va_W} {A : Nat → Prop} {H0 H : Heap} {locs : List Loc} (h : wA g (w0 ++ w1) A H0 H locs) : ∀ q, va_A w0 H.size q → A q := by
  intro q hq
  rcases hq with ⟨k, e, h1⟩ | h1
  · exact (kd_split h.2.1).1.2 k (q, e) h1
  · exact h.2.2.2 q (Nat.le_trans h.2.2.1.1 h1)
section KD
variable {p : Program} {l : Launch} {e : Env} {R : Room} {s : State} {m : MethodId} {args : Array Value} {below : List Frame} {meth : Method} {c : Code} {H : Heap} {locs : List Loc} {cells slots : Nat} {Q : State → Prop}
variable {cc : ByteArray} {pc : Nat} {ls : Array Slot} {rest : List Value} {g : Gx} {A : Nat → Prop} {own : String} {nL : Nat} {w1 : va_W} {Wd : Gx → Mm → va_W} {μ : Mm}
variable {y : MethodName} {bytes : ByteArray} {maxL index n d mc ms q0 ci N : Nat} {As st0 : List Value} {b : Nat} {Qc : Array Value → State → Outcome → State → Prop} {rm : Room} {ret : Option FieldType} {fs : List Value} {T : u_T}
theorem kd_pre {av : List Value} (hC : Cx g own cc nL p s m args c) (hW : wA g (Wd g μ ++ w1) A s.heap H locs) : PreS s H (va_Pc av (wU g Wd (va_A (Wd g μ) H.size) μ)) av :=
  ⟨wU_blind, fun U hU hw => ⟨rfl, by rw [hU]; exact (kd_psplit hW.1).1, va_K.moved hw.alike hC.2.2.2.2.2.1, (kd_split hW.2.1).1.self, fun q hq => Or.inr (by rw [hU] at hq; exact hq), nests_warm hw hC.2.2.2.2.2.2⟩⟩
/-- a call on the first of two worlds -/
theorem kd_run (hC : Cx g own cc nL p s m args c) (hW : wA g (Wd g μ ++ w1) A s.heap H locs) (hls : ls.size = nL) (hct : Met l y (wY y bytes maxL ret) rm (va_Pc (.ref b :: As) (wU g Wd (va_A (Wd g μ) H.size) μ)) Qc mc ms (va_A (Wd g μ) H.size)) (hrm : rm.cells = mc ∧ rm.slots = ms) (kw : kw_v own index y bytes maxL ret n) (he : (Wd g μ)[q0]? = some (b, .inr (ci, fs))) (hcl : vwCl[ci]? = some (y.cls, T, N)) (hn : As.length = n) (hst : st0 = As.reverse ++ .ref b :: rest) (hrest : (rest.map fun v => v.category).sum ≤ 8) (hdg : decode cc pc = .ok (.invokevirtual index, 3)) (hR : rm.frames + 1 ≤ R.frames ∧ 8 + (maxL + 11) + rm.locals ≤ R.locals) (hf : cells + mc ≤ R.cells ∧ slots + ms ≤ R.slots) :
    va_Run p l e R s m args below meth c H locs cells slots mc ms (F0 m pc ls st0) rest (Qc (Value.ref b :: As).toArray) (va_A (Wd g μ) H.size) := by
  obtain ⟨hlk, hin, hse, hini, hcd, hy⟩ := kw
  have hts := hC.2.2.2.2.1
  exact va_runV (C := y.cls) (As := As) (rest := rest) ⟨hC.1, hC.2.1, hC.2.2.1, hC.2.2.2.1, hts⟩ hct ⟨callB_of n hts (kr_good hcd) rfl hrm.1 hrm.2 (hts _ hini) (hts _ hlk) hy hR, hts _ hin, hts _ hse⟩ ⟨wU_blind, va_recv hC.2.2.2.2.2.1 (kd_psplit hW.1).1 hcl he, (kd_pre hC hW).2⟩ rfl hn hls hst (lv_room hrest) hdg hf
theorem kd_i {v : Int32} {u : Mm} {a : Array Value} (hW : wA g (Wd g μ ++ w1) A s.heap H locs) (hr : va_Run p l e R s m args below meth c H locs cells slots mc ms (F0 m pc ls st0) rest (Qi g (va_A (Wd g μ) H.size) Wd v u a) (va_A (Wd g μ) H.size))
    (kk : ∀ (H1 : Heap) (locs1 : List Loc), wA g (Wd g u ++ w1) A s.heap H1 locs1 → W p l e R s m args below meth c H1 locs1 (cells + mc) (slots + ms) Q (F0 m (pc + 3) ls (.int v :: rest))) : W p l e R s m args below meth c H locs cells slots Q (F0 m pc ls st0) := by
  have hF := kd_free hW
  refine va_calli hr hW.2.2.1 (fun q _ h => hF q h) hF (fun r z t H1 locs1 ht hvm hp hB hz1 hk1 hS => ?_)
  obtain ⟨rfl, rfl⟩ := hp
  obtain ⟨h1, h2⟩ := kd_join hW.1 hW.2.1 hk1 hF (by rw [← ht]; exact hB.1) hB.2
  exact kk H1 locs1 ⟨h1, h2, hS, hW.2.2.2⟩
theorem kd_l {v : Int64} {u : Mm} {a : Array Value} (hW : wA g (Wd g μ ++ w1) A s.heap H locs) (hr : va_Run p l e R s m args below meth c H locs cells slots mc ms (F0 m pc ls st0) rest (Ql g (va_A (Wd g μ) H.size) Wd v u a) (va_A (Wd g μ) H.size))
    (kk : ∀ (H1 : Heap) (locs1 : List Loc), wA g (Wd g u ++ w1) A s.heap H1 locs1 → W p l e R s m args below meth c H1 locs1 (cells + mc) (slots + ms) Q (F0 m (pc + 3) ls (.long v :: rest))) : W p l e R s m args below meth c H locs cells slots Q (F0 m pc ls st0) := by
  have hF := kd_free hW
  refine va_calll hr hW.2.2.1 (fun q _ h => hF q h) hF (fun r z t H1 locs1 ht hvm hp hB hz1 hk1 hS => ?_)
  obtain ⟨rfl, rfl⟩ := hp
  obtain ⟨h1, h2⟩ := kd_join hW.1 hW.2.1 hk1 hF (by rw [← ht]; exact hB.1) hB.2
  exact kk H1 locs1 ⟨h1, h2, hS, hW.2.2.2⟩
/-- a call that may give the cells other places -/
def Qg (g : Gx) (A : Nat → Prop) (Wd : Gx → Mm → va_W) (v : Int32) (u : Mm) : Array Value → State → Outcome → State → Prop := va_Qi (fun (x : Int32) (z : Nat → Nat) => x = v) (fun z t => va_P g.1 vwCl (Wd (g.1, g.2.1, z, g.2.2.2) u) t.heap ∧ va_D A (Wd (g.1, g.2.1, z, g.2.2.2) u) ∧ z 0 = ad g 0) A
theorem kd_g {v : Int32} {u : Mm} {a : Array Value} (hW : wA g (Wd g μ ++ w1) A s.heap H locs) (hr : va_Run p l e R s m args below meth c H locs cells slots mc ms (F0 m pc ls st0) rest (Qg g (va_A (Wd g μ) H.size) Wd v u a) (va_A (Wd g μ) H.size))
    (kk : ∀ (z : Nat → Nat) (H1 : Heap) (locs1 : List Loc), z 0 = ad g 0 → wA g (Wd (g.1, g.2.1, z, g.2.2.2) u ++ w1) A s.heap H1 locs1 → W p l e R s m args below meth c H1 locs1 (cells + mc) (slots + ms) Q (F0 m (pc + 3) ls (.int v :: rest))) : W p l e R s m args below meth c H locs cells slots Q (F0 m pc ls st0) := by
  have hF := kd_free hW
  refine va_calli hr hW.2.2.1 (fun q _ h => hF q h) hF (fun r z t H1 locs1 ht hvm hp hB hz1 hk1 hS => ?_)
  obtain rfl := hp
  obtain ⟨h1, h2⟩ := kd_join hW.1 hW.2.1 hk1 hF (by rw [← ht]; exact hB.1) hB.2.1
  exact kk z H1 locs1 hB.2.2 ⟨h1, h2, hS, hW.2.2.2⟩
/-! a call inside one world, any room -/
theorem kg_runV {Qc : Array Value → State → Outcome → State → Prop} (hC : Cx g own cc nL p s m args c) (hW : wP g Wd A s.heap μ H locs) (hls : ls.size = nL) (hct : Met l y (wY y bytes maxL ret) (rmD d) (va_Pc (.ref b :: As) (wU g Wd A μ)) Qc 0 0 A) (kw : kw_v own index y bytes maxL ret n) (he : (Wd g μ)[q0]? = some (b, .inr (ci, fs))) (hcl : vwCl[ci]? = some (y.cls, T, N)) (hn : As.length = n) (hst : st0 = As.reverse ++ .ref b :: rest) (hrest : (rest.map fun v => v.category).sum ≤ 8) (hdg : decode cc pc = .ok (.invokevirtual index, 3)) (hR : d + 1 ≤ R.frames ∧ 8 + (maxL + 11) + 60 * d ≤ R.locals) (hf : cells ≤ R.cells ∧ slots ≤ R.slots) :
    va_Run p l e R s m args below meth c H locs cells slots 0 0 (F0 m pc ls st0) rest (Qc (Value.ref b :: As).toArray) A := by
  obtain ⟨hlk, hin, hse, hini, hcd, hy⟩ := kw
  have hts := hC.2.2.2.2.1
  exact va_runV (C := y.cls) (As := As) (rest := rest) ⟨hC.1, hC.2.1, hC.2.2.1, hC.2.2.2.1, hts⟩ hct ⟨callB_of n hts (kr_good hcd) rfl rfl rfl (hts _ hini) (hts _ hlk) hy hR, hts _ hin, hts _ hse⟩ ⟨wU_blind, va_recv hC.2.2.2.2.2.1 hW.1 hcl he, (kr_pre hC hW).2⟩ rfl hn hls hst (lv_room hrest) hdg hf
theorem kg_runS {Qc : Array Value → State → Outcome → State → Prop} (hC : Cx g own cc nL p s m args c) (hW : wP g Wd A s.heap μ H locs) (hls : ls.size = nL) (hct : Met l y (wY y bytes maxL ret) (rmD d) (va_Pc As (wU g Wd A μ)) Qc 0 0 A) (kw : kw_s own index y bytes maxL ret n) (hn : As.length = n) (hst : st0 = As.reverse ++ rest) (hrest : (rest.map fun v => v.category).sum ≤ 8) (hdg : decode cc pc = .ok (.invokestatic index, 3)) (hR : d + 1 ≤ R.frames ∧ 8 + (maxL + 11) + 60 * d ≤ R.locals) (hf : cells ≤ R.cells ∧ slots ≤ R.slots) :
    va_Run p l e R s m args below meth c H locs cells slots 0 0 (F0 m pc ls st0) rest (Qc As.toArray) A := by
  obtain ⟨hlk, hsta, hini, hcd, hy⟩ := kw
  have hts := hC.2.2.2.2.1
  exact va_runS (As := As) (rest := rest) ⟨hC.1, hC.2.1, hC.2.2.1, hC.2.2.2.1, hts⟩ hct ⟨callB_of n hts (kr_good hcd) rfl rfl rfl (hts _ hini) (hts _ hlk) hy hR, hts _ hsta⟩ (kr_pre hC hW) rfl hn hls hst (lv_room hrest) hdg hf
theorem kg_i {v : Int32} {u : Mm} {a : Array Value} (hW : wP g Wd A s.heap μ H locs) (hr : va_Run p l e R s m args below meth c H locs cells slots 0 0 (F0 m pc ls st0) rest (Qi g A Wd v u a) A)
    (kk : ∀ (H1 : Heap) (locs1 : List Loc), wP g Wd A s.heap u H1 locs1 → W p l e R s m args below meth c H1 locs1 cells slots Q (F0 m (pc + 3) ls (.int v :: rest))) : W p l e R s m args below meth c H locs cells slots Q (F0 m pc ls st0) := by
  refine va_calli hr hW.2.2.1 (fun q _ h => h) (fun q h => h) (fun r z t H1 locs1 ht hvm hp hB _ _ hS => ?_)
  obtain ⟨rfl, rfl⟩ := hp
  exact kk H1 locs1 ⟨by rw [← ht]; exact hB.1, hB.2, hS, hW.2.2.2⟩
theorem kg_v {u : Mm} {a : Array Value} (hW : wP g Wd A s.heap μ H locs) (hr : va_Run p l e R s m args below meth c H locs cells slots 0 0 (F0 m pc ls st0) rest (Qv g A Wd u a) A)
    (kk : ∀ (H1 : Heap) (locs1 : List Loc), wP g Wd A s.heap u H1 locs1 → W p l e R s m args below meth c H1 locs1 cells slots Q (F0 m (pc + 3) ls rest)) : W p l e R s m args below meth c H locs cells slots Q (F0 m pc ls st0) := by
  refine va_callv hr hW.2.2.1 (fun q _ h => h) (fun q h => h) (fun z t H1 locs1 ht hvm hp hB _ _ hS => ?_)
  subst hp
  exact kk H1 locs1 ⟨by rw [← ht]; exact hB.1, hB.2, hS, hW.2.2.2⟩
end KD
