theorem fill_512 (l : Launch) (g : Gx) (q : Nat) (v : Int32) : ∃ u : Mm, (∀ i, i < 512 → u 0 i = v) ∧ ∀ A : Nat → Prop, Met l yJ7_fill_53178 (wY yJ7_fill_53178 cJ7_fill_53178 4 none) (rmD 0) (va_Pc [.ref q, .int v] (wU g (fun _ _ => [(q, .inl (cI g, 512, .inl (fun _ => 0)))]) A (fun _ _ => 0))) (Qz g A (fun z : Mm => z = u) (fun z => [(q, .inl (cI g, 512, .inl (z 0)))])) 0 0 A := by
  obtain ⟨u, h1, h2, -⟩ := fill_pure v 512 0 (by decide) (fun q => vs_Arrays_fill_53178_f_b5 q.2 v 512 q.1) (fun q => rfl) (by decide) (fun _ _ => 0)
  exact ⟨u, h2, fun A => t_vs_Arrays_fill_53178_f (l := l) (g := (g.1, g.2.1, (fun _ => q), [])) (A := A) (μ := fun _ _ => 0) (a1 := v) (u := u) (by unfold vs_Arrays_fill_53178_f vs_Arrays_fill_53178_f_l5; rw [h1]; rfl)⟩
theorem fill_3 (l : Launch) (g : Gx) (q : Nat) (v : Int32) : ∃ u : Mm, (∀ i, i < 3 → u 0 i = v) ∧ ∀ A : Nat → Prop, Met l yJ7_fill_53178 (wY yJ7_fill_53178 cJ7_fill_53178 4 none) (rmD 0) (va_Pc [.ref q, .int v] (wU g (fun _ _ => [(q, .inl (cI g, 3, .inl (fun _ => 0)))]) A (fun _ _ => 0))) (Qz g A (fun z : Mm => z = u) (fun z => [(q, .inl (cI g, 3, .inl (z 0)))])) 0 0 A := by
  obtain ⟨u, h1, h2, -⟩ := fill_pure v 3 0 (by decide) (fun q => vs_Arrays_fill_53178_h_b5 q.2 v 3 q.1) (fun q => rfl) (by decide) (fun _ _ => 0)
  exact ⟨u, h2, fun A => t_vs_Arrays_fill_53178_h (l := l) (g := (g.1, g.2.1, (fun _ => q), [])) (A := A) (μ := fun _ _ => 0) (a1 := v) (u := u) (by unfold vs_Arrays_fill_53178_h vs_Arrays_fill_53178_h_l5; rw [h1]; rfl)⟩
def mx0 (κ : Mm) : Mm := fun k => if k = 44 then κ 0 else if k = 12 then κ 1 else if k = 8 then (fun j => if j = 5 then 2 else 0) else fun _ => 0
def mm0 : Mm := fun k => if k = 0 then (fun j => if j = 4 then 2 else 0) else if k = 9 then upd (upd (upd (fun _ => 0) 0 30) 1 30) 2 30 else fun _ => 0
theorem ci_X10_17 : kw_j RX10 17 yX3_init "VanShelves" cX3_init 1 0 := ⟨tn_269, tw_270, tw_10, tw_271, rfl, by decide, by decide, by decide +kernel⟩
theorem ci_X11_11 : kw_j RX11 11 yX9_init "VanShelves" cX9_init 1 0 := ⟨tn_27, tw_28, tw_2, tw_29, rfl, by decide, by decide, by decide +kernel⟩
theorem ci_X11_18 : kw_j RX11 18 yX2_init "VanShelves" cX2_init 1 0 := ⟨tn_43, tw_44, tw_3, tw_45, rfl, by decide, by decide, by decide +kernel⟩
theorem ci_X11_25 : kw_j RX11 25 yX5_init "VanShelves" cX5_init 1 0 := ⟨tn_101, tw_102, tw_4, tw_103, rfl, by decide, by decide, by decide +kernel⟩
theorem ci_X11_32 : kw_j RX11 32 yX8_init "VanShelves" cX8_init 1 0 := ⟨tn_144, tw_145, tw_5, tw_146, rfl, by decide, by decide, by decide +kernel⟩
theorem ci_X11_39 : kw_i RX11 39 yX1_init cX1_init 1 0 := ⟨tw_205, tw_206, tw_6, tw_207, rfl, by decide, by decide, by decide +kernel⟩
theorem ci_X11_46 : kw_j RX11 46 yX0_init "VanShelves" cX0_init 1 0 := ⟨tn_236, tw_237, tw_8, tw_238, rfl, by decide, by decide, by decide +kernel⟩
theorem ci_X11_53 : kw_i RX11 53 yX10_init cX10_init 4 3 := ⟨tw_263, tw_264, tw_9, tw_265, rfl, by decide, by decide, by decide +kernel⟩
theorem ci_X11_62 : kw_i RX11 62 yX6_init cX6_init 2 1 := ⟨tw_333, tw_334, tw_11, tw_335, rfl, by decide, by decide, by decide +kernel⟩
theorem ci_X11_71 : kw_j RX11 71 yX7_init "VanShelves" cX7_init 1 0 := ⟨tn_359, tw_360, tw_12, tw_361, rfl, by decide, by decide, by decide +kernel⟩
theorem ci_X11_91 : kw_j RX11 91 yX3_init "VanShelves" cX3_init 1 0 := ⟨tn_415, tw_270, tw_10, tw_271, rfl, by decide, by decide, by decide +kernel⟩
theorem cw_X11_80 : kw_s RX11 80 yJ7_fill_53178 cJ7_fill_53178 4 none 2 := ⟨tw_413, tw_210, tw_7, tw_211, by decide, by decide, by decide +kernel⟩
set_option maxHeartbeats 4000000 in
set_option maxRecDepth 100000 in
theorem tc_X9 {l : Launch} {g : Gx} (h0 : Nat) : Ctc l g yX9_init cX9_init 1 1 1 400 [.ref h0] [(h0, .inr (9, [.null, .int 0]))] (fun z : (Nat → Nat) × Mm => True) (fun z => [(h0, .inr (9, [.ref (z.1 0), .int 0])), ((z.1 0), .inl (cI g, 400, .inl (fun _ => 0)))]) := by
  intro A
  refine ent (lv := [(0, .ref h0)]) (by decide) (Nat.le_of_ble_eq_true rfl) rfl ?_
  intro p e s m args below meth c hC hr hlocks hnm hW ls hl
  replace hC : Cx g RX9 cX9_init 1 p s m args c := hC
  obtain ⟨hx, hb, hml, hown, hts, hK, hN⟩ := id hC
  replace hW : wA g [(h0, .inr (9, [.null, .int 0]))] A s.heap s.heap [] := hW
  refine lv_aload_n hx hb dX9_init_0 rfl (lv_at hl 0 rfl) ?_
  refine ka_obj (g := g) hC hl.1 tw_30 tw_23 dX9_init_1 (by decide) (Nat.le_of_ble_eq_true rfl) ?_
  refine W.eq (g2 := F0 m 4 ls []) rfl ?_
  refine lv_aload_n hx hb dX9_init_4 rfl (lv_at hl 0 rfl) ?_
  refine lv_sipush (v := 400) hx hb dX9_init_5 (by decide) ?_
  refine ka_newI (N := 400) hC hW (by decide) (by decide) (by decide) (Nat.le_of_ble_eq_true rfl) (Nat.le_of_ble_eq_true rfl) dX9_init_8 (fun q8 H hW => ?_)
  replace hW : wA g [(h0, .inr (9, [.null, .int 0])), (q8, .inl (cI g, 400, .inl (fun _ => 0)))] A s.heap H _ := hW
  refine W.widen (k := 1) (n := 400) (Nat.le_of_ble_eq_true rfl) (Nat.le_of_ble_eq_true rfl) ?_
  refine ka_putF (g := g) (ws' := [(h0, .inr (9, [.ref q8, .int 0])), (q8, .inl (cI g, 400, .inl (fun _ => 0)))]) hC hW hnm (q0 := 0) rfl (C := RX9) (T := TX9) (N := 2) rfl inX9 tyX9 tyX9_ok nmX9 0 (by decide) tw_31 (by decide) rfl rfl rfl (Nat.le_of_ble_eq_true rfl) rfl dX9_init_10 (fun H locs hW => ?_)
  exact ka_ret (g := g) hC hr hlocks hW ((fun k => ([q8] : List Nat).getD k 0, fun k => fun _ => 0) : (Nat → Nat) × Mm) (by first | exact trivial | exact trivial) [0, 1] (by decide) rfl rfl (Nat.le_of_ble_eq_true rfl) (Nat.le_of_ble_eq_true rfl) dX9_init_13
set_option maxHeartbeats 4000000 in
set_option maxRecDepth 100000 in
theorem tc_X2 {l : Launch} {g : Gx} (h0 : Nat) : Ctc l g yX2_init cX2_init 1 1 10 296 [.ref h0] [(h0, .inr (2, [.null, .null, .null, .null, .null, .null, .null, .null, .null, .null, .int 0]))] (fun z : (Nat → Nat) × Mm => True) (fun z => [(h0, .inr (2, [.ref (z.1 0), .ref (z.1 1), .ref (z.1 2), .ref (z.1 3), .ref (z.1 4), .ref (z.1 5), .ref (z.1 6), .ref (z.1 7), .ref (z.1 8), .ref (z.1 9), .int 0])), ((z.1 0), .inl (cI g, 32, .inl (fun _ => 0))), ((z.1 1), .inl (cI g, 32, .inl (fun _ => 0))), ((z.1 2), .inl (cI g, 32, .inl (fun _ => 0))), ((z.1 3), .inl (cI g, 32, .inl (fun _ => 0))), ((z.1 4), .inl (cI g, 32, .inl (fun _ => 0))), ((z.1 5), .inl (cI g, 32, .inl (fun _ => 0))), ((z.1 6), .inl (cI g, 32, .inl (fun _ => 0))), ((z.1 7), .inl (cI g, 32, .inl (fun _ => 0))), ((z.1 8), .inl (cI g, 32, .inl (fun _ => 0))), ((z.1 9), .inl (cI g, 8, .inl (fun _ => 0)))]) := by
  intro A
  refine ent (lv := [(0, .ref h0)]) (by decide) (Nat.le_of_ble_eq_true rfl) rfl ?_
  intro p e s m args below meth c hC hr hlocks hnm hW ls hl
  replace hC : Cx g RX2 cX2_init 1 p s m args c := hC
  obtain ⟨hx, hb, hml, hown, hts, hK, hN⟩ := id hC
  replace hW : wA g [(h0, .inr (2, [.null, .null, .null, .null, .null, .null, .null, .null, .null, .null, .int 0]))] A s.heap s.heap [] := hW
  refine lv_aload_n hx hb dX2_init_0 rfl (lv_at hl 0 rfl) ?_
  refine ka_obj (g := g) hC hl.1 tw_46 tw_23 dX2_init_1 (by decide) (Nat.le_of_ble_eq_true rfl) ?_
  refine W.eq (g2 := F0 m 4 ls []) rfl ?_
  refine lv_aload_n hx hb dX2_init_4 rfl (lv_at hl 0 rfl) ?_
  refine lv_bipush (v := 32) hx hb dX2_init_5 (by decide) ?_
  refine ka_newI (N := 32) hC hW (by decide) (by decide) (by decide) (Nat.le_of_ble_eq_true rfl) (Nat.le_of_ble_eq_true rfl) dX2_init_7 (fun q7 H hW => ?_)
  replace hW : wA g [(h0, .inr (2, [.null, .null, .null, .null, .null, .null, .null, .null, .null, .null, .int 0])), (q7, .inl (cI g, 32, .inl (fun _ => 0)))] A s.heap H _ := hW
  refine W.widen (k := 1) (n := 32) (Nat.le_of_ble_eq_true rfl) (Nat.le_of_ble_eq_true rfl) ?_
  refine ka_putF (g := g) (ws' := [(h0, .inr (2, [.ref q7, .null, .null, .null, .null, .null, .null, .null, .null, .null, .int 0])), (q7, .inl (cI g, 32, .inl (fun _ => 0)))]) hC hW hnm (q0 := 0) rfl (C := RX2) (T := TX2) (N := 11) rfl inX2 tyX2 tyX2_ok nmX2 0 (by decide) tw_47 (by decide) rfl rfl rfl (Nat.le_of_ble_eq_true rfl) rfl dX2_init_9 (fun H locs hW => ?_)
  refine lv_aload_n hx hb dX2_init_12 rfl (lv_at hl 0 rfl) ?_
  refine lv_bipush (v := 32) hx hb dX2_init_13 (by decide) ?_
  refine ka_newI (N := 32) hC hW (by decide) (by decide) (by decide) (Nat.le_of_ble_eq_true rfl) (Nat.le_of_ble_eq_true rfl) dX2_init_15 (fun q15 H hW => ?_)
  replace hW : wA g [(h0, .inr (2, [.ref q7, .null, .null, .null, .null, .null, .null, .null, .null, .null, .int 0])), (q7, .inl (cI g, 32, .inl (fun _ => 0))), (q15, .inl (cI g, 32, .inl (fun _ => 0)))] A s.heap H _ := hW
  refine W.widen (k := 2) (n := 64) (Nat.le_of_ble_eq_true rfl) (Nat.le_of_ble_eq_true rfl) ?_
  refine ka_putF (g := g) (ws' := [(h0, .inr (2, [.ref q7, .ref q15, .null, .null, .null, .null, .null, .null, .null, .null, .int 0])), (q7, .inl (cI g, 32, .inl (fun _ => 0))), (q15, .inl (cI g, 32, .inl (fun _ => 0)))]) hC hW hnm (q0 := 0) rfl (C := RX2) (T := TX2) (N := 11) rfl inX2 tyX2 tyX2_ok nmX2 1 (by decide) tw_50 (by decide) rfl rfl rfl (Nat.le_of_ble_eq_true rfl) rfl dX2_init_17 (fun H locs hW => ?_)
  refine lv_aload_n hx hb dX2_init_20 rfl (lv_at hl 0 rfl) ?_
  refine lv_bipush (v := 32) hx hb dX2_init_21 (by decide) ?_
  refine ka_newI (N := 32) hC hW (by decide) (by decide) (by decide) (Nat.le_of_ble_eq_true rfl) (Nat.le_of_ble_eq_true rfl) dX2_init_23 (fun q23 H hW => ?_)
  replace hW : wA g [(h0, .inr (2, [.ref q7, .ref q15, .null, .null, .null, .null, .null, .null, .null, .null, .int 0])), (q7, .inl (cI g, 32, .inl (fun _ => 0))), (q15, .inl (cI g, 32, .inl (fun _ => 0))), (q23, .inl (cI g, 32, .inl (fun _ => 0)))] A s.heap H _ := hW
  refine W.widen (k := 3) (n := 96) (Nat.le_of_ble_eq_true rfl) (Nat.le_of_ble_eq_true rfl) ?_
  refine ka_putF (g := g) (ws' := [(h0, .inr (2, [.ref q7, .ref q15, .ref q23, .null, .null, .null, .null, .null, .null, .null, .int 0])), (q7, .inl (cI g, 32, .inl (fun _ => 0))), (q15, .inl (cI g, 32, .inl (fun _ => 0))), (q23, .inl (cI g, 32, .inl (fun _ => 0)))]) hC hW hnm (q0 := 0) rfl (C := RX2) (T := TX2) (N := 11) rfl inX2 tyX2 tyX2_ok nmX2 2 (by decide) tw_54 (by decide) rfl rfl rfl (Nat.le_of_ble_eq_true rfl) rfl dX2_init_25 (fun H locs hW => ?_)
  refine lv_aload_n hx hb dX2_init_28 rfl (lv_at hl 0 rfl) ?_
  refine lv_bipush (v := 32) hx hb dX2_init_29 (by decide) ?_
  refine ka_newI (N := 32) hC hW (by decide) (by decide) (by decide) (Nat.le_of_ble_eq_true rfl) (Nat.le_of_ble_eq_true rfl) dX2_init_31 (fun q31 H hW => ?_)
  replace hW : wA g [(h0, .inr (2, [.ref q7, .ref q15, .ref q23, .null, .null, .null, .null, .null, .null, .null, .int 0])), (q7, .inl (cI g, 32, .inl (fun _ => 0))), (q15, .inl (cI g, 32, .inl (fun _ => 0))), (q23, .inl (cI g, 32, .inl (fun _ => 0))), (q31, .inl (cI g, 32, .inl (fun _ => 0)))] A s.heap H _ := hW
  refine W.widen (k := 4) (n := 128) (Nat.le_of_ble_eq_true rfl) (Nat.le_of_ble_eq_true rfl) ?_
  refine ka_putF (g := g) (ws' := [(h0, .inr (2, [.ref q7, .ref q15, .ref q23, .ref q31, .null, .null, .null, .null, .null, .null, .int 0])), (q7, .inl (cI g, 32, .inl (fun _ => 0))), (q15, .inl (cI g, 32, .inl (fun _ => 0))), (q23, .inl (cI g, 32, .inl (fun _ => 0))), (q31, .inl (cI g, 32, .inl (fun _ => 0)))]) hC hW hnm (q0 := 0) rfl (C := RX2) (T := TX2) (N := 11) rfl inX2 tyX2 tyX2_ok nmX2 3 (by decide) tw_56 (by decide) rfl rfl rfl (Nat.le_of_ble_eq_true rfl) rfl dX2_init_33 (fun H locs hW => ?_)
  refine lv_aload_n hx hb dX2_init_36 rfl (lv_at hl 0 rfl) ?_
  refine lv_bipush (v := 32) hx hb dX2_init_37 (by decide) ?_
  refine ka_newI (N := 32) hC hW (by decide) (by decide) (by decide) (Nat.le_of_ble_eq_true rfl) (Nat.le_of_ble_eq_true rfl) dX2_init_39 (fun q39 H hW => ?_)
  replace hW : wA g [(h0, .inr (2, [.ref q7, .ref q15, .ref q23, .ref q31, .null, .null, .null, .null, .null, .null, .int 0])), (q7, .inl (cI g, 32, .inl (fun _ => 0))), (q15, .inl (cI g, 32, .inl (fun _ => 0))), (q23, .inl (cI g, 32, .inl (fun _ => 0))), (q31, .inl (cI g, 32, .inl (fun _ => 0))), (q39, .inl (cI g, 32, .inl (fun _ => 0)))] A s.heap H _ := hW
  refine W.widen (k := 5) (n := 160) (Nat.le_of_ble_eq_true rfl) (Nat.le_of_ble_eq_true rfl) ?_
  refine ka_putF (g := g) (ws' := [(h0, .inr (2, [.ref q7, .ref q15, .ref q23, .ref q31, .ref q39, .null, .null, .null, .null, .null, .int 0])), (q7, .inl (cI g, 32, .inl (fun _ => 0))), (q15, .inl (cI g, 32, .inl (fun _ => 0))), (q23, .inl (cI g, 32, .inl (fun _ => 0))), (q31, .inl (cI g, 32, .inl (fun _ => 0))), (q39, .inl (cI g, 32, .inl (fun _ => 0)))]) hC hW hnm (q0 := 0) rfl (C := RX2) (T := TX2) (N := 11) rfl inX2 tyX2 tyX2_ok nmX2 4 (by decide) tw_59 (by decide) rfl rfl rfl (Nat.le_of_ble_eq_true rfl) rfl dX2_init_41 (fun H locs hW => ?_)
  refine lv_aload_n hx hb dX2_init_44 rfl (lv_at hl 0 rfl) ?_
  refine lv_bipush (v := 32) hx hb dX2_init_45 (by decide) ?_
  refine ka_newI (N := 32) hC hW (by decide) (by decide) (by decide) (Nat.le_of_ble_eq_true rfl) (Nat.le_of_ble_eq_true rfl) dX2_init_47 (fun q47 H hW => ?_)
  replace hW : wA g [(h0, .inr (2, [.ref q7, .ref q15, .ref q23, .ref q31, .ref q39, .null, .null, .null, .null, .null, .int 0])), (q7, .inl (cI g, 32, .inl (fun _ => 0))), (q15, .inl (cI g, 32, .inl (fun _ => 0))), (q23, .inl (cI g, 32, .inl (fun _ => 0))), (q31, .inl (cI g, 32, .inl (fun _ => 0))), (q39, .inl (cI g, 32, .inl (fun _ => 0))), (q47, .inl (cI g, 32, .inl (fun _ => 0)))] A s.heap H _ := hW
  refine W.widen (k := 6) (n := 192) (Nat.le_of_ble_eq_true rfl) (Nat.le_of_ble_eq_true rfl) ?_
  refine ka_putF (g := g) (ws' := [(h0, .inr (2, [.ref q7, .ref q15, .ref q23, .ref q31, .ref q39, .ref q47, .null, .null, .null, .null, .int 0])), (q7, .inl (cI g, 32, .inl (fun _ => 0))), (q15, .inl (cI g, 32, .inl (fun _ => 0))), (q23, .inl (cI g, 32, .inl (fun _ => 0))), (q31, .inl (cI g, 32, .inl (fun _ => 0))), (q39, .inl (cI g, 32, .inl (fun _ => 0))), (q47, .inl (cI g, 32, .inl (fun _ => 0)))]) hC hW hnm (q0 := 0) rfl (C := RX2) (T := TX2) (N := 11) rfl inX2 tyX2 tyX2_ok nmX2 5 (by decide) tw_61 (by decide) rfl rfl rfl (Nat.le_of_ble_eq_true rfl) rfl dX2_init_49 (fun H locs hW => ?_)
  refine lv_aload_n hx hb dX2_init_52 rfl (lv_at hl 0 rfl) ?_
  refine lv_bipush (v := 32) hx hb dX2_init_53 (by decide) ?_
  refine ka_newI (N := 32) hC hW (by decide) (by decide) (by decide) (Nat.le_of_ble_eq_true rfl) (Nat.le_of_ble_eq_true rfl) dX2_init_55 (fun q55 H hW => ?_)
  replace hW : wA g [(h0, .inr (2, [.ref q7, .ref q15, .ref q23, .ref q31, .ref q39, .ref q47, .null, .null, .null, .null, .int 0])), (q7, .inl (cI g, 32, .inl (fun _ => 0))), (q15, .inl (cI g, 32, .inl (fun _ => 0))), (q23, .inl (cI g, 32, .inl (fun _ => 0))), (q31, .inl (cI g, 32, .inl (fun _ => 0))), (q39, .inl (cI g, 32, .inl (fun _ => 0))), (q47, .inl (cI g, 32, .inl (fun _ => 0))), (q55, .inl (cI g, 32, .inl (fun _ => 0)))] A s.heap H _ := hW
  refine W.widen (k := 7) (n := 224) (Nat.le_of_ble_eq_true rfl) (Nat.le_of_ble_eq_true rfl) ?_
  refine ka_putF (g := g) (ws' := [(h0, .inr (2, [.ref q7, .ref q15, .ref q23, .ref q31, .ref q39, .ref q47, .ref q55, .null, .null, .null, .int 0])), (q7, .inl (cI g, 32, .inl (fun _ => 0))), (q15, .inl (cI g, 32, .inl (fun _ => 0))), (q23, .inl (cI g, 32, .inl (fun _ => 0))), (q31, .inl (cI g, 32, .inl (fun _ => 0))), (q39, .inl (cI g, 32, .inl (fun _ => 0))), (q47, .inl (cI g, 32, .inl (fun _ => 0))), (q55, .inl (cI g, 32, .inl (fun _ => 0)))]) hC hW hnm (q0 := 0) rfl (C := RX2) (T := TX2) (N := 11) rfl inX2 tyX2 tyX2_ok nmX2 6 (by decide) tw_64 (by decide) rfl rfl rfl (Nat.le_of_ble_eq_true rfl) rfl dX2_init_57 (fun H locs hW => ?_)
  refine lv_aload_n hx hb dX2_init_60 rfl (lv_at hl 0 rfl) ?_
  refine lv_bipush (v := 32) hx hb dX2_init_61 (by decide) ?_
  refine ka_newI (N := 32) hC hW (by decide) (by decide) (by decide) (Nat.le_of_ble_eq_true rfl) (Nat.le_of_ble_eq_true rfl) dX2_init_63 (fun q63 H hW => ?_)
  replace hW : wA g [(h0, .inr (2, [.ref q7, .ref q15, .ref q23, .ref q31, .ref q39, .ref q47, .ref q55, .null, .null, .null, .int 0])), (q7, .inl (cI g, 32, .inl (fun _ => 0))), (q15, .inl (cI g, 32, .inl (fun _ => 0))), (q23, .inl (cI g, 32, .inl (fun _ => 0))), (q31, .inl (cI g, 32, .inl (fun _ => 0))), (q39, .inl (cI g, 32, .inl (fun _ => 0))), (q47, .inl (cI g, 32, .inl (fun _ => 0))), (q55, .inl (cI g, 32, .inl (fun _ => 0))), (q63, .inl (cI g, 32, .inl (fun _ => 0)))] A s.heap H _ := hW
  refine W.widen (k := 8) (n := 256) (Nat.le_of_ble_eq_true rfl) (Nat.le_of_ble_eq_true rfl) ?_
  refine ka_putF (g := g) (ws' := [(h0, .inr (2, [.ref q7, .ref q15, .ref q23, .ref q31, .ref q39, .ref q47, .ref q55, .ref q63, .null, .null, .int 0])), (q7, .inl (cI g, 32, .inl (fun _ => 0))), (q15, .inl (cI g, 32, .inl (fun _ => 0))), (q23, .inl (cI g, 32, .inl (fun _ => 0))), (q31, .inl (cI g, 32, .inl (fun _ => 0))), (q39, .inl (cI g, 32, .inl (fun _ => 0))), (q47, .inl (cI g, 32, .inl (fun _ => 0))), (q55, .inl (cI g, 32, .inl (fun _ => 0))), (q63, .inl (cI g, 32, .inl (fun _ => 0)))]) hC hW hnm (q0 := 0) rfl (C := RX2) (T := TX2) (N := 11) rfl inX2 tyX2 tyX2_ok nmX2 7 (by decide) tw_66 (by decide) rfl rfl rfl (Nat.le_of_ble_eq_true rfl) rfl dX2_init_65 (fun H locs hW => ?_)
  refine lv_aload_n hx hb dX2_init_68 rfl (lv_at hl 0 rfl) ?_
  refine lv_bipush (v := 32) hx hb dX2_init_69 (by decide) ?_
  refine ka_newI (N := 32) hC hW (by decide) (by decide) (by decide) (Nat.le_of_ble_eq_true rfl) (Nat.le_of_ble_eq_true rfl) dX2_init_71 (fun q71 H hW => ?_)
  replace hW : wA g [(h0, .inr (2, [.ref q7, .ref q15, .ref q23, .ref q31, .ref q39, .ref q47, .ref q55, .ref q63, .null, .null, .int 0])), (q7, .inl (cI g, 32, .inl (fun _ => 0))), (q15, .inl (cI g, 32, .inl (fun _ => 0))), (q23, .inl (cI g, 32, .inl (fun _ => 0))), (q31, .inl (cI g, 32, .inl (fun _ => 0))), (q39, .inl (cI g, 32, .inl (fun _ => 0))), (q47, .inl (cI g, 32, .inl (fun _ => 0))), (q55, .inl (cI g, 32, .inl (fun _ => 0))), (q63, .inl (cI g, 32, .inl (fun _ => 0))), (q71, .inl (cI g, 32, .inl (fun _ => 0)))] A s.heap H _ := hW
  refine W.widen (k := 9) (n := 288) (Nat.le_of_ble_eq_true rfl) (Nat.le_of_ble_eq_true rfl) ?_
  refine ka_putF (g := g) (ws' := [(h0, .inr (2, [.ref q7, .ref q15, .ref q23, .ref q31, .ref q39, .ref q47, .ref q55, .ref q63, .ref q71, .null, .int 0])), (q7, .inl (cI g, 32, .inl (fun _ => 0))), (q15, .inl (cI g, 32, .inl (fun _ => 0))), (q23, .inl (cI g, 32, .inl (fun _ => 0))), (q31, .inl (cI g, 32, .inl (fun _ => 0))), (q39, .inl (cI g, 32, .inl (fun _ => 0))), (q47, .inl (cI g, 32, .inl (fun _ => 0))), (q55, .inl (cI g, 32, .inl (fun _ => 0))), (q63, .inl (cI g, 32, .inl (fun _ => 0))), (q71, .inl (cI g, 32, .inl (fun _ => 0)))]) hC hW hnm (q0 := 0) rfl (C := RX2) (T := TX2) (N := 11) rfl inX2 tyX2 tyX2_ok nmX2 8 (by decide) tw_68 (by decide) rfl rfl rfl (Nat.le_of_ble_eq_true rfl) rfl dX2_init_73 (fun H locs hW => ?_)
  refine lv_aload_n hx hb dX2_init_76 rfl (lv_at hl 0 rfl) ?_
  refine lv_bipush (v := 8) hx hb dX2_init_77 (by decide) ?_
  refine ka_newI (N := 8) hC hW (by decide) (by decide) (by decide) (Nat.le_of_ble_eq_true rfl) (Nat.le_of_ble_eq_true rfl) dX2_init_79 (fun q79 H hW => ?_)
  replace hW : wA g [(h0, .inr (2, [.ref q7, .ref q15, .ref q23, .ref q31, .ref q39, .ref q47, .ref q55, .ref q63, .ref q71, .null, .int 0])), (q7, .inl (cI g, 32, .inl (fun _ => 0))), (q15, .inl (cI g, 32, .inl (fun _ => 0))), (q23, .inl (cI g, 32, .inl (fun _ => 0))), (q31, .inl (cI g, 32, .inl (fun _ => 0))), (q39, .inl (cI g, 32, .inl (fun _ => 0))), (q47, .inl (cI g, 32, .inl (fun _ => 0))), (q55, .inl (cI g, 32, .inl (fun _ => 0))), (q63, .inl (cI g, 32, .inl (fun _ => 0))), (q71, .inl (cI g, 32, .inl (fun _ => 0))), (q79, .inl (cI g, 8, .inl (fun _ => 0)))] A s.heap H _ := hW
  refine W.widen (k := 10) (n := 296) (Nat.le_of_ble_eq_true rfl) (Nat.le_of_ble_eq_true rfl) ?_
  refine ka_putF (g := g) (ws' := [(h0, .inr (2, [.ref q7, .ref q15, .ref q23, .ref q31, .ref q39, .ref q47, .ref q55, .ref q63, .ref q71, .ref q79, .int 0])), (q7, .inl (cI g, 32, .inl (fun _ => 0))), (q15, .inl (cI g, 32, .inl (fun _ => 0))), (q23, .inl (cI g, 32, .inl (fun _ => 0))), (q31, .inl (cI g, 32, .inl (fun _ => 0))), (q39, .inl (cI g, 32, .inl (fun _ => 0))), (q47, .inl (cI g, 32, .inl (fun _ => 0))), (q55, .inl (cI g, 32, .inl (fun _ => 0))), (q63, .inl (cI g, 32, .inl (fun _ => 0))), (q71, .inl (cI g, 32, .inl (fun _ => 0))), (q79, .inl (cI g, 8, .inl (fun _ => 0)))]) hC hW hnm (q0 := 0) rfl (C := RX2) (T := TX2) (N := 11) rfl inX2 tyX2 tyX2_ok nmX2 9 (by decide) tw_71 (by decide) rfl rfl rfl (Nat.le_of_ble_eq_true rfl) rfl dX2_init_81 (fun H locs hW => ?_)
  exact ka_ret (g := g) hC hr hlocks hW ((fun k => ([q7, q15, q23, q31, q39, q47, q55, q63, q71, q79] : List Nat).getD k 0, fun k => fun _ => 0) : (Nat → Nat) × Mm) (by first | exact trivial | exact trivial) [0, 1, 2, 3, 4, 5, 6, 7, 8, 9, 10] (by decide) rfl rfl (Nat.le_of_ble_eq_true rfl) (Nat.le_of_ble_eq_true rfl) dX2_init_84
set_option maxHeartbeats 4000000 in
set_option maxRecDepth 100000 in
theorem tc_X5 {l : Launch} {g : Gx} (h0 : Nat) : Ctc l g yX5_init cX5_init 1 1 7 224 [.ref h0] [(h0, .inr (5, [.null, .null, .null, .null, .null, .null, .null, .int 0]))] (fun z : (Nat → Nat) × Mm => True) (fun z => [(h0, .inr (5, [.ref (z.1 0), .ref (z.1 1), .ref (z.1 2), .ref (z.1 3), .ref (z.1 4), .ref (z.1 5), .ref (z.1 6), .int 0])), ((z.1 0), .inl (cI g, 16, .inl (fun _ => 0))), ((z.1 1), .inl (cI g, 16, .inl (fun _ => 0))), ((z.1 2), .inl (cI g, 128, .inl (fun _ => 0))), ((z.1 3), .inl (cI g, 16, .inl (fun _ => 0))), ((z.1 4), .inl (cI g, 16, .inl (fun _ => 0))), ((z.1 5), .inl (cI g, 16, .inl (fun _ => 0))), ((z.1 6), .inl (cI g, 16, .inl (fun _ => 0)))]) := by
  intro A
  refine ent (lv := [(0, .ref h0)]) (by decide) (Nat.le_of_ble_eq_true rfl) rfl ?_
  intro p e s m args below meth c hC hr hlocks hnm hW ls hl
  replace hC : Cx g RX5 cX5_init 1 p s m args c := hC
  obtain ⟨hx, hb, hml, hown, hts, hK, hN⟩ := id hC
  replace hW : wA g [(h0, .inr (5, [.null, .null, .null, .null, .null, .null, .null, .int 0]))] A s.heap s.heap [] := hW
  refine lv_aload_n hx hb dX5_init_0 rfl (lv_at hl 0 rfl) ?_
  refine ka_obj (g := g) hC hl.1 tw_104 tw_23 dX5_init_1 (by decide) (Nat.le_of_ble_eq_true rfl) ?_
  refine W.eq (g2 := F0 m 4 ls []) rfl ?_
  refine lv_aload_n hx hb dX5_init_4 rfl (lv_at hl 0 rfl) ?_
  refine lv_bipush (v := 16) hx hb dX5_init_5 (by decide) ?_
  refine ka_newI (N := 16) hC hW (by decide) (by decide) (by decide) (Nat.le_of_ble_eq_true rfl) (Nat.le_of_ble_eq_true rfl) dX5_init_7 (fun q7 H hW => ?_)
  replace hW : wA g [(h0, .inr (5, [.null, .null, .null, .null, .null, .null, .null, .int 0])), (q7, .inl (cI g, 16, .inl (fun _ => 0)))] A s.heap H _ := hW
  refine W.widen (k := 1) (n := 16) (Nat.le_of_ble_eq_true rfl) (Nat.le_of_ble_eq_true rfl) ?_
  refine ka_putF (g := g) (ws' := [(h0, .inr (5, [.ref q7, .null, .null, .null, .null, .null, .null, .int 0])), (q7, .inl (cI g, 16, .inl (fun _ => 0)))]) hC hW hnm (q0 := 0) rfl (C := RX5) (T := TX5) (N := 8) rfl inX5 tyX5 tyX5_ok nmX5 0 (by decide) tw_105 (by decide) rfl rfl rfl (Nat.le_of_ble_eq_true rfl) rfl dX5_init_9 (fun H locs hW => ?_)
  refine lv_aload_n hx hb dX5_init_12 rfl (lv_at hl 0 rfl) ?_
  refine lv_bipush (v := 16) hx hb dX5_init_13 (by decide) ?_
  refine ka_newI (N := 16) hC hW (by decide) (by decide) (by decide) (Nat.le_of_ble_eq_true rfl) (Nat.le_of_ble_eq_true rfl) dX5_init_15 (fun q15 H hW => ?_)
  replace hW : wA g [(h0, .inr (5, [.ref q7, .null, .null, .null, .null, .null, .null, .int 0])), (q7, .inl (cI g, 16, .inl (fun _ => 0))), (q15, .inl (cI g, 16, .inl (fun _ => 0)))] A s.heap H _ := hW
  refine W.widen (k := 2) (n := 32) (Nat.le_of_ble_eq_true rfl) (Nat.le_of_ble_eq_true rfl) ?_
  refine ka_putF (g := g) (ws' := [(h0, .inr (5, [.ref q7, .ref q15, .null, .null, .null, .null, .null, .int 0])), (q7, .inl (cI g, 16, .inl (fun _ => 0))), (q15, .inl (cI g, 16, .inl (fun _ => 0)))]) hC hW hnm (q0 := 0) rfl (C := RX5) (T := TX5) (N := 8) rfl inX5 tyX5 tyX5_ok nmX5 1 (by decide) tw_108 (by decide) rfl rfl rfl (Nat.le_of_ble_eq_true rfl) rfl dX5_init_17 (fun H locs hW => ?_)
  refine lv_aload_n hx hb dX5_init_20 rfl (lv_at hl 0 rfl) ?_
  refine lv_sipush (v := 128) hx hb dX5_init_21 (by decide) ?_
  refine ka_newI (N := 128) hC hW (by decide) (by decide) (by decide) (Nat.le_of_ble_eq_true rfl) (Nat.le_of_ble_eq_true rfl) dX5_init_24 (fun q24 H hW => ?_)
  replace hW : wA g [(h0, .inr (5, [.ref q7, .ref q15, .null, .null, .null, .null, .null, .int 0])), (q7, .inl (cI g, 16, .inl (fun _ => 0))), (q15, .inl (cI g, 16, .inl (fun _ => 0))), (q24, .inl (cI g, 128, .inl (fun _ => 0)))] A s.heap H _ := hW
  refine W.widen (k := 3) (n := 160) (Nat.le_of_ble_eq_true rfl) (Nat.le_of_ble_eq_true rfl) ?_
  refine ka_putF (g := g) (ws' := [(h0, .inr (5, [.ref q7, .ref q15, .ref q24, .null, .null, .null, .null, .int 0])), (q7, .inl (cI g, 16, .inl (fun _ => 0))), (q15, .inl (cI g, 16, .inl (fun _ => 0))), (q24, .inl (cI g, 128, .inl (fun _ => 0)))]) hC hW hnm (q0 := 0) rfl (C := RX5) (T := TX5) (N := 8) rfl inX5 tyX5 tyX5_ok nmX5 2 (by decide) tw_110 (by decide) rfl rfl rfl (Nat.le_of_ble_eq_true rfl) rfl dX5_init_26 (fun H locs hW => ?_)
  refine lv_aload_n hx hb dX5_init_29 rfl (lv_at hl 0 rfl) ?_
  refine lv_bipush (v := 16) hx hb dX5_init_30 (by decide) ?_
  refine ka_newI (N := 16) hC hW (by decide) (by decide) (by decide) (Nat.le_of_ble_eq_true rfl) (Nat.le_of_ble_eq_true rfl) dX5_init_32 (fun q32 H hW => ?_)
  replace hW : wA g [(h0, .inr (5, [.ref q7, .ref q15, .ref q24, .null, .null, .null, .null, .int 0])), (q7, .inl (cI g, 16, .inl (fun _ => 0))), (q15, .inl (cI g, 16, .inl (fun _ => 0))), (q24, .inl (cI g, 128, .inl (fun _ => 0))), (q32, .inl (cI g, 16, .inl (fun _ => 0)))] A s.heap H _ := hW
  refine W.widen (k := 4) (n := 176) (Nat.le_of_ble_eq_true rfl) (Nat.le_of_ble_eq_true rfl) ?_
  refine ka_putF (g := g) (ws' := [(h0, .inr (5, [.ref q7, .ref q15, .ref q24, .ref q32, .null, .null, .null, .int 0])), (q7, .inl (cI g, 16, .inl (fun _ => 0))), (q15, .inl (cI g, 16, .inl (fun _ => 0))), (q24, .inl (cI g, 128, .inl (fun _ => 0))), (q32, .inl (cI g, 16, .inl (fun _ => 0)))]) hC hW hnm (q0 := 0) rfl (C := RX5) (T := TX5) (N := 8) rfl inX5 tyX5 tyX5_ok nmX5 3 (by decide) tw_113 (by decide) rfl rfl rfl (Nat.le_of_ble_eq_true rfl) rfl dX5_init_34 (fun H locs hW => ?_)
  refine lv_aload_n hx hb dX5_init_37 rfl (lv_at hl 0 rfl) ?_
  refine lv_bipush (v := 16) hx hb dX5_init_38 (by decide) ?_
  refine ka_newI (N := 16) hC hW (by decide) (by decide) (by decide) (Nat.le_of_ble_eq_true rfl) (Nat.le_of_ble_eq_true rfl) dX5_init_40 (fun q40 H hW => ?_)
  replace hW : wA g [(h0, .inr (5, [.ref q7, .ref q15, .ref q24, .ref q32, .null, .null, .null, .int 0])), (q7, .inl (cI g, 16, .inl (fun _ => 0))), (q15, .inl (cI g, 16, .inl (fun _ => 0))), (q24, .inl (cI g, 128, .inl (fun _ => 0))), (q32, .inl (cI g, 16, .inl (fun _ => 0))), (q40, .inl (cI g, 16, .inl (fun _ => 0)))] A s.heap H _ := hW
  refine W.widen (k := 5) (n := 192) (Nat.le_of_ble_eq_true rfl) (Nat.le_of_ble_eq_true rfl) ?_
  refine ka_putF (g := g) (ws' := [(h0, .inr (5, [.ref q7, .ref q15, .ref q24, .ref q32, .ref q40, .null, .null, .int 0])), (q7, .inl (cI g, 16, .inl (fun _ => 0))), (q15, .inl (cI g, 16, .inl (fun _ => 0))), (q24, .inl (cI g, 128, .inl (fun _ => 0))), (q32, .inl (cI g, 16, .inl (fun _ => 0))), (q40, .inl (cI g, 16, .inl (fun _ => 0)))]) hC hW hnm (q0 := 0) rfl (C := RX5) (T := TX5) (N := 8) rfl inX5 tyX5 tyX5_ok nmX5 4 (by decide) tw_116 (by decide) rfl rfl rfl (Nat.le_of_ble_eq_true rfl) rfl dX5_init_42 (fun H locs hW => ?_)
  refine lv_aload_n hx hb dX5_init_45 rfl (lv_at hl 0 rfl) ?_
  refine lv_bipush (v := 16) hx hb dX5_init_46 (by decide) ?_
  refine ka_newI (N := 16) hC hW (by decide) (by decide) (by decide) (Nat.le_of_ble_eq_true rfl) (Nat.le_of_ble_eq_true rfl) dX5_init_48 (fun q48 H hW => ?_)
  replace hW : wA g [(h0, .inr (5, [.ref q7, .ref q15, .ref q24, .ref q32, .ref q40, .null, .null, .int 0])), (q7, .inl (cI g, 16, .inl (fun _ => 0))), (q15, .inl (cI g, 16, .inl (fun _ => 0))), (q24, .inl (cI g, 128, .inl (fun _ => 0))), (q32, .inl (cI g, 16, .inl (fun _ => 0))), (q40, .inl (cI g, 16, .inl (fun _ => 0))), (q48, .inl (cI g, 16, .inl (fun _ => 0)))] A s.heap H _ := hW
  refine W.widen (k := 6) (n := 208) (Nat.le_of_ble_eq_true rfl) (Nat.le_of_ble_eq_true rfl) ?_
  refine ka_putF (g := g) (ws' := [(h0, .inr (5, [.ref q7, .ref q15, .ref q24, .ref q32, .ref q40, .ref q48, .null, .int 0])), (q7, .inl (cI g, 16, .inl (fun _ => 0))), (q15, .inl (cI g, 16, .inl (fun _ => 0))), (q24, .inl (cI g, 128, .inl (fun _ => 0))), (q32, .inl (cI g, 16, .inl (fun _ => 0))), (q40, .inl (cI g, 16, .inl (fun _ => 0))), (q48, .inl (cI g, 16, .inl (fun _ => 0)))]) hC hW hnm (q0 := 0) rfl (C := RX5) (T := TX5) (N := 8) rfl inX5 tyX5 tyX5_ok nmX5 5 (by decide) tw_119 (by decide) rfl rfl rfl (Nat.le_of_ble_eq_true rfl) rfl dX5_init_50 (fun H locs hW => ?_)
  refine lv_aload_n hx hb dX5_init_53 rfl (lv_at hl 0 rfl) ?_
  refine lv_bipush (v := 16) hx hb dX5_init_54 (by decide) ?_
  refine ka_newI (N := 16) hC hW (by decide) (by decide) (by decide) (Nat.le_of_ble_eq_true rfl) (Nat.le_of_ble_eq_true rfl) dX5_init_56 (fun q56 H hW => ?_)
  replace hW : wA g [(h0, .inr (5, [.ref q7, .ref q15, .ref q24, .ref q32, .ref q40, .ref q48, .null, .int 0])), (q7, .inl (cI g, 16, .inl (fun _ => 0))), (q15, .inl (cI g, 16, .inl (fun _ => 0))), (q24, .inl (cI g, 128, .inl (fun _ => 0))), (q32, .inl (cI g, 16, .inl (fun _ => 0))), (q40, .inl (cI g, 16, .inl (fun _ => 0))), (q48, .inl (cI g, 16, .inl (fun _ => 0))), (q56, .inl (cI g, 16, .inl (fun _ => 0)))] A s.heap H _ := hW
  refine W.widen (k := 7) (n := 224) (Nat.le_of_ble_eq_true rfl) (Nat.le_of_ble_eq_true rfl) ?_
  refine ka_putF (g := g) (ws' := [(h0, .inr (5, [.ref q7, .ref q15, .ref q24, .ref q32, .ref q40, .ref q48, .ref q56, .int 0])), (q7, .inl (cI g, 16, .inl (fun _ => 0))), (q15, .inl (cI g, 16, .inl (fun _ => 0))), (q24, .inl (cI g, 128, .inl (fun _ => 0))), (q32, .inl (cI g, 16, .inl (fun _ => 0))), (q40, .inl (cI g, 16, .inl (fun _ => 0))), (q48, .inl (cI g, 16, .inl (fun _ => 0))), (q56, .inl (cI g, 16, .inl (fun _ => 0)))]) hC hW hnm (q0 := 0) rfl (C := RX5) (T := TX5) (N := 8) rfl inX5 tyX5 tyX5_ok nmX5 6 (by decide) tw_121 (by decide) rfl rfl rfl (Nat.le_of_ble_eq_true rfl) rfl dX5_init_58 (fun H locs hW => ?_)
  exact ka_ret (g := g) hC hr hlocks hW ((fun k => ([q7, q15, q24, q32, q40, q48, q56] : List Nat).getD k 0, fun k => fun _ => 0) : (Nat → Nat) × Mm) (by first | exact trivial | exact trivial) [0, 1, 2, 3, 4, 5, 6, 7] (by decide) rfl rfl (Nat.le_of_ble_eq_true rfl) (Nat.le_of_ble_eq_true rfl) dX5_init_61
set_option maxHeartbeats 4000000 in
set_option maxRecDepth 100000 in
theorem tc_X8 {l : Launch} {g : Gx} (h0 : Nat) : Ctc l g yX8_init cX8_init 1 1 12 1332 [.ref h0] [(h0, .inr (8, [.null, .null, .null, .null, .null, .null, .null, .null, .null, .null, .null, .null, .int 0, .int 0]))] (fun z : (Nat → Nat) × Mm => True) (fun z => [(h0, .inr (8, [.ref (z.1 0), .ref (z.1 1), .ref (z.1 2), .ref (z.1 3), .ref (z.1 4), .ref (z.1 5), .ref (z.1 6), .ref (z.1 7), .ref (z.1 8), .ref (z.1 9), .ref (z.1 10), .ref (z.1 11), .int 0, .int 0])), ((z.1 0), .inl (cI g, 10, .inl (fun _ => 0))), ((z.1 1), .inl (cI g, 10, .inl (fun _ => 0))), ((z.1 2), .inl (cI g, 10, .inl (fun _ => 0))), ((z.1 3), .inl (cI g, 10, .inl (fun _ => 0))), ((z.1 4), .inl (cI g, 10, .inl (fun _ => 0))), ((z.1 5), .inl (cI g, 10, .inl (fun _ => 0))), ((z.1 6), .inl (cI g, 10, .inl (fun _ => 0))), ((z.1 7), .inl (cI g, 10, .inl (fun _ => 0))), ((z.1 8), .inl (cI g, 10, .inl (fun _ => 0))), ((z.1 9), .inl (cI g, 42, .inl (fun _ => 0))), ((z.1 10), .inl (cI g, 600, .inl (fun _ => 0))), ((z.1 11), .inl (cI g, 600, .inl (fun _ => 0)))]) := by
  intro A
  refine ent (lv := [(0, .ref h0)]) (by decide) (Nat.le_of_ble_eq_true rfl) rfl ?_
  intro p e s m args below meth c hC hr hlocks hnm hW ls hl
  replace hC : Cx g RX8 cX8_init 1 p s m args c := hC
  obtain ⟨hx, hb, hml, hown, hts, hK, hN⟩ := id hC
  replace hW : wA g [(h0, .inr (8, [.null, .null, .null, .null, .null, .null, .null, .null, .null, .null, .null, .null, .int 0, .int 0]))] A s.heap s.heap [] := hW
  refine lv_aload_n hx hb dX8_init_0 rfl (lv_at hl 0 rfl) ?_
  refine ka_obj (g := g) hC hl.1 tw_147 tw_23 dX8_init_1 (by decide) (Nat.le_of_ble_eq_true rfl) ?_
  refine W.eq (g2 := F0 m 4 ls []) rfl ?_
  refine lv_aload_n hx hb dX8_init_4 rfl (lv_at hl 0 rfl) ?_
  refine lv_bipush (v := 10) hx hb dX8_init_5 (by decide) ?_
  refine ka_newI (N := 10) hC hW (by decide) (by decide) (by decide) (Nat.le_of_ble_eq_true rfl) (Nat.le_of_ble_eq_true rfl) dX8_init_7 (fun q7 H hW => ?_)
  replace hW : wA g [(h0, .inr (8, [.null, .null, .null, .null, .null, .null, .null, .null, .null, .null, .null, .null, .int 0, .int 0])), (q7, .inl (cI g, 10, .inl (fun _ => 0)))] A s.heap H _ := hW
  refine W.widen (k := 1) (n := 10) (Nat.le_of_ble_eq_true rfl) (Nat.le_of_ble_eq_true rfl) ?_
  refine ka_putF (g := g) (ws' := [(h0, .inr (8, [.ref q7, .null, .null, .null, .null, .null, .null, .null, .null, .null, .null, .null, .int 0, .int 0])), (q7, .inl (cI g, 10, .inl (fun _ => 0)))]) hC hW hnm (q0 := 0) rfl (C := RX8) (T := TX8) (N := 14) rfl inX8 tyX8 tyX8_ok nmX8 0 (by decide) tw_148 (by decide) rfl rfl rfl (Nat.le_of_ble_eq_true rfl) rfl dX8_init_9 (fun H locs hW => ?_)
  refine lv_aload_n hx hb dX8_init_12 rfl (lv_at hl 0 rfl) ?_
  refine lv_bipush (v := 10) hx hb dX8_init_13 (by decide) ?_
  refine ka_newI (N := 10) hC hW (by decide) (by decide) (by decide) (Nat.le_of_ble_eq_true rfl) (Nat.le_of_ble_eq_true rfl) dX8_init_15 (fun q15 H hW => ?_)
  replace hW : wA g [(h0, .inr (8, [.ref q7, .null, .null, .null, .null, .null, .null, .null, .null, .null, .null, .null, .int 0, .int 0])), (q7, .inl (cI g, 10, .inl (fun _ => 0))), (q15, .inl (cI g, 10, .inl (fun _ => 0)))] A s.heap H _ := hW
  refine W.widen (k := 2) (n := 20) (Nat.le_of_ble_eq_true rfl) (Nat.le_of_ble_eq_true rfl) ?_
  refine ka_putF (g := g) (ws' := [(h0, .inr (8, [.ref q7, .ref q15, .null, .null, .null, .null, .null, .null, .null, .null, .null, .null, .int 0, .int 0])), (q7, .inl (cI g, 10, .inl (fun _ => 0))), (q15, .inl (cI g, 10, .inl (fun _ => 0)))]) hC hW hnm (q0 := 0) rfl (C := RX8) (T := TX8) (N := 14) rfl inX8 tyX8 tyX8_ok nmX8 1 (by decide) tw_150 (by decide) rfl rfl rfl (Nat.le_of_ble_eq_true rfl) rfl dX8_init_17 (fun H locs hW => ?_)
  refine lv_aload_n hx hb dX8_init_20 rfl (lv_at hl 0 rfl) ?_
  refine lv_bipush (v := 10) hx hb dX8_init_21 (by decide) ?_
  refine ka_newI (N := 10) hC hW (by decide) (by decide) (by decide) (Nat.le_of_ble_eq_true rfl) (Nat.le_of_ble_eq_true rfl) dX8_init_23 (fun q23 H hW => ?_)
  replace hW : wA g [(h0, .inr (8, [.ref q7, .ref q15, .null, .null, .null, .null, .null, .null, .null, .null, .null, .null, .int 0, .int 0])), (q7, .inl (cI g, 10, .inl (fun _ => 0))), (q15, .inl (cI g, 10, .inl (fun _ => 0))), (q23, .inl (cI g, 10, .inl (fun _ => 0)))] A s.heap H _ := hW
  refine W.widen (k := 3) (n := 30) (Nat.le_of_ble_eq_true rfl) (Nat.le_of_ble_eq_true rfl) ?_
  refine ka_putF (g := g) (ws' := [(h0, .inr (8, [.ref q7, .ref q15, .ref q23, .null, .null, .null, .null, .null, .null, .null, .null, .null, .int 0, .int 0])), (q7, .inl (cI g, 10, .inl (fun _ => 0))), (q15, .inl (cI g, 10, .inl (fun _ => 0))), (q23, .inl (cI g, 10, .inl (fun _ => 0)))]) hC hW hnm (q0 := 0) rfl (C := RX8) (T := TX8) (N := 14) rfl inX8 tyX8 tyX8_ok nmX8 2 (by decide) tw_152 (by decide) rfl rfl rfl (Nat.le_of_ble_eq_true rfl) rfl dX8_init_25 (fun H locs hW => ?_)
  refine lv_aload_n hx hb dX8_init_28 rfl (lv_at hl 0 rfl) ?_
  refine lv_bipush (v := 10) hx hb dX8_init_29 (by decide) ?_
  refine ka_newI (N := 10) hC hW (by decide) (by decide) (by decide) (Nat.le_of_ble_eq_true rfl) (Nat.le_of_ble_eq_true rfl) dX8_init_31 (fun q31 H hW => ?_)
  replace hW : wA g [(h0, .inr (8, [.ref q7, .ref q15, .ref q23, .null, .null, .null, .null, .null, .null, .null, .null, .null, .int 0, .int 0])), (q7, .inl (cI g, 10, .inl (fun _ => 0))), (q15, .inl (cI g, 10, .inl (fun _ => 0))), (q23, .inl (cI g, 10, .inl (fun _ => 0))), (q31, .inl (cI g, 10, .inl (fun _ => 0)))] A s.heap H _ := hW
  refine W.widen (k := 4) (n := 40) (Nat.le_of_ble_eq_true rfl) (Nat.le_of_ble_eq_true rfl) ?_
  refine ka_putF (g := g) (ws' := [(h0, .inr (8, [.ref q7, .ref q15, .ref q23, .ref q31, .null, .null, .null, .null, .null, .null, .null, .null, .int 0, .int 0])), (q7, .inl (cI g, 10, .inl (fun _ => 0))), (q15, .inl (cI g, 10, .inl (fun _ => 0))), (q23, .inl (cI g, 10, .inl (fun _ => 0))), (q31, .inl (cI g, 10, .inl (fun _ => 0)))]) hC hW hnm (q0 := 0) rfl (C := RX8) (T := TX8) (N := 14) rfl inX8 tyX8 tyX8_ok nmX8 3 (by decide) tw_154 (by decide) rfl rfl rfl (Nat.le_of_ble_eq_true rfl) rfl dX8_init_33 (fun H locs hW => ?_)
  refine lv_aload_n hx hb dX8_init_36 rfl (lv_at hl 0 rfl) ?_
  refine lv_bipush (v := 10) hx hb dX8_init_37 (by decide) ?_
  refine ka_newI (N := 10) hC hW (by decide) (by decide) (by decide) (Nat.le_of_ble_eq_true rfl) (Nat.le_of_ble_eq_true rfl) dX8_init_39 (fun q39 H hW => ?_)
  replace hW : wA g [(h0, .inr (8, [.ref q7, .ref q15, .ref q23, .ref q31, .null, .null, .null, .null, .null, .null, .null, .null, .int 0, .int 0])), (q7, .inl (cI g, 10, .inl (fun _ => 0))), (q15, .inl (cI g, 10, .inl (fun _ => 0))), (q23, .inl (cI g, 10, .inl (fun _ => 0))), (q31, .inl (cI g, 10, .inl (fun _ => 0))), (q39, .inl (cI g, 10, .inl (fun _ => 0)))] A s.heap H _ := hW
  refine W.widen (k := 5) (n := 50) (Nat.le_of_ble_eq_true rfl) (Nat.le_of_ble_eq_true rfl) ?_
  refine ka_putF (g := g) (ws' := [(h0, .inr (8, [.ref q7, .ref q15, .ref q23, .ref q31, .ref q39, .null, .null, .null, .null, .null, .null, .null, .int 0, .int 0])), (q7, .inl (cI g, 10, .inl (fun _ => 0))), (q15, .inl (cI g, 10, .inl (fun _ => 0))), (q23, .inl (cI g, 10, .inl (fun _ => 0))), (q31, .inl (cI g, 10, .inl (fun _ => 0))), (q39, .inl (cI g, 10, .inl (fun _ => 0)))]) hC hW hnm (q0 := 0) rfl (C := RX8) (T := TX8) (N := 14) rfl inX8 tyX8 tyX8_ok nmX8 4 (by decide) tw_156 (by decide) rfl rfl rfl (Nat.le_of_ble_eq_true rfl) rfl dX8_init_41 (fun H locs hW => ?_)
  refine lv_aload_n hx hb dX8_init_44 rfl (lv_at hl 0 rfl) ?_
  refine lv_bipush (v := 10) hx hb dX8_init_45 (by decide) ?_
  refine ka_newI (N := 10) hC hW (by decide) (by decide) (by decide) (Nat.le_of_ble_eq_true rfl) (Nat.le_of_ble_eq_true rfl) dX8_init_47 (fun q47 H hW => ?_)
  replace hW : wA g [(h0, .inr (8, [.ref q7, .ref q15, .ref q23, .ref q31, .ref q39, .null, .null, .null, .null, .null, .null, .null, .int 0, .int 0])), (q7, .inl (cI g, 10, .inl (fun _ => 0))), (q15, .inl (cI g, 10, .inl (fun _ => 0))), (q23, .inl (cI g, 10, .inl (fun _ => 0))), (q31, .inl (cI g, 10, .inl (fun _ => 0))), (q39, .inl (cI g, 10, .inl (fun _ => 0))), (q47, .inl (cI g, 10, .inl (fun _ => 0)))] A s.heap H _ := hW
  refine W.widen (k := 6) (n := 60) (Nat.le_of_ble_eq_true rfl) (Nat.le_of_ble_eq_true rfl) ?_
  refine ka_putF (g := g) (ws' := [(h0, .inr (8, [.ref q7, .ref q15, .ref q23, .ref q31, .ref q39, .ref q47, .null, .null, .null, .null, .null, .null, .int 0, .int 0])), (q7, .inl (cI g, 10, .inl (fun _ => 0))), (q15, .inl (cI g, 10, .inl (fun _ => 0))), (q23, .inl (cI g, 10, .inl (fun _ => 0))), (q31, .inl (cI g, 10, .inl (fun _ => 0))), (q39, .inl (cI g, 10, .inl (fun _ => 0))), (q47, .inl (cI g, 10, .inl (fun _ => 0)))]) hC hW hnm (q0 := 0) rfl (C := RX8) (T := TX8) (N := 14) rfl inX8 tyX8 tyX8_ok nmX8 5 (by decide) tw_157 (by decide) rfl rfl rfl (Nat.le_of_ble_eq_true rfl) rfl dX8_init_49 (fun H locs hW => ?_)
  refine lv_aload_n hx hb dX8_init_52 rfl (lv_at hl 0 rfl) ?_
  refine lv_bipush (v := 10) hx hb dX8_init_53 (by decide) ?_
  refine ka_newI (N := 10) hC hW (by decide) (by decide) (by decide) (Nat.le_of_ble_eq_true rfl) (Nat.le_of_ble_eq_true rfl) dX8_init_55 (fun q55 H hW => ?_)
  replace hW : wA g [(h0, .inr (8, [.ref q7, .ref q15, .ref q23, .ref q31, .ref q39, .ref q47, .null, .null, .null, .null, .null, .null, .int 0, .int 0])), (q7, .inl (cI g, 10, .inl (fun _ => 0))), (q15, .inl (cI g, 10, .inl (fun _ => 0))), (q23, .inl (cI g, 10, .inl (fun _ => 0))), (q31, .inl (cI g, 10, .inl (fun _ => 0))), (q39, .inl (cI g, 10, .inl (fun _ => 0))), (q47, .inl (cI g, 10, .inl (fun _ => 0))), (q55, .inl (cI g, 10, .inl (fun _ => 0)))] A s.heap H _ := hW
  refine W.widen (k := 7) (n := 70) (Nat.le_of_ble_eq_true rfl) (Nat.le_of_ble_eq_true rfl) ?_
  refine ka_putF (g := g) (ws' := [(h0, .inr (8, [.ref q7, .ref q15, .ref q23, .ref q31, .ref q39, .ref q47, .ref q55, .null, .null, .null, .null, .null, .int 0, .int 0])), (q7, .inl (cI g, 10, .inl (fun _ => 0))), (q15, .inl (cI g, 10, .inl (fun _ => 0))), (q23, .inl (cI g, 10, .inl (fun _ => 0))), (q31, .inl (cI g, 10, .inl (fun _ => 0))), (q39, .inl (cI g, 10, .inl (fun _ => 0))), (q47, .inl (cI g, 10, .inl (fun _ => 0))), (q55, .inl (cI g, 10, .inl (fun _ => 0)))]) hC hW hnm (q0 := 0) rfl (C := RX8) (T := TX8) (N := 14) rfl inX8 tyX8 tyX8_ok nmX8 6 (by decide) tw_159 (by decide) rfl rfl rfl (Nat.le_of_ble_eq_true rfl) rfl dX8_init_57 (fun H locs hW => ?_)
  refine lv_aload_n hx hb dX8_init_60 rfl (lv_at hl 0 rfl) ?_
  refine lv_bipush (v := 10) hx hb dX8_init_61 (by decide) ?_
  refine ka_newI (N := 10) hC hW (by decide) (by decide) (by decide) (Nat.le_of_ble_eq_true rfl) (Nat.le_of_ble_eq_true rfl) dX8_init_63 (fun q63 H hW => ?_)
  replace hW : wA g [(h0, .inr (8, [.ref q7, .ref q15, .ref q23, .ref q31, .ref q39, .ref q47, .ref q55, .null, .null, .null, .null, .null, .int 0, .int 0])), (q7, .inl (cI g, 10, .inl (fun _ => 0))), (q15, .inl (cI g, 10, .inl (fun _ => 0))), (q23, .inl (cI g, 10, .inl (fun _ => 0))), (q31, .inl (cI g, 10, .inl (fun _ => 0))), (q39, .inl (cI g, 10, .inl (fun _ => 0))), (q47, .inl (cI g, 10, .inl (fun _ => 0))), (q55, .inl (cI g, 10, .inl (fun _ => 0))), (q63, .inl (cI g, 10, .inl (fun _ => 0)))] A s.heap H _ := hW
  refine W.widen (k := 8) (n := 80) (Nat.le_of_ble_eq_true rfl) (Nat.le_of_ble_eq_true rfl) ?_
  refine ka_putF (g := g) (ws' := [(h0, .inr (8, [.ref q7, .ref q15, .ref q23, .ref q31, .ref q39, .ref q47, .ref q55, .ref q63, .null, .null, .null, .null, .int 0, .int 0])), (q7, .inl (cI g, 10, .inl (fun _ => 0))), (q15, .inl (cI g, 10, .inl (fun _ => 0))), (q23, .inl (cI g, 10, .inl (fun _ => 0))), (q31, .inl (cI g, 10, .inl (fun _ => 0))), (q39, .inl (cI g, 10, .inl (fun _ => 0))), (q47, .inl (cI g, 10, .inl (fun _ => 0))), (q55, .inl (cI g, 10, .inl (fun _ => 0))), (q63, .inl (cI g, 10, .inl (fun _ => 0)))]) hC hW hnm (q0 := 0) rfl (C := RX8) (T := TX8) (N := 14) rfl inX8 tyX8 tyX8_ok nmX8 7 (by decide) tw_161 (by decide) rfl rfl rfl (Nat.le_of_ble_eq_true rfl) rfl dX8_init_65 (fun H locs hW => ?_)
  refine lv_aload_n hx hb dX8_init_68 rfl (lv_at hl 0 rfl) ?_
  refine lv_bipush (v := 10) hx hb dX8_init_69 (by decide) ?_
  refine ka_newI (N := 10) hC hW (by decide) (by decide) (by decide) (Nat.le_of_ble_eq_true rfl) (Nat.le_of_ble_eq_true rfl) dX8_init_71 (fun q71 H hW => ?_)
  replace hW : wA g [(h0, .inr (8, [.ref q7, .ref q15, .ref q23, .ref q31, .ref q39, .ref q47, .ref q55, .ref q63, .null, .null, .null, .null, .int 0, .int 0])), (q7, .inl (cI g, 10, .inl (fun _ => 0))), (q15, .inl (cI g, 10, .inl (fun _ => 0))), (q23, .inl (cI g, 10, .inl (fun _ => 0))), (q31, .inl (cI g, 10, .inl (fun _ => 0))), (q39, .inl (cI g, 10, .inl (fun _ => 0))), (q47, .inl (cI g, 10, .inl (fun _ => 0))), (q55, .inl (cI g, 10, .inl (fun _ => 0))), (q63, .inl (cI g, 10, .inl (fun _ => 0))), (q71, .inl (cI g, 10, .inl (fun _ => 0)))] A s.heap H _ := hW
  refine W.widen (k := 9) (n := 90) (Nat.le_of_ble_eq_true rfl) (Nat.le_of_ble_eq_true rfl) ?_
  refine ka_putF (g := g) (ws' := [(h0, .inr (8, [.ref q7, .ref q15, .ref q23, .ref q31, .ref q39, .ref q47, .ref q55, .ref q63, .ref q71, .null, .null, .null, .int 0, .int 0])), (q7, .inl (cI g, 10, .inl (fun _ => 0))), (q15, .inl (cI g, 10, .inl (fun _ => 0))), (q23, .inl (cI g, 10, .inl (fun _ => 0))), (q31, .inl (cI g, 10, .inl (fun _ => 0))), (q39, .inl (cI g, 10, .inl (fun _ => 0))), (q47, .inl (cI g, 10, .inl (fun _ => 0))), (q55, .inl (cI g, 10, .inl (fun _ => 0))), (q63, .inl (cI g, 10, .inl (fun _ => 0))), (q71, .inl (cI g, 10, .inl (fun _ => 0)))]) hC hW hnm (q0 := 0) rfl (C := RX8) (T := TX8) (N := 14) rfl inX8 tyX8 tyX8_ok nmX8 8 (by decide) tw_164 (by decide) rfl rfl rfl (Nat.le_of_ble_eq_true rfl) rfl dX8_init_73 (fun H locs hW => ?_)
  refine lv_aload_n hx hb dX8_init_76 rfl (lv_at hl 0 rfl) ?_
  refine lv_bipush (v := 42) hx hb dX8_init_77 (by decide) ?_
  refine ka_newI (N := 42) hC hW (by decide) (by decide) (by decide) (Nat.le_of_ble_eq_true rfl) (Nat.le_of_ble_eq_true rfl) dX8_init_79 (fun q79 H hW => ?_)
  replace hW : wA g [(h0, .inr (8, [.ref q7, .ref q15, .ref q23, .ref q31, .ref q39, .ref q47, .ref q55, .ref q63, .ref q71, .null, .null, .null, .int 0, .int 0])), (q7, .inl (cI g, 10, .inl (fun _ => 0))), (q15, .inl (cI g, 10, .inl (fun _ => 0))), (q23, .inl (cI g, 10, .inl (fun _ => 0))), (q31, .inl (cI g, 10, .inl (fun _ => 0))), (q39, .inl (cI g, 10, .inl (fun _ => 0))), (q47, .inl (cI g, 10, .inl (fun _ => 0))), (q55, .inl (cI g, 10, .inl (fun _ => 0))), (q63, .inl (cI g, 10, .inl (fun _ => 0))), (q71, .inl (cI g, 10, .inl (fun _ => 0))), (q79, .inl (cI g, 42, .inl (fun _ => 0)))] A s.heap H _ := hW
  refine W.widen (k := 10) (n := 132) (Nat.le_of_ble_eq_true rfl) (Nat.le_of_ble_eq_true rfl) ?_
  refine ka_putF (g := g) (ws' := [(h0, .inr (8, [.ref q7, .ref q15, .ref q23, .ref q31, .ref q39, .ref q47, .ref q55, .ref q63, .ref q71, .ref q79, .null, .null, .int 0, .int 0])), (q7, .inl (cI g, 10, .inl (fun _ => 0))), (q15, .inl (cI g, 10, .inl (fun _ => 0))), (q23, .inl (cI g, 10, .inl (fun _ => 0))), (q31, .inl (cI g, 10, .inl (fun _ => 0))), (q39, .inl (cI g, 10, .inl (fun _ => 0))), (q47, .inl (cI g, 10, .inl (fun _ => 0))), (q55, .inl (cI g, 10, .inl (fun _ => 0))), (q63, .inl (cI g, 10, .inl (fun _ => 0))), (q71, .inl (cI g, 10, .inl (fun _ => 0))), (q79, .inl (cI g, 42, .inl (fun _ => 0)))]) hC hW hnm (q0 := 0) rfl (C := RX8) (T := TX8) (N := 14) rfl inX8 tyX8 tyX8_ok nmX8 9 (by decide) tw_166 (by decide) rfl rfl rfl (Nat.le_of_ble_eq_true rfl) rfl dX8_init_81 (fun H locs hW => ?_)
  refine lv_aload_n hx hb dX8_init_84 rfl (lv_at hl 0 rfl) ?_
  refine lv_sipush (v := 600) hx hb dX8_init_85 (by decide) ?_
  refine ka_newI (N := 600) hC hW (by decide) (by decide) (by decide) (Nat.le_of_ble_eq_true rfl) (Nat.le_of_ble_eq_true rfl) dX8_init_88 (fun q88 H hW => ?_)
  replace hW : wA g [(h0, .inr (8, [.ref q7, .ref q15, .ref q23, .ref q31, .ref q39, .ref q47, .ref q55, .ref q63, .ref q71, .ref q79, .null, .null, .int 0, .int 0])), (q7, .inl (cI g, 10, .inl (fun _ => 0))), (q15, .inl (cI g, 10, .inl (fun _ => 0))), (q23, .inl (cI g, 10, .inl (fun _ => 0))), (q31, .inl (cI g, 10, .inl (fun _ => 0))), (q39, .inl (cI g, 10, .inl (fun _ => 0))), (q47, .inl (cI g, 10, .inl (fun _ => 0))), (q55, .inl (cI g, 10, .inl (fun _ => 0))), (q63, .inl (cI g, 10, .inl (fun _ => 0))), (q71, .inl (cI g, 10, .inl (fun _ => 0))), (q79, .inl (cI g, 42, .inl (fun _ => 0))), (q88, .inl (cI g, 600, .inl (fun _ => 0)))] A s.heap H _ := hW
  refine W.widen (k := 11) (n := 732) (Nat.le_of_ble_eq_true rfl) (Nat.le_of_ble_eq_true rfl) ?_
  refine ka_putF (g := g) (ws' := [(h0, .inr (8, [.ref q7, .ref q15, .ref q23, .ref q31, .ref q39, .ref q47, .ref q55, .ref q63, .ref q71, .ref q79, .ref q88, .null, .int 0, .int 0])), (q7, .inl (cI g, 10, .inl (fun _ => 0))), (q15, .inl (cI g, 10, .inl (fun _ => 0))), (q23, .inl (cI g, 10, .inl (fun _ => 0))), (q31, .inl (cI g, 10, .inl (fun _ => 0))), (q39, .inl (cI g, 10, .inl (fun _ => 0))), (q47, .inl (cI g, 10, .inl (fun _ => 0))), (q55, .inl (cI g, 10, .inl (fun _ => 0))), (q63, .inl (cI g, 10, .inl (fun _ => 0))), (q71, .inl (cI g, 10, .inl (fun _ => 0))), (q79, .inl (cI g, 42, .inl (fun _ => 0))), (q88, .inl (cI g, 600, .inl (fun _ => 0)))]) hC hW hnm (q0 := 0) rfl (C := RX8) (T := TX8) (N := 14) rfl inX8 tyX8 tyX8_ok nmX8 10 (by decide) tw_167 (by decide) rfl rfl rfl (Nat.le_of_ble_eq_true rfl) rfl dX8_init_90 (fun H locs hW => ?_)
  refine lv_aload_n hx hb dX8_init_93 rfl (lv_at hl 0 rfl) ?_
  refine lv_sipush (v := 600) hx hb dX8_init_94 (by decide) ?_
  refine ka_newI (N := 600) hC hW (by decide) (by decide) (by decide) (Nat.le_of_ble_eq_true rfl) (Nat.le_of_ble_eq_true rfl) dX8_init_97 (fun q97 H hW => ?_)
  replace hW : wA g [(h0, .inr (8, [.ref q7, .ref q15, .ref q23, .ref q31, .ref q39, .ref q47, .ref q55, .ref q63, .ref q71, .ref q79, .ref q88, .null, .int 0, .int 0])), (q7, .inl (cI g, 10, .inl (fun _ => 0))), (q15, .inl (cI g, 10, .inl (fun _ => 0))), (q23, .inl (cI g, 10, .inl (fun _ => 0))), (q31, .inl (cI g, 10, .inl (fun _ => 0))), (q39, .inl (cI g, 10, .inl (fun _ => 0))), (q47, .inl (cI g, 10, .inl (fun _ => 0))), (q55, .inl (cI g, 10, .inl (fun _ => 0))), (q63, .inl (cI g, 10, .inl (fun _ => 0))), (q71, .inl (cI g, 10, .inl (fun _ => 0))), (q79, .inl (cI g, 42, .inl (fun _ => 0))), (q88, .inl (cI g, 600, .inl (fun _ => 0))), (q97, .inl (cI g, 600, .inl (fun _ => 0)))] A s.heap H _ := hW
  refine W.widen (k := 12) (n := 1332) (Nat.le_of_ble_eq_true rfl) (Nat.le_of_ble_eq_true rfl) ?_
  refine ka_putF (g := g) (ws' := [(h0, .inr (8, [.ref q7, .ref q15, .ref q23, .ref q31, .ref q39, .ref q47, .ref q55, .ref q63, .ref q71, .ref q79, .ref q88, .ref q97, .int 0, .int 0])), (q7, .inl (cI g, 10, .inl (fun _ => 0))), (q15, .inl (cI g, 10, .inl (fun _ => 0))), (q23, .inl (cI g, 10, .inl (fun _ => 0))), (q31, .inl (cI g, 10, .inl (fun _ => 0))), (q39, .inl (cI g, 10, .inl (fun _ => 0))), (q47, .inl (cI g, 10, .inl (fun _ => 0))), (q55, .inl (cI g, 10, .inl (fun _ => 0))), (q63, .inl (cI g, 10, .inl (fun _ => 0))), (q71, .inl (cI g, 10, .inl (fun _ => 0))), (q79, .inl (cI g, 42, .inl (fun _ => 0))), (q88, .inl (cI g, 600, .inl (fun _ => 0))), (q97, .inl (cI g, 600, .inl (fun _ => 0)))]) hC hW hnm (q0 := 0) rfl (C := RX8) (T := TX8) (N := 14) rfl inX8 tyX8 tyX8_ok nmX8 11 (by decide) tw_168 (by decide) rfl rfl rfl (Nat.le_of_ble_eq_true rfl) rfl dX8_init_99 (fun H locs hW => ?_)
  exact ka_ret (g := g) hC hr hlocks hW ((fun k => ([q7, q15, q23, q31, q39, q47, q55, q63, q71, q79, q88, q97] : List Nat).getD k 0, fun k => fun _ => 0) : (Nat → Nat) × Mm) (by first | exact trivial | exact trivial) [0, 1, 2, 3, 4, 5, 6, 7, 8, 9, 10, 11, 12] (by decide) rfl rfl (Nat.le_of_ble_eq_true rfl) (Nat.le_of_ble_eq_true rfl) dX8_init_102
set_option maxHeartbeats 4000000 in
set_option maxRecDepth 100000 in
theorem tc_X0 {l : Launch} {g : Gx} (h0 : Nat) : Ctc l g yX0_init cX0_init 1 1 4 800 [.ref h0] [(h0, .inr (0, [.null, .null, .null, .null, .int 0, .int 0]))] (fun z : (Nat → Nat) × Mm => True) (fun z => [(h0, .inr (0, [.ref (z.1 0), .ref (z.1 1), .ref (z.1 2), .ref (z.1 3), .int 0, .int 0])), ((z.1 0), .inl (cI g, 200, .inl (fun _ => 0))), ((z.1 1), .inl (cI g, 200, .inl (fun _ => 0))), ((z.1 2), .inl (cI g, 200, .inl (fun _ => 0))), ((z.1 3), .inl (cI g, 200, .inl (fun _ => 0)))]) := by
  intro A
  refine ent (lv := [(0, .ref h0)]) (by decide) (Nat.le_of_ble_eq_true rfl) rfl ?_
  intro p e s m args below meth c hC hr hlocks hnm hW ls hl
  replace hC : Cx g RX0 cX0_init 1 p s m args c := hC
  obtain ⟨hx, hb, hml, hown, hts, hK, hN⟩ := id hC
  replace hW : wA g [(h0, .inr (0, [.null, .null, .null, .null, .int 0, .int 0]))] A s.heap s.heap [] := hW
  refine lv_aload_n hx hb dX0_init_0 rfl (lv_at hl 0 rfl) ?_
  refine ka_obj (g := g) hC hl.1 tw_239 tw_23 dX0_init_1 (by decide) (Nat.le_of_ble_eq_true rfl) ?_
  refine W.eq (g2 := F0 m 4 ls []) rfl ?_
  refine lv_aload_n hx hb dX0_init_4 rfl (lv_at hl 0 rfl) ?_
  refine lv_sipush (v := 200) hx hb dX0_init_5 (by decide) ?_
  refine ka_newI (N := 200) hC hW (by decide) (by decide) (by decide) (Nat.le_of_ble_eq_true rfl) (Nat.le_of_ble_eq_true rfl) dX0_init_8 (fun q8 H hW => ?_)
  replace hW : wA g [(h0, .inr (0, [.null, .null, .null, .null, .int 0, .int 0])), (q8, .inl (cI g, 200, .inl (fun _ => 0)))] A s.heap H _ := hW
  refine W.widen (k := 1) (n := 200) (Nat.le_of_ble_eq_true rfl) (Nat.le_of_ble_eq_true rfl) ?_
  refine ka_putF (g := g) (ws' := [(h0, .inr (0, [.ref q8, .null, .null, .null, .int 0, .int 0])), (q8, .inl (cI g, 200, .inl (fun _ => 0)))]) hC hW hnm (q0 := 0) rfl (C := RX0) (T := TX0) (N := 6) rfl inX0 tyX0 tyX0_ok nmX0 0 (by decide) tw_240 (by decide) rfl rfl rfl (Nat.le_of_ble_eq_true rfl) rfl dX0_init_10 (fun H locs hW => ?_)
  refine lv_aload_n hx hb dX0_init_13 rfl (lv_at hl 0 rfl) ?_
  refine lv_sipush (v := 200) hx hb dX0_init_14 (by decide) ?_
  refine ka_newI (N := 200) hC hW (by decide) (by decide) (by decide) (Nat.le_of_ble_eq_true rfl) (Nat.le_of_ble_eq_true rfl) dX0_init_17 (fun q17 H hW => ?_)
  replace hW : wA g [(h0, .inr (0, [.ref q8, .null, .null, .null, .int 0, .int 0])), (q8, .inl (cI g, 200, .inl (fun _ => 0))), (q17, .inl (cI g, 200, .inl (fun _ => 0)))] A s.heap H _ := hW
  refine W.widen (k := 2) (n := 400) (Nat.le_of_ble_eq_true rfl) (Nat.le_of_ble_eq_true rfl) ?_
  refine ka_putF (g := g) (ws' := [(h0, .inr (0, [.ref q8, .ref q17, .null, .null, .int 0, .int 0])), (q8, .inl (cI g, 200, .inl (fun _ => 0))), (q17, .inl (cI g, 200, .inl (fun _ => 0)))]) hC hW hnm (q0 := 0) rfl (C := RX0) (T := TX0) (N := 6) rfl inX0 tyX0 tyX0_ok nmX0 1 (by decide) tw_241 (by decide) rfl rfl rfl (Nat.le_of_ble_eq_true rfl) rfl dX0_init_19 (fun H locs hW => ?_)
  refine lv_aload_n hx hb dX0_init_22 rfl (lv_at hl 0 rfl) ?_
  refine lv_sipush (v := 200) hx hb dX0_init_23 (by decide) ?_
  refine ka_newI (N := 200) hC hW (by decide) (by decide) (by decide) (Nat.le_of_ble_eq_true rfl) (Nat.le_of_ble_eq_true rfl) dX0_init_26 (fun q26 H hW => ?_)
  replace hW : wA g [(h0, .inr (0, [.ref q8, .ref q17, .null, .null, .int 0, .int 0])), (q8, .inl (cI g, 200, .inl (fun _ => 0))), (q17, .inl (cI g, 200, .inl (fun _ => 0))), (q26, .inl (cI g, 200, .inl (fun _ => 0)))] A s.heap H _ := hW
  refine W.widen (k := 3) (n := 600) (Nat.le_of_ble_eq_true rfl) (Nat.le_of_ble_eq_true rfl) ?_
  refine ka_putF (g := g) (ws' := [(h0, .inr (0, [.ref q8, .ref q17, .ref q26, .null, .int 0, .int 0])), (q8, .inl (cI g, 200, .inl (fun _ => 0))), (q17, .inl (cI g, 200, .inl (fun _ => 0))), (q26, .inl (cI g, 200, .inl (fun _ => 0)))]) hC hW hnm (q0 := 0) rfl (C := RX0) (T := TX0) (N := 6) rfl inX0 tyX0 tyX0_ok nmX0 2 (by decide) tw_242 (by decide) rfl rfl rfl (Nat.le_of_ble_eq_true rfl) rfl dX0_init_28 (fun H locs hW => ?_)
  refine lv_aload_n hx hb dX0_init_31 rfl (lv_at hl 0 rfl) ?_
  refine lv_sipush (v := 200) hx hb dX0_init_32 (by decide) ?_
  refine ka_newI (N := 200) hC hW (by decide) (by decide) (by decide) (Nat.le_of_ble_eq_true rfl) (Nat.le_of_ble_eq_true rfl) dX0_init_35 (fun q35 H hW => ?_)
  replace hW : wA g [(h0, .inr (0, [.ref q8, .ref q17, .ref q26, .null, .int 0, .int 0])), (q8, .inl (cI g, 200, .inl (fun _ => 0))), (q17, .inl (cI g, 200, .inl (fun _ => 0))), (q26, .inl (cI g, 200, .inl (fun _ => 0))), (q35, .inl (cI g, 200, .inl (fun _ => 0)))] A s.heap H _ := hW
  refine W.widen (k := 4) (n := 800) (Nat.le_of_ble_eq_true rfl) (Nat.le_of_ble_eq_true rfl) ?_
  refine ka_putF (g := g) (ws' := [(h0, .inr (0, [.ref q8, .ref q17, .ref q26, .ref q35, .int 0, .int 0])), (q8, .inl (cI g, 200, .inl (fun _ => 0))), (q17, .inl (cI g, 200, .inl (fun _ => 0))), (q26, .inl (cI g, 200, .inl (fun _ => 0))), (q35, .inl (cI g, 200, .inl (fun _ => 0)))]) hC hW hnm (q0 := 0) rfl (C := RX0) (T := TX0) (N := 6) rfl inX0 tyX0 tyX0_ok nmX0 3 (by decide) tw_243 (by decide) rfl rfl rfl (Nat.le_of_ble_eq_true rfl) rfl dX0_init_37 (fun H locs hW => ?_)
  exact ka_ret (g := g) hC hr hlocks hW ((fun k => ([q8, q17, q26, q35] : List Nat).getD k 0, fun k => fun _ => 0) : (Nat → Nat) × Mm) (by first | exact trivial | exact trivial) [0, 1, 2, 3, 4] (by decide) rfl rfl (Nat.le_of_ble_eq_true rfl) (Nat.le_of_ble_eq_true rfl) dX0_init_40
set_option maxHeartbeats 4000000 in
set_option maxRecDepth 100000 in
theorem tc_X7 {l : Launch} {g : Gx} (h0 : Nat) : Ctc l g yX7_init cX7_init 1 1 7 4192 [.ref h0] [(h0, .inr (7, [.null, .null, .null, .null, .null, .null, .null, .int 0, .int 0, .int 0, .int 0, .int 0, .int 0, .int 0, .int 0]))] (fun z : (Nat → Nat) × Mm => True) (fun z => [(h0, .inr (7, [.ref (z.1 0), .ref (z.1 1), .ref (z.1 2), .ref (z.1 3), .ref (z.1 4), .ref (z.1 5), .ref (z.1 6), .int 0, .int 0, .int 0, .int 0, .int 0, .int 0, .int 0, .int 0])), ((z.1 0), .inl (cI g, 12, .inl (fun _ => 0))), ((z.1 1), .inl (cI g, 12, .inl (fun _ => 0))), ((z.1 2), .inl (cI g, 12, .inl (fun _ => 0))), ((z.1 3), .inl (cI g, 12, .inl (fun _ => 0))), ((z.1 4), .inl (cI g, 4096, .inl (fun _ => 0))), ((z.1 5), .inl (cI g, 16, .inl (fun _ => 0))), ((z.1 6), .inl (cI g, 32, .inl (fun _ => 0)))]) := by
  intro A
  refine ent (lv := [(0, .ref h0)]) (by decide) (Nat.le_of_ble_eq_true rfl) rfl ?_
  intro p e s m args below meth c hC hr hlocks hnm hW ls hl
  replace hC : Cx g RX7 cX7_init 1 p s m args c := hC
  obtain ⟨hx, hb, hml, hown, hts, hK, hN⟩ := id hC
  replace hW : wA g [(h0, .inr (7, [.null, .null, .null, .null, .null, .null, .null, .int 0, .int 0, .int 0, .int 0, .int 0, .int 0, .int 0, .int 0]))] A s.heap s.heap [] := hW
  refine lv_aload_n hx hb dX7_init_0 rfl (lv_at hl 0 rfl) ?_
  refine ka_obj (g := g) hC hl.1 tw_362 tw_23 dX7_init_1 (by decide) (Nat.le_of_ble_eq_true rfl) ?_
  refine W.eq (g2 := F0 m 4 ls []) rfl ?_
  refine lv_aload_n hx hb dX7_init_4 rfl (lv_at hl 0 rfl) ?_
  refine lv_bipush (v := 12) hx hb dX7_init_5 (by decide) ?_
  refine ka_newI (N := 12) hC hW (by decide) (by decide) (by decide) (Nat.le_of_ble_eq_true rfl) (Nat.le_of_ble_eq_true rfl) dX7_init_7 (fun q7 H hW => ?_)
  replace hW : wA g [(h0, .inr (7, [.null, .null, .null, .null, .null, .null, .null, .int 0, .int 0, .int 0, .int 0, .int 0, .int 0, .int 0, .int 0])), (q7, .inl (cI g, 12, .inl (fun _ => 0)))] A s.heap H _ := hW
  refine W.widen (k := 1) (n := 12) (Nat.le_of_ble_eq_true rfl) (Nat.le_of_ble_eq_true rfl) ?_
  refine ka_putF (g := g) (ws' := [(h0, .inr (7, [.ref q7, .null, .null, .null, .null, .null, .null, .int 0, .int 0, .int 0, .int 0, .int 0, .int 0, .int 0, .int 0])), (q7, .inl (cI g, 12, .inl (fun _ => 0)))]) hC hW hnm (q0 := 0) rfl (C := RX7) (T := TX7) (N := 15) rfl inX7 tyX7 tyX7_ok nmX7 0 (by decide) tw_363 (by decide) rfl rfl rfl (Nat.le_of_ble_eq_true rfl) rfl dX7_init_9 (fun H locs hW => ?_)
  refine lv_aload_n hx hb dX7_init_12 rfl (lv_at hl 0 rfl) ?_
  refine lv_bipush (v := 12) hx hb dX7_init_13 (by decide) ?_
  refine ka_newI (N := 12) hC hW (by decide) (by decide) (by decide) (Nat.le_of_ble_eq_true rfl) (Nat.le_of_ble_eq_true rfl) dX7_init_15 (fun q15 H hW => ?_)
  replace hW : wA g [(h0, .inr (7, [.ref q7, .null, .null, .null, .null, .null, .null, .int 0, .int 0, .int 0, .int 0, .int 0, .int 0, .int 0, .int 0])), (q7, .inl (cI g, 12, .inl (fun _ => 0))), (q15, .inl (cI g, 12, .inl (fun _ => 0)))] A s.heap H _ := hW
  refine W.widen (k := 2) (n := 24) (Nat.le_of_ble_eq_true rfl) (Nat.le_of_ble_eq_true rfl) ?_
  refine ka_putF (g := g) (ws' := [(h0, .inr (7, [.ref q7, .ref q15, .null, .null, .null, .null, .null, .int 0, .int 0, .int 0, .int 0, .int 0, .int 0, .int 0, .int 0])), (q7, .inl (cI g, 12, .inl (fun _ => 0))), (q15, .inl (cI g, 12, .inl (fun _ => 0)))]) hC hW hnm (q0 := 0) rfl (C := RX7) (T := TX7) (N := 15) rfl inX7 tyX7 tyX7_ok nmX7 1 (by decide) tw_364 (by decide) rfl rfl rfl (Nat.le_of_ble_eq_true rfl) rfl dX7_init_17 (fun H locs hW => ?_)
  refine lv_aload_n hx hb dX7_init_20 rfl (lv_at hl 0 rfl) ?_
  refine lv_bipush (v := 12) hx hb dX7_init_21 (by decide) ?_
  refine ka_newI (N := 12) hC hW (by decide) (by decide) (by decide) (Nat.le_of_ble_eq_true rfl) (Nat.le_of_ble_eq_true rfl) dX7_init_23 (fun q23 H hW => ?_)
  replace hW : wA g [(h0, .inr (7, [.ref q7, .ref q15, .null, .null, .null, .null, .null, .int 0, .int 0, .int 0, .int 0, .int 0, .int 0, .int 0, .int 0])), (q7, .inl (cI g, 12, .inl (fun _ => 0))), (q15, .inl (cI g, 12, .inl (fun _ => 0))), (q23, .inl (cI g, 12, .inl (fun _ => 0)))] A s.heap H _ := hW
  refine W.widen (k := 3) (n := 36) (Nat.le_of_ble_eq_true rfl) (Nat.le_of_ble_eq_true rfl) ?_
  refine ka_putF (g := g) (ws' := [(h0, .inr (7, [.ref q7, .ref q15, .ref q23, .null, .null, .null, .null, .int 0, .int 0, .int 0, .int 0, .int 0, .int 0, .int 0, .int 0])), (q7, .inl (cI g, 12, .inl (fun _ => 0))), (q15, .inl (cI g, 12, .inl (fun _ => 0))), (q23, .inl (cI g, 12, .inl (fun _ => 0)))]) hC hW hnm (q0 := 0) rfl (C := RX7) (T := TX7) (N := 15) rfl inX7 tyX7 tyX7_ok nmX7 2 (by decide) tw_365 (by decide) rfl rfl rfl (Nat.le_of_ble_eq_true rfl) rfl dX7_init_25 (fun H locs hW => ?_)
  refine lv_aload_n hx hb dX7_init_28 rfl (lv_at hl 0 rfl) ?_
  refine lv_bipush (v := 12) hx hb dX7_init_29 (by decide) ?_
  refine ka_newI (N := 12) hC hW (by decide) (by decide) (by decide) (Nat.le_of_ble_eq_true rfl) (Nat.le_of_ble_eq_true rfl) dX7_init_31 (fun q31 H hW => ?_)
  replace hW : wA g [(h0, .inr (7, [.ref q7, .ref q15, .ref q23, .null, .null, .null, .null, .int 0, .int 0, .int 0, .int 0, .int 0, .int 0, .int 0, .int 0])), (q7, .inl (cI g, 12, .inl (fun _ => 0))), (q15, .inl (cI g, 12, .inl (fun _ => 0))), (q23, .inl (cI g, 12, .inl (fun _ => 0))), (q31, .inl (cI g, 12, .inl (fun _ => 0)))] A s.heap H _ := hW
  refine W.widen (k := 4) (n := 48) (Nat.le_of_ble_eq_true rfl) (Nat.le_of_ble_eq_true rfl) ?_
  refine ka_putF (g := g) (ws' := [(h0, .inr (7, [.ref q7, .ref q15, .ref q23, .ref q31, .null, .null, .null, .int 0, .int 0, .int 0, .int 0, .int 0, .int 0, .int 0, .int 0])), (q7, .inl (cI g, 12, .inl (fun _ => 0))), (q15, .inl (cI g, 12, .inl (fun _ => 0))), (q23, .inl (cI g, 12, .inl (fun _ => 0))), (q31, .inl (cI g, 12, .inl (fun _ => 0)))]) hC hW hnm (q0 := 0) rfl (C := RX7) (T := TX7) (N := 15) rfl inX7 tyX7 tyX7_ok nmX7 3 (by decide) tw_366 (by decide) rfl rfl rfl (Nat.le_of_ble_eq_true rfl) rfl dX7_init_33 (fun H locs hW => ?_)
  refine lv_aload_n hx hb dX7_init_36 rfl (lv_at hl 0 rfl) ?_
  refine lv_sipush (v := 4096) hx hb dX7_init_37 (by decide) ?_
  refine ka_newI (N := 4096) hC hW (by decide) (by decide) (by decide) (Nat.le_of_ble_eq_true rfl) (Nat.le_of_ble_eq_true rfl) dX7_init_40 (fun q40 H hW => ?_)
  replace hW : wA g [(h0, .inr (7, [.ref q7, .ref q15, .ref q23, .ref q31, .null, .null, .null, .int 0, .int 0, .int 0, .int 0, .int 0, .int 0, .int 0, .int 0])), (q7, .inl (cI g, 12, .inl (fun _ => 0))), (q15, .inl (cI g, 12, .inl (fun _ => 0))), (q23, .inl (cI g, 12, .inl (fun _ => 0))), (q31, .inl (cI g, 12, .inl (fun _ => 0))), (q40, .inl (cI g, 4096, .inl (fun _ => 0)))] A s.heap H _ := hW
  refine W.widen (k := 5) (n := 4144) (Nat.le_of_ble_eq_true rfl) (Nat.le_of_ble_eq_true rfl) ?_
  refine ka_putF (g := g) (ws' := [(h0, .inr (7, [.ref q7, .ref q15, .ref q23, .ref q31, .ref q40, .null, .null, .int 0, .int 0, .int 0, .int 0, .int 0, .int 0, .int 0, .int 0])), (q7, .inl (cI g, 12, .inl (fun _ => 0))), (q15, .inl (cI g, 12, .inl (fun _ => 0))), (q23, .inl (cI g, 12, .inl (fun _ => 0))), (q31, .inl (cI g, 12, .inl (fun _ => 0))), (q40, .inl (cI g, 4096, .inl (fun _ => 0)))]) hC hW hnm (q0 := 0) rfl (C := RX7) (T := TX7) (N := 15) rfl inX7 tyX7 tyX7_ok nmX7 4 (by decide) tw_367 (by decide) rfl rfl rfl (Nat.le_of_ble_eq_true rfl) rfl dX7_init_42 (fun H locs hW => ?_)
  refine lv_aload_n hx hb dX7_init_45 rfl (lv_at hl 0 rfl) ?_
  refine lv_bipush (v := 16) hx hb dX7_init_46 (by decide) ?_
  refine ka_newI (N := 16) hC hW (by decide) (by decide) (by decide) (Nat.le_of_ble_eq_true rfl) (Nat.le_of_ble_eq_true rfl) dX7_init_48 (fun q48 H hW => ?_)
  replace hW : wA g [(h0, .inr (7, [.ref q7, .ref q15, .ref q23, .ref q31, .ref q40, .null, .null, .int 0, .int 0, .int 0, .int 0, .int 0, .int 0, .int 0, .int 0])), (q7, .inl (cI g, 12, .inl (fun _ => 0))), (q15, .inl (cI g, 12, .inl (fun _ => 0))), (q23, .inl (cI g, 12, .inl (fun _ => 0))), (q31, .inl (cI g, 12, .inl (fun _ => 0))), (q40, .inl (cI g, 4096, .inl (fun _ => 0))), (q48, .inl (cI g, 16, .inl (fun _ => 0)))] A s.heap H _ := hW
  refine W.widen (k := 6) (n := 4160) (Nat.le_of_ble_eq_true rfl) (Nat.le_of_ble_eq_true rfl) ?_
  refine ka_putF (g := g) (ws' := [(h0, .inr (7, [.ref q7, .ref q15, .ref q23, .ref q31, .ref q40, .ref q48, .null, .int 0, .int 0, .int 0, .int 0, .int 0, .int 0, .int 0, .int 0])), (q7, .inl (cI g, 12, .inl (fun _ => 0))), (q15, .inl (cI g, 12, .inl (fun _ => 0))), (q23, .inl (cI g, 12, .inl (fun _ => 0))), (q31, .inl (cI g, 12, .inl (fun _ => 0))), (q40, .inl (cI g, 4096, .inl (fun _ => 0))), (q48, .inl (cI g, 16, .inl (fun _ => 0)))]) hC hW hnm (q0 := 0) rfl (C := RX7) (T := TX7) (N := 15) rfl inX7 tyX7 tyX7_ok nmX7 5 (by decide) tw_368 (by decide) rfl rfl rfl (Nat.le_of_ble_eq_true rfl) rfl dX7_init_50 (fun H locs hW => ?_)
  refine lv_aload_n hx hb dX7_init_53 rfl (lv_at hl 0 rfl) ?_
  refine lv_bipush (v := 32) hx hb dX7_init_54 (by decide) ?_
  refine ka_newI (N := 32) hC hW (by decide) (by decide) (by decide) (Nat.le_of_ble_eq_true rfl) (Nat.le_of_ble_eq_true rfl) dX7_init_56 (fun q56 H hW => ?_)
  replace hW : wA g [(h0, .inr (7, [.ref q7, .ref q15, .ref q23, .ref q31, .ref q40, .ref q48, .null, .int 0, .int 0, .int 0, .int 0, .int 0, .int 0, .int 0, .int 0])), (q7, .inl (cI g, 12, .inl (fun _ => 0))), (q15, .inl (cI g, 12, .inl (fun _ => 0))), (q23, .inl (cI g, 12, .inl (fun _ => 0))), (q31, .inl (cI g, 12, .inl (fun _ => 0))), (q40, .inl (cI g, 4096, .inl (fun _ => 0))), (q48, .inl (cI g, 16, .inl (fun _ => 0))), (q56, .inl (cI g, 32, .inl (fun _ => 0)))] A s.heap H _ := hW
  refine W.widen (k := 7) (n := 4192) (Nat.le_of_ble_eq_true rfl) (Nat.le_of_ble_eq_true rfl) ?_
  refine ka_putF (g := g) (ws' := [(h0, .inr (7, [.ref q7, .ref q15, .ref q23, .ref q31, .ref q40, .ref q48, .ref q56, .int 0, .int 0, .int 0, .int 0, .int 0, .int 0, .int 0, .int 0])), (q7, .inl (cI g, 12, .inl (fun _ => 0))), (q15, .inl (cI g, 12, .inl (fun _ => 0))), (q23, .inl (cI g, 12, .inl (fun _ => 0))), (q31, .inl (cI g, 12, .inl (fun _ => 0))), (q40, .inl (cI g, 4096, .inl (fun _ => 0))), (q48, .inl (cI g, 16, .inl (fun _ => 0))), (q56, .inl (cI g, 32, .inl (fun _ => 0)))]) hC hW hnm (q0 := 0) rfl (C := RX7) (T := TX7) (N := 15) rfl inX7 tyX7 tyX7_ok nmX7 6 (by decide) tw_370 (by decide) rfl rfl rfl (Nat.le_of_ble_eq_true rfl) rfl dX7_init_58 (fun H locs hW => ?_)
  exact ka_ret (g := g) hC hr hlocks hW ((fun k => ([q7, q15, q23, q31, q40, q48, q56] : List Nat).getD k 0, fun k => fun _ => 0) : (Nat → Nat) × Mm) (by first | exact trivial | exact trivial) [0, 1, 2, 3, 4, 5, 6, 7] (by decide) rfl rfl (Nat.le_of_ble_eq_true rfl) (Nat.le_of_ble_eq_true rfl) dX7_init_61
set_option maxHeartbeats 4000000 in
set_option maxRecDepth 100000 in
theorem tc_X3 {l : Launch} {g : Gx} (h0 : Nat) : Ctc l g yX3_init cX3_init 1 1 7 520 [.ref h0] [(h0, .inr (3, [.null, .null, .null, .null, .null, .null, .null, .int 0, .int 0, .int 0, .int 0]))] (fun z : (Nat → Nat) × Mm => True) (fun z => [(h0, .inr (3, [.ref (z.1 0), .ref (z.1 1), .ref (z.1 2), .ref (z.1 3), .ref (z.1 4), .ref (z.1 5), .ref (z.1 6), .int 0, .int 0, .int 0, .int 0])), ((z.1 0), .inl (cI g, 200, .inl (fun _ => 0))), ((z.1 1), .inl (cI g, 200, .inl (fun _ => 0))), ((z.1 2), .inl (cI g, 14, .inl (fun _ => 0))), ((z.1 3), .inl (cI g, 14, .inl (fun _ => 0))), ((z.1 4), .inl (cI g, 14, .inl (fun _ => 0))), ((z.1 5), .inl (cI g, 14, .inl (fun _ => 0))), ((z.1 6), .inl (cI g, 64, .inl (fun _ => 0)))]) := by
  intro A
  refine ent (lv := [(0, .ref h0)]) (by decide) (Nat.le_of_ble_eq_true rfl) rfl ?_
  intro p e s m args below meth c hC hr hlocks hnm hW ls hl
  replace hC : Cx g RX3 cX3_init 1 p s m args c := hC
  obtain ⟨hx, hb, hml, hown, hts, hK, hN⟩ := id hC
  replace hW : wA g [(h0, .inr (3, [.null, .null, .null, .null, .null, .null, .null, .int 0, .int 0, .int 0, .int 0]))] A s.heap s.heap [] := hW
  refine lv_aload_n hx hb dX3_init_0 rfl (lv_at hl 0 rfl) ?_
  refine ka_obj (g := g) hC hl.1 tw_272 tw_23 dX3_init_1 (by decide) (Nat.le_of_ble_eq_true rfl) ?_
  refine W.eq (g2 := F0 m 4 ls []) rfl ?_
  refine lv_aload_n hx hb dX3_init_4 rfl (lv_at hl 0 rfl) ?_
  refine lv_sipush (v := 200) hx hb dX3_init_5 (by decide) ?_
  refine ka_newI (N := 200) hC hW (by decide) (by decide) (by decide) (Nat.le_of_ble_eq_true rfl) (Nat.le_of_ble_eq_true rfl) dX3_init_8 (fun q8 H hW => ?_)
  replace hW : wA g [(h0, .inr (3, [.null, .null, .null, .null, .null, .null, .null, .int 0, .int 0, .int 0, .int 0])), (q8, .inl (cI g, 200, .inl (fun _ => 0)))] A s.heap H _ := hW
  refine W.widen (k := 1) (n := 200) (Nat.le_of_ble_eq_true rfl) (Nat.le_of_ble_eq_true rfl) ?_
  refine ka_putF (g := g) (ws' := [(h0, .inr (3, [.ref q8, .null, .null, .null, .null, .null, .null, .int 0, .int 0, .int 0, .int 0])), (q8, .inl (cI g, 200, .inl (fun _ => 0)))]) hC hW hnm (q0 := 0) rfl (C := RX3) (T := TX3) (N := 11) rfl inX3 tyX3 tyX3_ok nmX3 0 (by decide) tw_273 (by decide) rfl rfl rfl (Nat.le_of_ble_eq_true rfl) rfl dX3_init_10 (fun H locs hW => ?_)
  refine lv_aload_n hx hb dX3_init_13 rfl (lv_at hl 0 rfl) ?_
  refine lv_sipush (v := 200) hx hb dX3_init_14 (by decide) ?_
  refine ka_newI (N := 200) hC hW (by decide) (by decide) (by decide) (Nat.le_of_ble_eq_true rfl) (Nat.le_of_ble_eq_true rfl) dX3_init_17 (fun q17 H hW => ?_)
  replace hW : wA g [(h0, .inr (3, [.ref q8, .null, .null, .null, .null, .null, .null, .int 0, .int 0, .int 0, .int 0])), (q8, .inl (cI g, 200, .inl (fun _ => 0))), (q17, .inl (cI g, 200, .inl (fun _ => 0)))] A s.heap H _ := hW
  refine W.widen (k := 2) (n := 400) (Nat.le_of_ble_eq_true rfl) (Nat.le_of_ble_eq_true rfl) ?_
  refine ka_putF (g := g) (ws' := [(h0, .inr (3, [.ref q8, .ref q17, .null, .null, .null, .null, .null, .int 0, .int 0, .int 0, .int 0])), (q8, .inl (cI g, 200, .inl (fun _ => 0))), (q17, .inl (cI g, 200, .inl (fun _ => 0)))]) hC hW hnm (q0 := 0) rfl (C := RX3) (T := TX3) (N := 11) rfl inX3 tyX3 tyX3_ok nmX3 1 (by decide) tw_274 (by decide) rfl rfl rfl (Nat.le_of_ble_eq_true rfl) rfl dX3_init_19 (fun H locs hW => ?_)
  refine lv_aload_n hx hb dX3_init_22 rfl (lv_at hl 0 rfl) ?_
  refine lv_bipush (v := 14) hx hb dX3_init_23 (by decide) ?_
  refine ka_newI (N := 14) hC hW (by decide) (by decide) (by decide) (Nat.le_of_ble_eq_true rfl) (Nat.le_of_ble_eq_true rfl) dX3_init_25 (fun q25 H hW => ?_)
  replace hW : wA g [(h0, .inr (3, [.ref q8, .ref q17, .null, .null, .null, .null, .null, .int 0, .int 0, .int 0, .int 0])), (q8, .inl (cI g, 200, .inl (fun _ => 0))), (q17, .inl (cI g, 200, .inl (fun _ => 0))), (q25, .inl (cI g, 14, .inl (fun _ => 0)))] A s.heap H _ := hW
  refine W.widen (k := 3) (n := 414) (Nat.le_of_ble_eq_true rfl) (Nat.le_of_ble_eq_true rfl) ?_
  refine ka_putF (g := g) (ws' := [(h0, .inr (3, [.ref q8, .ref q17, .ref q25, .null, .null, .null, .null, .int 0, .int 0, .int 0, .int 0])), (q8, .inl (cI g, 200, .inl (fun _ => 0))), (q17, .inl (cI g, 200, .inl (fun _ => 0))), (q25, .inl (cI g, 14, .inl (fun _ => 0)))]) hC hW hnm (q0 := 0) rfl (C := RX3) (T := TX3) (N := 11) rfl inX3 tyX3 tyX3_ok nmX3 2 (by decide) tw_275 (by decide) rfl rfl rfl (Nat.le_of_ble_eq_true rfl) rfl dX3_init_27 (fun H locs hW => ?_)
  refine lv_aload_n hx hb dX3_init_30 rfl (lv_at hl 0 rfl) ?_
  refine lv_bipush (v := 14) hx hb dX3_init_31 (by decide) ?_
  refine ka_newI (N := 14) hC hW (by decide) (by decide) (by decide) (Nat.le_of_ble_eq_true rfl) (Nat.le_of_ble_eq_true rfl) dX3_init_33 (fun q33 H hW => ?_)
  replace hW : wA g [(h0, .inr (3, [.ref q8, .ref q17, .ref q25, .null, .null, .null, .null, .int 0, .int 0, .int 0, .int 0])), (q8, .inl (cI g, 200, .inl (fun _ => 0))), (q17, .inl (cI g, 200, .inl (fun _ => 0))), (q25, .inl (cI g, 14, .inl (fun _ => 0))), (q33, .inl (cI g, 14, .inl (fun _ => 0)))] A s.heap H _ := hW
  refine W.widen (k := 4) (n := 428) (Nat.le_of_ble_eq_true rfl) (Nat.le_of_ble_eq_true rfl) ?_
  refine ka_putF (g := g) (ws' := [(h0, .inr (3, [.ref q8, .ref q17, .ref q25, .ref q33, .null, .null, .null, .int 0, .int 0, .int 0, .int 0])), (q8, .inl (cI g, 200, .inl (fun _ => 0))), (q17, .inl (cI g, 200, .inl (fun _ => 0))), (q25, .inl (cI g, 14, .inl (fun _ => 0))), (q33, .inl (cI g, 14, .inl (fun _ => 0)))]) hC hW hnm (q0 := 0) rfl (C := RX3) (T := TX3) (N := 11) rfl inX3 tyX3 tyX3_ok nmX3 3 (by decide) tw_277 (by decide) rfl rfl rfl (Nat.le_of_ble_eq_true rfl) rfl dX3_init_35 (fun H locs hW => ?_)
  refine lv_aload_n hx hb dX3_init_38 rfl (lv_at hl 0 rfl) ?_
  refine lv_bipush (v := 14) hx hb dX3_init_39 (by decide) ?_
  refine ka_newI (N := 14) hC hW (by decide) (by decide) (by decide) (Nat.le_of_ble_eq_true rfl) (Nat.le_of_ble_eq_true rfl) dX3_init_41 (fun q41 H hW => ?_)
  replace hW : wA g [(h0, .inr (3, [.ref q8, .ref q17, .ref q25, .ref q33, .null, .null, .null, .int 0, .int 0, .int 0, .int 0])), (q8, .inl (cI g, 200, .inl (fun _ => 0))), (q17, .inl (cI g, 200, .inl (fun _ => 0))), (q25, .inl (cI g, 14, .inl (fun _ => 0))), (q33, .inl (cI g, 14, .inl (fun _ => 0))), (q41, .inl (cI g, 14, .inl (fun _ => 0)))] A s.heap H _ := hW
  refine W.widen (k := 5) (n := 442) (Nat.le_of_ble_eq_true rfl) (Nat.le_of_ble_eq_true rfl) ?_
  refine ka_putF (g := g) (ws' := [(h0, .inr (3, [.ref q8, .ref q17, .ref q25, .ref q33, .ref q41, .null, .null, .int 0, .int 0, .int 0, .int 0])), (q8, .inl (cI g, 200, .inl (fun _ => 0))), (q17, .inl (cI g, 200, .inl (fun _ => 0))), (q25, .inl (cI g, 14, .inl (fun _ => 0))), (q33, .inl (cI g, 14, .inl (fun _ => 0))), (q41, .inl (cI g, 14, .inl (fun _ => 0)))]) hC hW hnm (q0 := 0) rfl (C := RX3) (T := TX3) (N := 11) rfl inX3 tyX3 tyX3_ok nmX3 4 (by decide) tw_279 (by decide) rfl rfl rfl (Nat.le_of_ble_eq_true rfl) rfl dX3_init_43 (fun H locs hW => ?_)
  refine lv_aload_n hx hb dX3_init_46 rfl (lv_at hl 0 rfl) ?_
  refine lv_bipush (v := 14) hx hb dX3_init_47 (by decide) ?_
  refine ka_newI (N := 14) hC hW (by decide) (by decide) (by decide) (Nat.le_of_ble_eq_true rfl) (Nat.le_of_ble_eq_true rfl) dX3_init_49 (fun q49 H hW => ?_)
  replace hW : wA g [(h0, .inr (3, [.ref q8, .ref q17, .ref q25, .ref q33, .ref q41, .null, .null, .int 0, .int 0, .int 0, .int 0])), (q8, .inl (cI g, 200, .inl (fun _ => 0))), (q17, .inl (cI g, 200, .inl (fun _ => 0))), (q25, .inl (cI g, 14, .inl (fun _ => 0))), (q33, .inl (cI g, 14, .inl (fun _ => 0))), (q41, .inl (cI g, 14, .inl (fun _ => 0))), (q49, .inl (cI g, 14, .inl (fun _ => 0)))] A s.heap H _ := hW
  refine W.widen (k := 6) (n := 456) (Nat.le_of_ble_eq_true rfl) (Nat.le_of_ble_eq_true rfl) ?_
  refine ka_putF (g := g) (ws' := [(h0, .inr (3, [.ref q8, .ref q17, .ref q25, .ref q33, .ref q41, .ref q49, .null, .int 0, .int 0, .int 0, .int 0])), (q8, .inl (cI g, 200, .inl (fun _ => 0))), (q17, .inl (cI g, 200, .inl (fun _ => 0))), (q25, .inl (cI g, 14, .inl (fun _ => 0))), (q33, .inl (cI g, 14, .inl (fun _ => 0))), (q41, .inl (cI g, 14, .inl (fun _ => 0))), (q49, .inl (cI g, 14, .inl (fun _ => 0)))]) hC hW hnm (q0 := 0) rfl (C := RX3) (T := TX3) (N := 11) rfl inX3 tyX3 tyX3_ok nmX3 5 (by decide) tw_281 (by decide) rfl rfl rfl (Nat.le_of_ble_eq_true rfl) rfl dX3_init_51 (fun H locs hW => ?_)
  refine lv_aload_n hx hb dX3_init_54 rfl (lv_at hl 0 rfl) ?_
  refine lv_bipush (v := 64) hx hb dX3_init_55 (by decide) ?_
  refine ka_newI (N := 64) hC hW (by decide) (by decide) (by decide) (Nat.le_of_ble_eq_true rfl) (Nat.le_of_ble_eq_true rfl) dX3_init_57 (fun q57 H hW => ?_)
  replace hW : wA g [(h0, .inr (3, [.ref q8, .ref q17, .ref q25, .ref q33, .ref q41, .ref q49, .null, .int 0, .int 0, .int 0, .int 0])), (q8, .inl (cI g, 200, .inl (fun _ => 0))), (q17, .inl (cI g, 200, .inl (fun _ => 0))), (q25, .inl (cI g, 14, .inl (fun _ => 0))), (q33, .inl (cI g, 14, .inl (fun _ => 0))), (q41, .inl (cI g, 14, .inl (fun _ => 0))), (q49, .inl (cI g, 14, .inl (fun _ => 0))), (q57, .inl (cI g, 64, .inl (fun _ => 0)))] A s.heap H _ := hW
  refine W.widen (k := 7) (n := 520) (Nat.le_of_ble_eq_true rfl) (Nat.le_of_ble_eq_true rfl) ?_
  refine ka_putF (g := g) (ws' := [(h0, .inr (3, [.ref q8, .ref q17, .ref q25, .ref q33, .ref q41, .ref q49, .ref q57, .int 0, .int 0, .int 0, .int 0])), (q8, .inl (cI g, 200, .inl (fun _ => 0))), (q17, .inl (cI g, 200, .inl (fun _ => 0))), (q25, .inl (cI g, 14, .inl (fun _ => 0))), (q33, .inl (cI g, 14, .inl (fun _ => 0))), (q41, .inl (cI g, 14, .inl (fun _ => 0))), (q49, .inl (cI g, 14, .inl (fun _ => 0))), (q57, .inl (cI g, 64, .inl (fun _ => 0)))]) hC hW hnm (q0 := 0) rfl (C := RX3) (T := TX3) (N := 11) rfl inX3 tyX3 tyX3_ok nmX3 6 (by decide) tw_283 (by decide) rfl rfl rfl (Nat.le_of_ble_eq_true rfl) rfl dX3_init_59 (fun H locs hW => ?_)
  exact ka_ret (g := g) hC hr hlocks hW ((fun k => ([q8, q17, q25, q33, q41, q49, q57] : List Nat).getD k 0, fun k => fun _ => 0) : (Nat → Nat) × Mm) (by first | exact trivial | exact trivial) [0, 1, 2, 3, 4, 5, 6, 7] (by decide) rfl rfl (Nat.le_of_ble_eq_true rfl) (Nat.le_of_ble_eq_true rfl) dX3_init_62
set_option maxHeartbeats 4000000 in
set_option maxRecDepth 100000 in
theorem tc_X1 {l : Launch} {g : Gx} (h0 : Nat) : Ctc l g yX1_init cX1_init 1 2 4 560 [.ref h0] [(h0, .inr (1, [.null, .null, .null, .null, .int 0, .int 0]))] (fun z : (Nat → Nat) × Mm => (∀ i, i < 512 → z.2 0 i = (-1))) (fun z => [(h0, .inr (1, [.ref (z.1 3), .ref (z.1 0), .ref (z.1 1), .ref (z.1 2), .int 0, .int 0])), ((z.1 0), .inl (cI g, 16, .inl (fun _ => 0))), ((z.1 1), .inl (cI g, 16, .inl (fun _ => 0))), ((z.1 2), .inl (cI g, 16, .inl (fun _ => 0))), ((z.1 3), .inl (cI g, 512, .inl (z.2 0)))]) := by
  intro A
  refine ent (lv := [(0, .ref h0)]) (by decide) (Nat.le_of_ble_eq_true rfl) rfl ?_
  intro p e s m args below meth c hC hr hlocks hnm hW ls hl
  replace hC : Cx g RX1 cX1_init 1 p s m args c := hC
  obtain ⟨hx, hb, hml, hown, hts, hK, hN⟩ := id hC
  replace hW : wA g [(h0, .inr (1, [.null, .null, .null, .null, .int 0, .int 0]))] A s.heap s.heap [] := hW
  refine lv_aload_n hx hb dX1_init_0 rfl (lv_at hl 0 rfl) ?_
  refine ka_obj (g := g) hC hl.1 tw_208 tw_23 dX1_init_1 (by decide) (Nat.le_of_ble_eq_true rfl) ?_
  refine W.eq (g2 := F0 m 4 ls []) rfl ?_
  refine lv_aload_n hx hb dX1_init_4 rfl (lv_at hl 0 rfl) ?_
  refine lv_sipush (v := 512) hx hb dX1_init_5 (by decide) ?_
  refine ka_newI (N := 512) hC hW (by decide) (by decide) (by decide) (Nat.le_of_ble_eq_true rfl) (Nat.le_of_ble_eq_true rfl) dX1_init_8 (fun q8 H hW => ?_)
  replace hW : wA g [(h0, .inr (1, [.null, .null, .null, .null, .int 0, .int 0])), (q8, .inl (cI g, 512, .inl (fun _ => 0)))] A s.heap H _ := hW
  refine W.widen (k := 1) (n := 512) (Nat.le_of_ble_eq_true rfl) (Nat.le_of_ble_eq_true rfl) ?_
  refine ka_putF (g := g) (ws' := [(h0, .inr (1, [.ref q8, .null, .null, .null, .int 0, .int 0])), (q8, .inl (cI g, 512, .inl (fun _ => 0)))]) hC hW hnm (q0 := 0) rfl (C := RX1) (T := TX1) (N := 6) rfl inX1 tyX1 tyX1_ok nmX1 0 (by decide) tw_212 (by decide) rfl rfl rfl (Nat.le_of_ble_eq_true rfl) rfl dX1_init_10 (fun H locs hW => ?_)
  refine lv_aload_n hx hb dX1_init_13 rfl (lv_at hl 0 rfl) ?_
  refine lv_bipush (v := 16) hx hb dX1_init_14 (by decide) ?_
  refine ka_newI (N := 16) hC hW (by decide) (by decide) (by decide) (Nat.le_of_ble_eq_true rfl) (Nat.le_of_ble_eq_true rfl) dX1_init_16 (fun q16 H hW => ?_)
  replace hW : wA g [(h0, .inr (1, [.ref q8, .null, .null, .null, .int 0, .int 0])), (q8, .inl (cI g, 512, .inl (fun _ => 0))), (q16, .inl (cI g, 16, .inl (fun _ => 0)))] A s.heap H _ := hW
  refine W.widen (k := 2) (n := 528) (Nat.le_of_ble_eq_true rfl) (Nat.le_of_ble_eq_true rfl) ?_
  refine ka_putF (g := g) (ws' := [(h0, .inr (1, [.ref q8, .ref q16, .null, .null, .int 0, .int 0])), (q8, .inl (cI g, 512, .inl (fun _ => 0))), (q16, .inl (cI g, 16, .inl (fun _ => 0)))]) hC hW hnm (q0 := 0) rfl (C := RX1) (T := TX1) (N := 6) rfl inX1 tyX1 tyX1_ok nmX1 1 (by decide) tw_213 (by decide) rfl rfl rfl (Nat.le_of_ble_eq_true rfl) rfl dX1_init_18 (fun H locs hW => ?_)
  refine lv_aload_n hx hb dX1_init_21 rfl (lv_at hl 0 rfl) ?_
  refine lv_bipush (v := 16) hx hb dX1_init_22 (by decide) ?_
  refine ka_newI (N := 16) hC hW (by decide) (by decide) (by decide) (Nat.le_of_ble_eq_true rfl) (Nat.le_of_ble_eq_true rfl) dX1_init_24 (fun q24 H hW => ?_)
  replace hW : wA g [(h0, .inr (1, [.ref q8, .ref q16, .null, .null, .int 0, .int 0])), (q8, .inl (cI g, 512, .inl (fun _ => 0))), (q16, .inl (cI g, 16, .inl (fun _ => 0))), (q24, .inl (cI g, 16, .inl (fun _ => 0)))] A s.heap H _ := hW
  refine W.widen (k := 3) (n := 544) (Nat.le_of_ble_eq_true rfl) (Nat.le_of_ble_eq_true rfl) ?_
  refine ka_putF (g := g) (ws' := [(h0, .inr (1, [.ref q8, .ref q16, .ref q24, .null, .int 0, .int 0])), (q8, .inl (cI g, 512, .inl (fun _ => 0))), (q16, .inl (cI g, 16, .inl (fun _ => 0))), (q24, .inl (cI g, 16, .inl (fun _ => 0)))]) hC hW hnm (q0 := 0) rfl (C := RX1) (T := TX1) (N := 6) rfl inX1 tyX1 tyX1_ok nmX1 2 (by decide) tw_214 (by decide) rfl rfl rfl (Nat.le_of_ble_eq_true rfl) rfl dX1_init_26 (fun H locs hW => ?_)
  refine lv_aload_n hx hb dX1_init_29 rfl (lv_at hl 0 rfl) ?_
  refine lv_bipush (v := 16) hx hb dX1_init_30 (by decide) ?_
  refine ka_newI (N := 16) hC hW (by decide) (by decide) (by decide) (Nat.le_of_ble_eq_true rfl) (Nat.le_of_ble_eq_true rfl) dX1_init_32 (fun q32 H hW => ?_)
  replace hW : wA g [(h0, .inr (1, [.ref q8, .ref q16, .ref q24, .null, .int 0, .int 0])), (q8, .inl (cI g, 512, .inl (fun _ => 0))), (q16, .inl (cI g, 16, .inl (fun _ => 0))), (q24, .inl (cI g, 16, .inl (fun _ => 0))), (q32, .inl (cI g, 16, .inl (fun _ => 0)))] A s.heap H _ := hW
  refine W.widen (k := 4) (n := 560) (Nat.le_of_ble_eq_true rfl) (Nat.le_of_ble_eq_true rfl) ?_
  refine ka_putF (g := g) (ws' := [(h0, .inr (1, [.ref q8, .ref q16, .ref q24, .ref q32, .int 0, .int 0])), (q8, .inl (cI g, 512, .inl (fun _ => 0))), (q16, .inl (cI g, 16, .inl (fun _ => 0))), (q24, .inl (cI g, 16, .inl (fun _ => 0))), (q32, .inl (cI g, 16, .inl (fun _ => 0)))]) hC hW hnm (q0 := 0) rfl (C := RX1) (T := TX1) (N := 6) rfl inX1 tyX1 tyX1_ok nmX1 3 (by decide) tw_215 (by decide) rfl rfl rfl (Nat.le_of_ble_eq_true rfl) rfl dX1_init_34 (fun H locs hW => ?_)
  refine lv_aload_n hx hb dX1_init_37 rfl (lv_at hl 0 rfl) ?_
  refine kr_get (g := g) hC hW (q0 := 0) rfl (C := RX1) (T := TX1) (N := 6) rfl inX1 0 (by decide) tw_212 (v := .ref q8) rfl dX1_init_38 ?_
  refine lv_iconst (v := (-1)) hx hb dX1_init_41 (by decide) ?_
  obtain ⟨u42, hu42, hm42⟩ := fill_512 l g q8 (-1)
  refine ka_after (g := g) (w0 := [(q8, .inl (cI g, 512, .inl (fun _ => 0)))]) (wr := [(h0, .inr (1, [.ref q8, .ref q16, .ref q24, .ref q32, .int 0, .int 0])), (q16, .inl (cI g, 16, .inl (fun _ => 0))), (q24, .inl (cI g, 16, .inl (fun _ => 0))), (q32, .inl (cI g, 16, .inl (fun _ => 0)))]) hW [1] [0, 2, 3, 4] rfl rfl (by decide) (by decide) (ka_runS (g := g) hC hW hl.1 [1] (by decide) rfl (hm42 _) ⟨rfl, rfl⟩ cw_X1_24 rfl rfl (Nat.le_of_ble_eq_true rfl) dX1_init_42 ⟨Nat.le_of_ble_eq_true rfl, Nat.le_of_ble_eq_true rfl⟩ ⟨Nat.le_of_ble_eq_true rfl, Nat.le_of_ble_eq_true rfl⟩) (fun z42 H locs hz42 hW => ?_)
  replace hW : wA g [(h0, .inr (1, [.ref q8, .ref q16, .ref q24, .ref q32, .int 0, .int 0])), (q16, .inl (cI g, 16, .inl (fun _ => 0))), (q24, .inl (cI g, 16, .inl (fun _ => 0))), (q32, .inl (cI g, 16, .inl (fun _ => 0))), (q8, .inl (cI g, 512, .inl (z42 0)))] A s.heap H _ := hW
  refine W.widen (k := 4) (n := 560) (Nat.le_of_ble_eq_true rfl) (Nat.le_of_ble_eq_true rfl) ?_
  exact ka_ret (g := g) hC hr hlocks hW ((fun k => ([q16, q24, q32, q8] : List Nat).getD k 0, fun k => z42 0) : (Nat → Nat) × Mm) (by first | exact trivial | exact fun i hi => by show z42 0 i = _; rw [hz42]; exact hu42 i hi) [0, 1, 2, 3, 4] (by decide) rfl rfl (Nat.le_of_ble_eq_true rfl) (Nat.le_of_ble_eq_true rfl) dX1_init_45
set_option maxHeartbeats 4000000 in
set_option maxRecDepth 100000 in
theorem tc_X10 {l : Launch} {g : Gx} (h0 : Nat) (p1 : Nat) (p2 : Nat) (p3 : Nat) : Ctc l g yX10_init cX10_init 4 2 9 659 [.ref h0, .ref p1, .ref p2, .ref p3] [(h0, .inr (10, [.null, .null, .null, .null, .null]))] (fun z : (Nat → Nat) × Mm => True) (fun z => [(h0, .inr (10, [.ref p1, .ref p2, .ref p3, .ref (z.1 0), .ref (z.1 1)])), ((z.1 0), .inl (cI g, 128, .inl (fun _ => 0))), ((z.1 1), .inr (3, [.ref (z.1 2), .ref (z.1 3), .ref (z.1 4), .ref (z.1 5), .ref (z.1 6), .ref (z.1 7), .ref (z.1 8), .int 0, .int 0, .int 0, .int 0])), ((z.1 2), .inl (cI g, 200, .inl (fun _ => 0))), ((z.1 3), .inl (cI g, 200, .inl (fun _ => 0))), ((z.1 4), .inl (cI g, 14, .inl (fun _ => 0))), ((z.1 5), .inl (cI g, 14, .inl (fun _ => 0))), ((z.1 6), .inl (cI g, 14, .inl (fun _ => 0))), ((z.1 7), .inl (cI g, 14, .inl (fun _ => 0))), ((z.1 8), .inl (cI g, 64, .inl (fun _ => 0)))]) := by
  intro A
  refine ent (lv := [(0, .ref h0), (1, .ref p1), (2, .ref p2), (3, .ref p3)]) (by decide) (Nat.le_of_ble_eq_true rfl) rfl ?_
  intro p e s m args below meth c hC hr hlocks hnm hW ls hl
  replace hC : Cx g RX10 cX10_init 4 p s m args c := hC
  obtain ⟨hx, hb, hml, hown, hts, hK, hN⟩ := id hC
  replace hW : wA g [(h0, .inr (10, [.null, .null, .null, .null, .null]))] A s.heap s.heap [] := hW
  refine lv_aload_n hx hb dX10_init_0 rfl (lv_at hl 0 rfl) ?_
  refine ka_obj (g := g) hC hl.1 tw_266 tw_23 dX10_init_1 (by decide) (Nat.le_of_ble_eq_true rfl) ?_
  refine W.eq (g2 := F0 m 4 ls []) rfl ?_
  refine lv_aload_n hx hb dX10_init_4 rfl (lv_at hl 0 rfl) ?_
  refine lv_sipush (v := 128) hx hb dX10_init_5 (by decide) ?_
  refine ka_newI (N := 128) hC hW (by decide) (by decide) (by decide) (Nat.le_of_ble_eq_true rfl) (Nat.le_of_ble_eq_true rfl) dX10_init_8 (fun q8 H hW => ?_)
  replace hW : wA g [(h0, .inr (10, [.null, .null, .null, .null, .null])), (q8, .inl (cI g, 128, .inl (fun _ => 0)))] A s.heap H _ := hW
  refine W.widen (k := 1) (n := 128) (Nat.le_of_ble_eq_true rfl) (Nat.le_of_ble_eq_true rfl) ?_
  refine ka_putF (g := g) (ws' := [(h0, .inr (10, [.null, .null, .null, .ref q8, .null])), (q8, .inl (cI g, 128, .inl (fun _ => 0)))]) hC hW hnm (q0 := 0) rfl (C := RX10) (T := TX10) (N := 5) rfl inX10 tyX10 tyX10_ok nmX10 3 (by decide) tw_317 (by decide) rfl rfl rfl (Nat.le_of_ble_eq_true rfl) rfl dX10_init_10 (fun H locs hW => ?_)
  refine lv_aload_n hx hb dX10_init_13 rfl (lv_at hl 0 rfl) ?_
  refine ka_new (ci := 3) (fs := [.null, .null, .null, .null, .null, .null, .null, .int 0, .int 0, .int 0, .int 0]) (C := RX3) (T := TX3) (N := 11) hC hW rfl inX3 tyX3 tyX3_ok tw_267 tw_268 tw_10 (by decide +kernel) (Nat.le_of_ble_eq_true rfl) (Nat.le_of_ble_eq_true rfl) dX10_init_14 (fun q14 H hW => ?_)
  replace hW : wA g [(h0, .inr (10, [.null, .null, .null, .ref q8, .null])), (q8, .inl (cI g, 128, .inl (fun _ => 0))), (q14, .inr (3, [.null, .null, .null, .null, .null, .null, .null, .int 0, .int 0, .int 0, .int 0]))] A s.heap H _ := hW
  refine W.widen (k := 2) (n := 139) (Nat.le_of_ble_eq_true rfl) (Nat.le_of_ble_eq_true rfl) ?_
  refine lv_dup hx hb dX10_init_17 rfl ?_
  refine ka_after (g := g) (w0 := [(q14, .inr (3, [.null, .null, .null, .null, .null, .null, .null, .int 0, .int 0, .int 0, .int 0]))]) (wr := [(h0, .inr (10, [.null, .null, .null, .ref q8, .null])), (q8, .inl (cI g, 128, .inl (fun _ => 0)))]) hW [2] [0, 1] rfl rfl (by decide) (by decide) (ka_runJ (g := g) hC hW hl.1 [2] (by decide) rfl (tc_X3 q14 _) ⟨rfl, rfl⟩ ci_X10_17 rfl rfl (Nat.le_of_ble_eq_true rfl) dX10_init_18 ⟨Nat.le_of_ble_eq_true rfl, Nat.le_of_ble_eq_true rfl⟩ ⟨Nat.le_of_ble_eq_true rfl, Nat.le_of_ble_eq_true rfl⟩) (fun z18 H locs hz18 hW => ?_)
  replace hW : wA g [(h0, .inr (10, [.null, .null, .null, .ref q8, .null])), (q8, .inl (cI g, 128, .inl (fun _ => 0))), (q14, .inr (3, [.ref (z18.1 0), .ref (z18.1 1), .ref (z18.1 2), .ref (z18.1 3), .ref (z18.1 4), .ref (z18.1 5), .ref (z18.1 6), .int 0, .int 0, .int 0, .int 0])), ((z18.1 0), .inl (cI g, 200, .inl (fun _ => 0))), ((z18.1 1), .inl (cI g, 200, .inl (fun _ => 0))), ((z18.1 2), .inl (cI g, 14, .inl (fun _ => 0))), ((z18.1 3), .inl (cI g, 14, .inl (fun _ => 0))), ((z18.1 4), .inl (cI g, 14, .inl (fun _ => 0))), ((z18.1 5), .inl (cI g, 14, .inl (fun _ => 0))), ((z18.1 6), .inl (cI g, 64, .inl (fun _ => 0)))] A s.heap H _ := hW
  refine W.widen (k := 9) (n := 659) (Nat.le_of_ble_eq_true rfl) (Nat.le_of_ble_eq_true rfl) ?_
  refine ka_put (g := g) (ws' := [(h0, .inr (10, [.null, .null, .null, .ref q8, .ref q14])), (q8, .inl (cI g, 128, .inl (fun _ => 0))), (q14, .inr (3, [.ref (z18.1 0), .ref (z18.1 1), .ref (z18.1 2), .ref (z18.1 3), .ref (z18.1 4), .ref (z18.1 5), .ref (z18.1 6), .int 0, .int 0, .int 0, .int 0])), ((z18.1 0), .inl (cI g, 200, .inl (fun _ => 0))), ((z18.1 1), .inl (cI g, 200, .inl (fun _ => 0))), ((z18.1 2), .inl (cI g, 14, .inl (fun _ => 0))), ((z18.1 3), .inl (cI g, 14, .inl (fun _ => 0))), ((z18.1 4), .inl (cI g, 14, .inl (fun _ => 0))), ((z18.1 5), .inl (cI g, 14, .inl (fun _ => 0))), ((z18.1 6), .inl (cI g, 64, .inl (fun _ => 0)))]) hC hW (q0 := 0) rfl (C := RX10) (T := TX10) (N := 5) rfl inX10 tyX10 tyX10_ok nmX10 4 (by decide) tw_318 (by decide) rfl rfl (Nat.le_of_ble_eq_true rfl) rfl dX10_init_21 (fun H locs hW => ?_)
  refine lv_aload_n hx hb dX10_init_24 rfl (lv_at hl 0 rfl) ?_
  refine lv_aload_n hx hb dX10_init_25 rfl (lv_at hl 1 rfl) ?_
  refine ka_putF (g := g) (ws' := [(h0, .inr (10, [.ref p1, .null, .null, .ref q8, .ref q14])), (q8, .inl (cI g, 128, .inl (fun _ => 0))), (q14, .inr (3, [.ref (z18.1 0), .ref (z18.1 1), .ref (z18.1 2), .ref (z18.1 3), .ref (z18.1 4), .ref (z18.1 5), .ref (z18.1 6), .int 0, .int 0, .int 0, .int 0])), ((z18.1 0), .inl (cI g, 200, .inl (fun _ => 0))), ((z18.1 1), .inl (cI g, 200, .inl (fun _ => 0))), ((z18.1 2), .inl (cI g, 14, .inl (fun _ => 0))), ((z18.1 3), .inl (cI g, 14, .inl (fun _ => 0))), ((z18.1 4), .inl (cI g, 14, .inl (fun _ => 0))), ((z18.1 5), .inl (cI g, 14, .inl (fun _ => 0))), ((z18.1 6), .inl (cI g, 64, .inl (fun _ => 0)))]) hC hW hnm (q0 := 0) rfl (C := RX10) (T := TX10) (N := 5) rfl inX10 tyX10 tyX10_ok nmX10 0 (by decide) tw_314 (by decide) rfl rfl rfl (Nat.le_of_ble_eq_true rfl) rfl dX10_init_26 (fun H locs hW => ?_)
  refine lv_aload_n hx hb dX10_init_29 rfl (lv_at hl 0 rfl) ?_
  refine lv_aload_n hx hb dX10_init_30 rfl (lv_at hl 2 rfl) ?_
  refine ka_putF (g := g) (ws' := [(h0, .inr (10, [.ref p1, .ref p2, .null, .ref q8, .ref q14])), (q8, .inl (cI g, 128, .inl (fun _ => 0))), (q14, .inr (3, [.ref (z18.1 0), .ref (z18.1 1), .ref (z18.1 2), .ref (z18.1 3), .ref (z18.1 4), .ref (z18.1 5), .ref (z18.1 6), .int 0, .int 0, .int 0, .int 0])), ((z18.1 0), .inl (cI g, 200, .inl (fun _ => 0))), ((z18.1 1), .inl (cI g, 200, .inl (fun _ => 0))), ((z18.1 2), .inl (cI g, 14, .inl (fun _ => 0))), ((z18.1 3), .inl (cI g, 14, .inl (fun _ => 0))), ((z18.1 4), .inl (cI g, 14, .inl (fun _ => 0))), ((z18.1 5), .inl (cI g, 14, .inl (fun _ => 0))), ((z18.1 6), .inl (cI g, 64, .inl (fun _ => 0)))]) hC hW hnm (q0 := 0) rfl (C := RX10) (T := TX10) (N := 5) rfl inX10 tyX10 tyX10_ok nmX10 1 (by decide) tw_315 (by decide) rfl rfl rfl (Nat.le_of_ble_eq_true rfl) rfl dX10_init_31 (fun H locs hW => ?_)
  refine lv_aload_n hx hb dX10_init_34 rfl (lv_at hl 0 rfl) ?_
  refine lv_aload_n hx hb dX10_init_35 rfl (lv_at hl 3 rfl) ?_
  refine ka_putF (g := g) (ws' := [(h0, .inr (10, [.ref p1, .ref p2, .ref p3, .ref q8, .ref q14])), (q8, .inl (cI g, 128, .inl (fun _ => 0))), (q14, .inr (3, [.ref (z18.1 0), .ref (z18.1 1), .ref (z18.1 2), .ref (z18.1 3), .ref (z18.1 4), .ref (z18.1 5), .ref (z18.1 6), .int 0, .int 0, .int 0, .int 0])), ((z18.1 0), .inl (cI g, 200, .inl (fun _ => 0))), ((z18.1 1), .inl (cI g, 200, .inl (fun _ => 0))), ((z18.1 2), .inl (cI g, 14, .inl (fun _ => 0))), ((z18.1 3), .inl (cI g, 14, .inl (fun _ => 0))), ((z18.1 4), .inl (cI g, 14, .inl (fun _ => 0))), ((z18.1 5), .inl (cI g, 14, .inl (fun _ => 0))), ((z18.1 6), .inl (cI g, 64, .inl (fun _ => 0)))]) hC hW hnm (q0 := 0) rfl (C := RX10) (T := TX10) (N := 5) rfl inX10 tyX10 tyX10_ok nmX10 2 (by decide) tw_316 (by decide) rfl rfl rfl (Nat.le_of_ble_eq_true rfl) rfl dX10_init_36 (fun H locs hW => ?_)
  exact ka_ret (g := g) hC hr hlocks hW ((fun k => ([q8, q14, (z18.1 0), (z18.1 1), (z18.1 2), (z18.1 3), (z18.1 4), (z18.1 5), (z18.1 6)] : List Nat).getD k 0, fun k => fun _ => 0) : (Nat → Nat) × Mm) (by first | exact trivial | exact trivial) [0, 1, 2, 3, 4, 5, 6, 7, 8, 9] (by decide) rfl rfl (Nat.le_of_ble_eq_true rfl) (Nat.le_of_ble_eq_true rfl) dX10_init_39
set_option maxHeartbeats 4000000 in
set_option maxRecDepth 100000 in
theorem tc_X6 {l : Launch} {g : Gx} (h0 : Nat) (p1 : Nat) : Ctc l g yX6_init cX6_init 2 1 3 2393 [.ref h0, .ref p1] [(h0, .inr (6, [.null, .null, .null, .null, .int 0, .int 0]))] (fun z : (Nat → Nat) × Mm => True) (fun z => [(h0, .inr (6, [.ref p1, .ref (z.1 0), .ref (z.1 1), .ref (z.1 2), .int 0, .int 2])), ((z.1 0), .inl (cI g, 8, .inl (fun _ => 0))), ((z.1 1), .inl (cI g, 81, .inl (fun _ => 0))), ((z.1 2), .inl (cI g, 2304, .inl (fun _ => 0)))]) := by
  intro A
  refine ent (lv := [(0, .ref h0), (1, .ref p1)]) (by decide) (Nat.le_of_ble_eq_true rfl) rfl ?_
  intro p e s m args below meth c hC hr hlocks hnm hW ls hl
  replace hC : Cx g RX6 cX6_init 2 p s m args c := hC
  obtain ⟨hx, hb, hml, hown, hts, hK, hN⟩ := id hC
  replace hW : wA g [(h0, .inr (6, [.null, .null, .null, .null, .int 0, .int 0]))] A s.heap s.heap [] := hW
  refine lv_aload_n hx hb dX6_init_0 rfl (lv_at hl 0 rfl) ?_
  refine ka_obj (g := g) hC hl.1 tw_336 tw_23 dX6_init_1 (by decide) (Nat.le_of_ble_eq_true rfl) ?_
  refine W.eq (g2 := F0 m 4 ls []) rfl ?_
  refine lv_aload_n hx hb dX6_init_4 rfl (lv_at hl 0 rfl) ?_
  refine lv_bipush (v := 8) hx hb dX6_init_5 (by decide) ?_
  refine ka_newI (N := 8) hC hW (by decide) (by decide) (by decide) (Nat.le_of_ble_eq_true rfl) (Nat.le_of_ble_eq_true rfl) dX6_init_7 (fun q7 H hW => ?_)
  replace hW : wA g [(h0, .inr (6, [.null, .null, .null, .null, .int 0, .int 0])), (q7, .inl (cI g, 8, .inl (fun _ => 0)))] A s.heap H _ := hW
  refine W.widen (k := 1) (n := 8) (Nat.le_of_ble_eq_true rfl) (Nat.le_of_ble_eq_true rfl) ?_
  refine ka_putF (g := g) (ws' := [(h0, .inr (6, [.null, .ref q7, .null, .null, .int 0, .int 0])), (q7, .inl (cI g, 8, .inl (fun _ => 0)))]) hC hW hnm (q0 := 0) rfl (C := RX6) (T := TX6) (N := 6) rfl inX6 tyX6 tyX6_ok nmX6 1 (by decide) tw_338 (by decide) rfl rfl rfl (Nat.le_of_ble_eq_true rfl) rfl dX6_init_9 (fun H locs hW => ?_)
  refine lv_aload_n hx hb dX6_init_12 rfl (lv_at hl 0 rfl) ?_
  refine lv_bipush (v := 81) hx hb dX6_init_13 (by decide) ?_
  refine ka_newI (N := 81) hC hW (by decide) (by decide) (by decide) (Nat.le_of_ble_eq_true rfl) (Nat.le_of_ble_eq_true rfl) dX6_init_15 (fun q15 H hW => ?_)
  replace hW : wA g [(h0, .inr (6, [.null, .ref q7, .null, .null, .int 0, .int 0])), (q7, .inl (cI g, 8, .inl (fun _ => 0))), (q15, .inl (cI g, 81, .inl (fun _ => 0)))] A s.heap H _ := hW
  refine W.widen (k := 2) (n := 89) (Nat.le_of_ble_eq_true rfl) (Nat.le_of_ble_eq_true rfl) ?_
  refine ka_putF (g := g) (ws' := [(h0, .inr (6, [.null, .ref q7, .ref q15, .null, .int 0, .int 0])), (q7, .inl (cI g, 8, .inl (fun _ => 0))), (q15, .inl (cI g, 81, .inl (fun _ => 0)))]) hC hW hnm (q0 := 0) rfl (C := RX6) (T := TX6) (N := 6) rfl inX6 tyX6 tyX6_ok nmX6 2 (by decide) tw_339 (by decide) rfl rfl rfl (Nat.le_of_ble_eq_true rfl) rfl dX6_init_17 (fun H locs hW => ?_)
  refine lv_aload_n hx hb dX6_init_20 rfl (lv_at hl 0 rfl) ?_
  refine lv_sipush (v := 2304) hx hb dX6_init_21 (by decide) ?_
  refine ka_newI (N := 2304) hC hW (by decide) (by decide) (by decide) (Nat.le_of_ble_eq_true rfl) (Nat.le_of_ble_eq_true rfl) dX6_init_24 (fun q24 H hW => ?_)
  replace hW : wA g [(h0, .inr (6, [.null, .ref q7, .ref q15, .null, .int 0, .int 0])), (q7, .inl (cI g, 8, .inl (fun _ => 0))), (q15, .inl (cI g, 81, .inl (fun _ => 0))), (q24, .inl (cI g, 2304, .inl (fun _ => 0)))] A s.heap H _ := hW
  refine W.widen (k := 3) (n := 2393) (Nat.le_of_ble_eq_true rfl) (Nat.le_of_ble_eq_true rfl) ?_
  refine ka_putF (g := g) (ws' := [(h0, .inr (6, [.null, .ref q7, .ref q15, .ref q24, .int 0, .int 0])), (q7, .inl (cI g, 8, .inl (fun _ => 0))), (q15, .inl (cI g, 81, .inl (fun _ => 0))), (q24, .inl (cI g, 2304, .inl (fun _ => 0)))]) hC hW hnm (q0 := 0) rfl (C := RX6) (T := TX6) (N := 6) rfl inX6 tyX6 tyX6_ok nmX6 3 (by decide) tw_340 (by decide) rfl rfl rfl (Nat.le_of_ble_eq_true rfl) rfl dX6_init_26 (fun H locs hW => ?_)
  refine lv_aload_n hx hb dX6_init_29 rfl (lv_at hl 0 rfl) ?_
  refine lv_iconst (v := 2) hx hb dX6_init_30 (by decide) ?_
  refine ka_put (g := g) (ws' := [(h0, .inr (6, [.null, .ref q7, .ref q15, .ref q24, .int 0, .int 2])), (q7, .inl (cI g, 8, .inl (fun _ => 0))), (q15, .inl (cI g, 81, .inl (fun _ => 0))), (q24, .inl (cI g, 2304, .inl (fun _ => 0)))]) hC hW (q0 := 0) rfl (C := RX6) (T := TX6) (N := 6) rfl inX6 tyX6 tyX6_ok nmX6 5 (by decide) tw_342 (by decide) rfl rfl (Nat.le_of_ble_eq_true rfl) rfl dX6_init_31 (fun H locs hW => ?_)
  refine lv_aload_n hx hb dX6_init_34 rfl (lv_at hl 0 rfl) ?_
  refine lv_aload_n hx hb dX6_init_35 rfl (lv_at hl 1 rfl) ?_
  refine ka_putF (g := g) (ws' := [(h0, .inr (6, [.ref p1, .ref q7, .ref q15, .ref q24, .int 0, .int 2])), (q7, .inl (cI g, 8, .inl (fun _ => 0))), (q15, .inl (cI g, 81, .inl (fun _ => 0))), (q24, .inl (cI g, 2304, .inl (fun _ => 0)))]) hC hW hnm (q0 := 0) rfl (C := RX6) (T := TX6) (N := 6) rfl inX6 tyX6 tyX6_ok nmX6 0 (by decide) tw_337 (by decide) rfl rfl rfl (Nat.le_of_ble_eq_true rfl) rfl dX6_init_36 (fun H locs hW => ?_)
  exact ka_ret (g := g) hC hr hlocks hW ((fun k => ([q7, q15, q24] : List Nat).getD k 0, fun k => fun _ => 0) : (Nat → Nat) × Mm) (by first | exact trivial | exact trivial) [0, 1, 2, 3] (by decide) rfl rfl (Nat.le_of_ble_eq_true rfl) (Nat.le_of_ble_eq_true rfl) dX6_init_39
set_option maxHeartbeats 4000000 in
set_option maxRecDepth 100000 in
theorem tc_X4 {l : Launch} {g : Gx} (h0 : Nat) (p1 : Nat) (n2 : Int32) (p3 : Nat) (f : Nat → Int32) : Ctc l g yX4_init cX4_init 4 2 0 0 [.ref h0, .ref p1, .int n2, .ref p3] [(h0, .inr (4, [.null, .int 0, .null, .int 0, .int 0])), (p1, .inl (cI g, 400, .inl f))] (fun z : (Nat → Nat) × Mm => True) (fun z => [(h0, .inr (4, [.ref p1, .int (jmin n2 400), .ref p3, .int 0, .int 0])), (p1, .inl (cI g, 400, .inl f))]) := by
  intro A
  refine ent (lv := [(0, .ref h0), (1, .ref p1), (2, .int n2), (3, .ref p3)]) (by decide) (Nat.le_of_ble_eq_true rfl) rfl ?_
  intro p e s m args below meth c hC hr hlocks hnm hW ls hl
  replace hC : Cx g RX4 cX4_init 4 p s m args c := hC
  obtain ⟨hx, hb, hml, hown, hts, hK, hN⟩ := id hC
  replace hW : wA g [(h0, .inr (4, [.null, .int 0, .null, .int 0, .int 0])), (p1, .inl (cI g, 400, .inl f))] A s.heap s.heap [] := hW
  refine lv_aload_n hx hb dX4_init_0 rfl (lv_at hl 0 rfl) ?_
  refine ka_obj (g := g) hC hl.1 tw_569 tw_23 dX4_init_1 (by decide) (Nat.le_of_ble_eq_true rfl) ?_
  refine W.eq (g2 := F0 m 4 ls []) rfl ?_
  refine lv_aload_n hx hb dX4_init_4 rfl (lv_at hl 0 rfl) ?_
  refine lv_aload_n hx hb dX4_init_5 rfl (lv_at hl 1 rfl) ?_
  refine ka_putF (g := g) (ws' := [(h0, .inr (4, [.ref p1, .int 0, .null, .int 0, .int 0])), (p1, .inl (cI g, 400, .inl f))]) hC hW hnm (q0 := 0) rfl (C := RX4) (T := TX4) (N := 5) rfl inX4 tyX4 tyX4_ok nmX4 0 (by decide) tw_573 (by decide) rfl rfl rfl (Nat.le_of_ble_eq_true rfl) rfl dX4_init_6 (fun H locs hW => ?_)
  refine lv_aload_n hx hb dX4_init_9 rfl (lv_at hl 0 rfl) ?_
  refine lv_iload_n hx hb dX4_init_10 rfl (lv_at hl 2 rfl) ?_
  refine lv_aload_n hx hb dX4_init_11 rfl (lv_at hl 1 rfl) ?_
  refine kr_alen (g := g) (v := 400) hC hW (q0 := 1) rfl (by decide) dX4_init_12 ?_
  refine va_mmin hx hb (hml.trans hl.1.symm) hown (hts _ tw_570) (hts _ tw_571) (hts _ tw_15) (hts _ mth_min) (by decide) (Nat.le_of_ble_eq_true rfl) (Nat.le_of_ble_eq_true rfl) (Nat.le_of_ble_eq_true rfl) dX4_init_13 ?_
  refine W.eq (g2 := F0 m 16 ls [.int (jmin n2 400), .ref h0]) rfl ?_
  refine ka_putF (g := g) (ws' := [(h0, .inr (4, [.ref p1, .int (jmin n2 400), .null, .int 0, .int 0])), (p1, .inl (cI g, 400, .inl f))]) hC hW hnm (q0 := 0) rfl (C := RX4) (T := TX4) (N := 5) rfl inX4 tyX4 tyX4_ok nmX4 1 (by decide) tw_574 (by decide) rfl rfl rfl (Nat.le_of_ble_eq_true rfl) rfl dX4_init_16 (fun H locs hW => ?_)
  refine lv_aload_n hx hb dX4_init_19 rfl (lv_at hl 0 rfl) ?_
  refine lv_aload_n hx hb dX4_init_20 rfl (lv_at hl 3 rfl) ?_
  refine ka_putF (g := g) (ws' := [(h0, .inr (4, [.ref p1, .int (jmin n2 400), .ref p3, .int 0, .int 0])), (p1, .inl (cI g, 400, .inl f))]) hC hW hnm (q0 := 0) rfl (C := RX4) (T := TX4) (N := 5) rfl inX4 tyX4 tyX4_ok nmX4 2 (by decide) tw_575 (by decide) rfl rfl rfl (Nat.le_of_ble_eq_true rfl) rfl dX4_init_21 (fun H locs hW => ?_)
  exact ka_ret (g := g) hC hr hlocks hW ((fun k => ([] : List Nat).getD k 0, fun k => fun _ => 0) : (Nat → Nat) × Mm) (by first | exact trivial | exact trivial) [0, 1] (by decide) rfl rfl (Nat.le_of_ble_eq_true rfl) (Nat.le_of_ble_eq_true rfl) dX4_init_24
