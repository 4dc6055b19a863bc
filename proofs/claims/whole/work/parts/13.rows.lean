section
variable {p : Program} {l : Launch} {e : Env} {s : State} {m : MethodId} {args : Array Value} {below : List Frame} {meth : Method} {c : Code} {H : Heap} {locs : List Loc} {Q : State → Prop} {g : Gx} {A : Nat → Prop} {ls : Array Slot} {Wd : Gx → Mm → va_W}
set_option maxHeartbeats 4000000 in
set_option maxRecDepth 100000 in
theorem t_vs_put {l : Launch} {g : Gx} {A : Nat → Prop} {μ : Mm} {a1 : Int32} {a2 : Int32} {v : Int32} (h : vs_put μ a1 a2 = some v) : Cti l g A wx yX11_put cX11_put 3 (some .int) 2 [.ref (ad g 0), .int a1, .int a2] μ v μ := by
  refine ent (lv := [(0, .ref (ad g 0)), (1, .int a1), (2, .int a2)]) (by decide) (Nat.le_of_ble_eq_true rfl) rfl ?_
  intro p e s m args below meth c hC hr hlocks hnm hW ls hl
  replace hC : Cx g RX11 cX11_put 3 p s m args c := hC
  obtain ⟨hx, hb, hml, hown, hts, hK, hN⟩ := id hC
  unfold vs_put at h
  refine lv_aload_n hx hb dX11_put_0 rfl (lv_at hl 0 rfl) ?_
  refine gf_X11_33_x0 hC hW dX11_put_1 ?_
  refine lv_iload_n hx hb dX11_put_4 rfl (lv_at hl 1 rfl) ?_
  obtain ⟨x1, hx1, h⟩ := mbv_some h
  refine kr_ci hC hW (kr_runV hC hW hl.1 (t_vs_Stops_has hx1) cw_X11_119 (wx_4 g μ) rfl rfl rfl (Nat.le_of_ble_eq_true rfl) dX11_put_5 (by decide)) (fun H locs hW => ?_)
  refine lv_if_ne (tgt := 13) hx hb dX11_put_8 (by decide) (fun hc2 => ?_) (fun hc2 => ?_)
  · replace h := if_n hc2 h
    refine lv_iload_n hx hb dX11_put_13 rfl (lv_at hl 2 rfl) ?_
    by_cases hc3 : a2 = 0
    · replace h := if_p hc3 h
      refine lv_lookup (off := 26) (tgt := 40) hx hb dX11_put_14 (by decide) (by rw [hc3]; decide) (by decide) ?_
      refine lv_aload_n hx hb dX11_put_40 rfl (lv_at hl 0 rfl) ?_
      refine gf_X11_33_x0 hC hW dX11_put_41 ?_
      refine gf_X11_379_x4 hC hW dX11_put_44 ?_
      refine lv_iload_n hx hb dX11_put_47 rfl (lv_at hl 1 rfl) ?_
      obtain ⟨x4, ex4, hin, h⟩ := mrd_ex h
      refine kr_iald hC hW (wx_37 g μ) hin ex4 dX11_put_48 ?_
      cases h
      exact kr_iret hC hr hlocks hW dX11_put_49
    replace h := if_n hc3 h
    by_cases hc5 : a2 = 1
    · replace h := if_p hc5 h
      refine lv_lookup (off := 36) (tgt := 50) hx hb dX11_put_14 (by decide) (by rw [hc5]; decide) (by decide) ?_
      refine lv_aload_n hx hb dX11_put_50 rfl (lv_at hl 0 rfl) ?_
      refine gf_X11_33_x0 hC hW dX11_put_51 ?_
      refine gf_X11_382_x4 hC hW dX11_put_54 ?_
      refine lv_iload_n hx hb dX11_put_57 rfl (lv_at hl 1 rfl) ?_
      obtain ⟨x6, ex6, hin, h⟩ := mrd_ex h
      refine kr_iald hC hW (wx_38 g μ) hin ex6 dX11_put_58 ?_
      cases h
      exact kr_iret hC hr hlocks hW dX11_put_59
    replace h := if_n hc5 h
    refine lv_lookup (off := 46) (tgt := 60) hx hb dX11_put_14 (by decide) (by show Op.lookupswitch.offset [(0, 26), (1, 36)] 46 _ = _; rw [lv_osw hc3 (by decide), lv_osw hc5 (by decide)]; rfl) (by decide) ?_
    refine lv_iconst (v := (-1)) hx hb dX11_put_60 (by decide) ?_
    cases h
    exact kr_iret hC hr hlocks hW dX11_put_61
  · replace h := if_p hc2 h
    refine lv_iconst (v := (-1)) hx hb dX11_put_11 (by decide) ?_
    cases h
    exact kr_iret hC hr hlocks hW dX11_put_12
set_option maxHeartbeats 4000000 in
set_option maxRecDepth 100000 in
theorem t_vs_knownIn {l : Launch} {g : Gx} {A : Nat → Prop} {μ : Mm} {a1 : Int32} {v : Bool} {u : Mm} (h : vs_knownIn μ a1 = some (v, u)) : Cti l g A wx yX11_knownIn cX11_knownIn 2 (some .boolean) 1 [.ref (ad g 0), .int a1] μ (bI v) u := by
  refine ent (lv := [(0, .ref (ad g 0)), (1, .int a1)]) (by decide) (Nat.le_of_ble_eq_true rfl) rfl ?_
  intro p e s m args below meth c hC hr hlocks hnm hW ls hl
  replace hC : Cx g RX11 cX11_knownIn 2 p s m args c := hC
  obtain ⟨hx, hb, hml, hown, hts, hK, hN⟩ := id hC
  unfold vs_knownIn at h
  refine lv_iload_n hx hb dX11_knownIn_0 rfl (lv_at hl 1 rfl) ?_
  refine lv_iconst (v := 0) hx hb dX11_knownIn_1 (by decide) ?_
  refine lv_bipush (v := 20) hx hb dX11_knownIn_2 (by decide) ?_
  obtain ⟨x1, hx1, h⟩ := mbv_some h
  refine kr_ci hC hW (kr_runS hC hW hl.1 (t_vs_within hx1) cw_X11_100 rfl rfl (Nat.le_of_ble_eq_true rfl) dX11_knownIn_4 (by decide)) (fun H locs hW => ?_)
  refine lv_if_ne (tgt := 12) hx hb dX11_knownIn_7 (by decide) (fun hc2 => ?_) (fun hc2 => ?_)
  · replace h := if_n hc2 h
    refine lv_aload_n hx hb dX11_knownIn_12 rfl (lv_at hl 0 rfl) ?_
    refine gf_X11_47_x0 hC hW dX11_knownIn_13 ?_
    refine lv_iload_n hx hb dX11_knownIn_16 rfl (lv_at hl 1 rfl) ?_
    obtain ⟨μ3, eμ3, h⟩ := mst_some h
    refine pf_X11_385_x6 hC hW eμ3 dX11_knownIn_17 (fun H locs hW => ?_)
    refine lv_iconst (v := 1) hx hb dX11_knownIn_20 (by decide) ?_
    cases h
    exact kr_zret hC hr hlocks _ rfl hW dX11_knownIn_21
  · replace h := if_p hc2 h
    refine lv_iconst (v := 0) hx hb dX11_knownIn_10 (by decide) ?_
    cases h
    exact kr_zret hC hr hlocks _ rfl hW dX11_knownIn_11
set_option maxHeartbeats 4000000 in
set_option maxRecDepth 100000 in
theorem tl_vs_Acts_placeOf_6 (μ : Mm) (a1 : Int32) (a2 : Int32) (a3 : Int32) (hC : Cx g RX0 cX0_placeOf 6 p s m args c) {e0 : (Int32)} (kx0 : ∀ (ls : Array Slot) (H : Heap) (locs : List Loc), lv_has ls 6 [(4, .int e0)] → wP g wx A s.heap μ H locs → W p l e (rmD 0) s m args below meth c H locs 0 0 Q (F0 m 63 ls [])) : ∀ (n : Nat) (q : Int32 × Int32), miter (fun q => vs_Acts_placeOf_b6 μ a1 a2 a3 q.1 q.2) n q = some e0 → ∀ (ls : Array Slot) (H : Heap) (locs : List Loc), lv_has ls 6 [(0, .ref (ad g 6)), (1, .int a1), (2, .int a2), (3, .int a3), (4, .int q.1), (5, .int q.2)] → wP g wx A s.heap μ H locs → W p l e (rmD 0) s m args below meth c H locs 0 0 Q (F0 m 6 ls []) := by
  obtain ⟨hx, hb, hml, hown, hts, hK, hN⟩ := id hC
  refine miter_ind (fun q r hf k1 k2 => ?_)
  obtain ⟨xs4, xs5⟩ := q
  intro ls H locs hl hW
  have h : vs_Acts_placeOf_b6 μ a1 a2 a3 xs4 xs5 = some r := hf
  unfold vs_Acts_placeOf_b6 at h
  refine lv_iload hx hb dX0_placeOf_6 (lv_at hl 5 rfl) ?_
  refine lv_aload_n hx hb dX0_placeOf_8 rfl (lv_at hl 0 rfl) ?_
  refine gf_X0_24_x6 hC hW dX0_placeOf_9 ?_
  refine lv_icmp_ge (tgt := 63) hx hb dX0_placeOf_12 (by decide) (fun hc1 => ?_) (fun hc1 => ?_)
  · replace h := if_p hc1 h
    obtain rfl := k2 _ (Option.some.inj h).symm
    exact kx0 _ _ _ (lv_sub hl [4] rfl) hW
  · replace h := if_n hc1 h
    refine lv_aload_n hx hb dX0_placeOf_15 rfl (lv_at hl 0 rfl) ?_
    refine gf_X0_9_x6 hC hW dX0_placeOf_16 ?_
    refine lv_iload hx hb dX0_placeOf_19 (lv_at hl 5 rfl) ?_
    obtain ⟨x2, ex2, hin, h⟩ := mrd_ex h
    refine kr_iald hC hW (wx_48 g μ) hin ex2 dX0_placeOf_21 ?_
    refine lv_iload_n hx hb dX0_placeOf_22 rfl (lv_at hl 1 rfl) ?_
    refine lv_icmp_ne (tgt := 57) hx hb dX0_placeOf_23 (by decide) (fun hc3 => ?_) (fun hc3 => ?_)
    · replace h := if_n hc3 h
      refine lv_iinc (v := (xs5 + 1)) (lv' := [(5, .int (xs5 + 1)), (0, .ref (ad g 6)), (1, .int a1), (2, .int a2), (3, .int a3), (4, .int xs4)]) hx hb dX0_placeOf_57 hl (k := 5) rfl (by rw [oi_1]) (by decide) rfl (fun ls hl => ?_)
      refine lv_goto (tgt := 6) hx hb dX0_placeOf_60 (by decide) ?_
      exact k1 (xs4, (xs5 + 1)) (Option.some.inj h).symm _ _ _ (lv_sub hl [1, 2, 3, 4, 5, 0] rfl) hW
    · replace h := if_p hc3 h
      refine lv_aload_n hx hb dX0_placeOf_26 rfl (lv_at hl 0 rfl) ?_
      refine gf_X0_18_x6 hC hW dX0_placeOf_27 ?_
      refine lv_iload hx hb dX0_placeOf_30 (lv_at hl 5 rfl) ?_
      obtain ⟨x4, ex4, hin, h⟩ := mrd_ex h
      refine kr_iald hC hW (wx_50 g μ) hin ex4 dX0_placeOf_32 ?_
      refine lv_iload_n hx hb dX0_placeOf_33 rfl (lv_at hl 2 rfl) ?_
      refine lv_icmp_gt (tgt := 57) hx hb dX0_placeOf_34 (by decide) (fun hc5 => ?_) (fun hc5 => ?_)
      · replace h := if_p hc5 h
        refine lv_iinc (v := (xs5 + 1)) (lv' := [(5, .int (xs5 + 1)), (0, .ref (ad g 6)), (1, .int a1), (2, .int a2), (3, .int a3), (4, .int xs4)]) hx hb dX0_placeOf_57 hl (k := 5) rfl (by rw [oi_1]) (by decide) rfl (fun ls hl => ?_)
        refine lv_goto (tgt := 6) hx hb dX0_placeOf_60 (by decide) ?_
        exact k1 (xs4, (xs5 + 1)) (Option.some.inj h).symm _ _ _ (lv_sub hl [1, 2, 3, 4, 5, 0] rfl) hW
      · replace h := if_n hc5 h
        refine lv_aload_n hx hb dX0_placeOf_37 rfl (lv_at hl 0 rfl) ?_
        refine gf_X0_21_x6 hC hW dX0_placeOf_38 ?_
        refine lv_iload hx hb dX0_placeOf_41 (lv_at hl 5 rfl) ?_
        obtain ⟨x6, ex6, hin, h⟩ := mrd_ex h
        refine kr_iald hC hW (wx_51 g μ) hin ex6 dX0_placeOf_43 ?_
        refine lv_iload_n hx hb dX0_placeOf_44 rfl (lv_at hl 3 rfl) ?_
        refine lv_icmp_gt (tgt := 57) hx hb dX0_placeOf_45 (by decide) (fun hc7 => ?_) (fun hc7 => ?_)
        · replace h := if_p hc7 h
          refine lv_iinc (v := (xs5 + 1)) (lv' := [(5, .int (xs5 + 1)), (0, .ref (ad g 6)), (1, .int a1), (2, .int a2), (3, .int a3), (4, .int xs4)]) hx hb dX0_placeOf_57 hl (k := 5) rfl (by rw [oi_1]) (by decide) rfl (fun ls hl => ?_)
          refine lv_goto (tgt := 6) hx hb dX0_placeOf_60 (by decide) ?_
          exact k1 (xs4, (xs5 + 1)) (Option.some.inj h).symm _ _ _ (lv_sub hl [1, 2, 3, 4, 5, 0] rfl) hW
        · replace h := if_n hc7 h
          refine lv_aload_n hx hb dX0_placeOf_48 rfl (lv_at hl 0 rfl) ?_
          refine gf_X0_15_x6 hC hW dX0_placeOf_49 ?_
          refine lv_iload hx hb dX0_placeOf_52 (lv_at hl 5 rfl) ?_
          obtain ⟨x8, ex8, hin, h⟩ := mrd_ex h
          refine kr_iald hC hW (wx_49 g μ) hin ex8 dX0_placeOf_54 ?_
          refine lv_istore (lv' := [(4, .int x8), (0, .ref (ad g 6)), (1, .int a1), (2, .int a2), (3, .int a3), (5, .int xs5)]) hx hb dX0_placeOf_55 hl (by decide) rfl (fun ls hl => ?_)
          refine lv_iinc (v := (xs5 + 1)) (lv' := [(5, .int (xs5 + 1)), (4, .int x8), (0, .ref (ad g 6)), (1, .int a1), (2, .int a2), (3, .int a3)]) hx hb dX0_placeOf_57 hl (k := 5) rfl (by rw [oi_1]) (by decide) rfl (fun ls hl => ?_)
          refine lv_goto (tgt := 6) hx hb dX0_placeOf_60 (by decide) ?_
          exact k1 (x8, (xs5 + 1)) (Option.some.inj h).symm _ _ _ (lv_sub hl [2, 3, 4, 5, 1, 0] rfl) hW
set_option maxHeartbeats 4000000 in
set_option maxRecDepth 100000 in
theorem t_vs_Acts_placeOf {l : Launch} {g : Gx} {A : Nat → Prop} {μ : Mm} {a1 : Int32} {a2 : Int32} {a3 : Int32} {v : Int32} (h : vs_Acts_placeOf μ a1 a2 a3 = some v) : Cti l g A wx yX0_placeOf cX0_placeOf 6 (some .int) 0 [.ref (ad g 6), .int a1, .int a2, .int a3] μ v μ := by
  refine ent (lv := [(0, .ref (ad g 6)), (1, .int a1), (2, .int a2), (3, .int a3)]) (by decide) (Nat.le_of_ble_eq_true rfl) rfl ?_
  intro p e s m args below meth c hC hr hlocks hnm hW ls hl
  replace hC : Cx g RX0 cX0_placeOf 6 p s m args c := hC
  obtain ⟨hx, hb, hml, hown, hts, hK, hN⟩ := id hC
  unfold vs_Acts_placeOf at h
  refine lv_iconst (v := 0) hx hb dX0_placeOf_0 (by decide) ?_
  refine lv_istore (lv' := [(4, .int 0), (0, .ref (ad g 6)), (1, .int a1), (2, .int a2), (3, .int a3)]) hx hb dX0_placeOf_1 hl (by decide) rfl (fun ls hl => ?_)
  refine lv_iconst (v := 0) hx hb dX0_placeOf_3 (by decide) ?_
  refine lv_istore (lv' := [(5, .int 0), (4, .int 0), (0, .ref (ad g 6)), (1, .int a1), (2, .int a2), (3, .int a3)]) hx hb dX0_placeOf_4 hl (by decide) rfl (fun ls hl => ?_)
  obtain ⟨x9, he10, h⟩ := mbv_some h
  refine tl_vs_Acts_placeOf_6 μ a1 a2 a3 hC (fun ls H locs hl hW => ?_) FU (0, 0) he10 _ _ _ (lv_sub hl [2, 3, 4, 5, 1, 0] rfl) hW
  refine lv_iload hx hb dX0_placeOf_63 (lv_at hl 0 rfl) ?_
  cases h
  exact kr_iret hC hr hlocks hW dX0_placeOf_65
set_option maxHeartbeats 4000000 in
set_option maxRecDepth 100000 in
theorem t_vs_where {l : Launch} {g : Gx} {A : Nat → Prop} {μ : Mm} {a1 : Int32} {a2 : Int32} {a3 : Int32} {v : Int32} (h : vs_where μ a1 a2 a3 = some v) : Cti l g A wx yX11_where cX11_where 4 (some .int) 2 [.ref (ad g 0), .int a1, .int a2, .int a3] μ v μ := by
  refine ent (lv := [(0, .ref (ad g 0)), (1, .int a1), (2, .int a2), (3, .int a3)]) (by decide) (Nat.le_of_ble_eq_true rfl) rfl ?_
  intro p e s m args below meth c hC hr hlocks hnm hW ls hl
  replace hC : Cx g RX11 cX11_where 4 p s m args c := hC
  obtain ⟨hx, hb, hml, hown, hts, hK, hN⟩ := id hC
  unfold vs_where at h
  refine lv_aload_n hx hb dX11_where_0 rfl (lv_at hl 0 rfl) ?_
  refine gf_X11_19_x0 hC hW dX11_where_1 ?_
  refine lv_iload_n hx hb dX11_where_4 rfl (lv_at hl 1 rfl) ?_
  obtain ⟨x1, hx1, h⟩ := mbv_some h
  refine kr_ci hC hW (kr_runV hC hW hl.1 (t_vs_Books_has hx1) cw_X11_185 (wx_2 g μ) rfl rfl rfl (Nat.le_of_ble_eq_true rfl) dX11_where_5 (by decide)) (fun H locs hW => ?_)
  refine lv_if_eq (tgt := 34) hx hb dX11_where_8 (by decide) (fun hc2 => ?_) (fun hc2 => ?_)
  · replace h := if_p hc2 h
    refine lv_iconst (v := (-1)) hx hb dX11_where_34 (by decide) ?_
    cases h
    exact kr_iret hC hr hlocks hW dX11_where_35
  · replace h := if_n hc2 h
    refine lv_iload_n hx hb dX11_where_11 rfl (lv_at hl 2 rfl) ?_
    refine lv_iconst (v := 0) hx hb dX11_where_12 (by decide) ?_
    refine lv_aload_n hx hb dX11_where_13 rfl (lv_at hl 0 rfl) ?_
    refine gf_X11_96_x0 hC hW dX11_where_14 ?_
    obtain ⟨x3, hx3, h⟩ := mbv_some h
    refine kr_ci hC hW (kr_runS hC hW hl.1 (t_vs_within hx3) cw_X11_100 rfl rfl (Nat.le_of_ble_eq_true rfl) dX11_where_17 (by decide)) (fun H locs hW => ?_)
    refine lv_if_eq (tgt := 34) hx hb dX11_where_20 (by decide) (fun hc4 => ?_) (fun hc4 => ?_)
    · replace h := if_p hc4 h
      refine lv_iconst (v := (-1)) hx hb dX11_where_34 (by decide) ?_
      cases h
      exact kr_iret hC hr hlocks hW dX11_where_35
    · replace h := if_n hc4 h
      refine lv_iload_n hx hb dX11_where_23 rfl (lv_at hl 3 rfl) ?_
      refine lv_iload_n hx hb dX11_where_24 rfl (lv_at hl 2 rfl) ?_
      refine lv_sipush (v := 199) hx hb dX11_where_25 (by decide) ?_
      obtain ⟨x5, hx5, h⟩ := mbv_some h
      refine kr_ci hC hW (kr_runS hC hW hl.1 (t_vs_within hx5) cw_X11_100 rfl rfl (Nat.le_of_ble_eq_true rfl) dX11_where_28 (by decide)) (fun H locs hW => ?_)
      refine lv_if_ne (tgt := 36) hx hb dX11_where_31 (by decide) (fun hc6 => ?_) (fun hc6 => ?_)
      · replace h := if_n hc6 h
        refine lv_aload_n hx hb dX11_where_36 rfl (lv_at hl 0 rfl) ?_
        refine gf_X11_47_x0 hC hW dX11_where_37 ?_
        refine lv_iload_n hx hb dX11_where_40 rfl (lv_at hl 1 rfl) ?_
        refine lv_iload_n hx hb dX11_where_41 rfl (lv_at hl 2 rfl) ?_
        refine lv_iload_n hx hb dX11_where_42 rfl (lv_at hl 3 rfl) ?_
        obtain ⟨x7, hx7, h⟩ := mbv_some h
        refine kr_ci hC hW (kr_runV hC hW hl.1 (t_vs_Acts_placeOf hx7) cw_X11_388 (wx_6 g μ) rfl rfl rfl (Nat.le_of_ble_eq_true rfl) dX11_where_43 (by decide)) (fun H locs hW => ?_)
        cases h
        exact kr_iret hC hr hlocks hW dX11_where_46
      · replace h := if_p hc6 h
        refine lv_iconst (v := (-1)) hx hb dX11_where_34 (by decide) ?_
        cases h
        exact kr_iret hC hr hlocks hW dX11_where_35
set_option maxHeartbeats 4000000 in
set_option maxRecDepth 100000 in
theorem tl_vs_borrowersOf_4 (μ : Mm) (a1 : Int32) (hC : Cx g RX11 cX11_borrowersOf 4 p s m args c) {e0 : (Int32)} (kx0 : ∀ (ls : Array Slot) (H : Heap) (locs : List Loc), lv_has ls 4 [(2, .int e0)] → wP g wx A s.heap μ H locs → W p l e (rmD 0) s m args below meth c H locs 0 0 Q (F0 m 49 ls [])) : ∀ (n : Nat) (q : Int32 × Int32), miter (fun q => vs_borrowersOf_b4 μ a1 q.1 q.2) n q = some e0 → ∀ (ls : Array Slot) (H : Heap) (locs : List Loc), lv_has ls 4 [(0, .ref (ad g 0)), (1, .int a1), (2, .int q.1), (3, .int q.2)] → wP g wx A s.heap μ H locs → W p l e (rmD 0) s m args below meth c H locs 0 0 Q (F0 m 4 ls []) := by
  obtain ⟨hx, hb, hml, hown, hts, hK, hN⟩ := id hC
  refine miter_ind (fun q r hf k1 k2 => ?_)
  obtain ⟨xs2, xs3⟩ := q
  intro ls H locs hl hW
  have h : vs_borrowersOf_b4 μ a1 xs2 xs3 = some r := hf
  unfold vs_borrowersOf_b4 at h
  refine lv_iload_n hx hb dX11_borrowersOf_4 rfl (lv_at hl 3 rfl) ?_
  refine lv_aload_n hx hb dX11_borrowersOf_5 rfl (lv_at hl 0 rfl) ?_
  refine gf_X11_26_x0 hC hW dX11_borrowersOf_6 ?_
  refine gf_X11_278_x3 hC hW dX11_borrowersOf_9 ?_
  refine lv_icmp_ge (tgt := 49) hx hb dX11_borrowersOf_12 (by decide) (fun hc1 => ?_) (fun hc1 => ?_)
  · replace h := if_p hc1 h
    obtain rfl := k2 _ (Option.some.inj h).symm
    exact kx0 _ _ _ (lv_sub hl [2] rfl) hW
  · replace h := if_n hc1 h
    refine lv_aload_n hx hb dX11_borrowersOf_15 rfl (lv_at hl 0 rfl) ?_
    refine gf_X11_26_x0 hC hW dX11_borrowersOf_16 ?_
    refine gf_X11_202_x3 hC hW dX11_borrowersOf_19 ?_
    refine lv_iload_n hx hb dX11_borrowersOf_22 rfl (lv_at hl 3 rfl) ?_
    obtain ⟨x2, ex2, hin, h⟩ := mrd_ex h
    refine kr_iald hC hW (wx_25 g μ) hin ex2 dX11_borrowersOf_23 ?_
    refine lv_iload_n hx hb dX11_borrowersOf_24 rfl (lv_at hl 1 rfl) ?_
    refine lv_icmp_ne (tgt := 43) hx hb dX11_borrowersOf_25 (by decide) (fun hc3 => ?_) (fun hc3 => ?_)
    · replace h := if_n hc3 h
      refine lv_iinc (v := (xs3 + 1)) (lv' := [(3, .int (xs3 + 1)), (0, .ref (ad g 0)), (1, .int a1), (2, .int xs2)]) hx hb dX11_borrowersOf_43 hl (k := 3) rfl (by rw [oi_1]) (by decide) rfl (fun ls hl => ?_)
      refine lv_goto (tgt := 4) hx hb dX11_borrowersOf_46 (by decide) ?_
      exact k1 (xs2, (xs3 + 1)) (Option.some.inj h).symm _ _ _ (lv_sub hl [1, 2, 3, 0] rfl) hW
    · replace h := if_p hc3 h
      refine lv_aload_n hx hb dX11_borrowersOf_28 rfl (lv_at hl 0 rfl) ?_
      refine gf_X11_26_x0 hC hW dX11_borrowersOf_29 ?_
      refine gf_X11_214_x3 hC hW dX11_borrowersOf_32 ?_
      refine lv_iload_n hx hb dX11_borrowersOf_35 rfl (lv_at hl 3 rfl) ?_
      obtain ⟨x4, ex4, hin, h⟩ := mrd_ex h
      refine kr_iald hC hW (wx_30 g μ) hin ex4 dX11_borrowersOf_36 ?_
      refine lv_if_le (tgt := 43) hx hb dX11_borrowersOf_37 (by decide) (fun hc5 => ?_) (fun hc5 => ?_)
      · replace h := if_p hc5 h
        refine lv_iinc (v := (xs3 + 1)) (lv' := [(3, .int (xs3 + 1)), (0, .ref (ad g 0)), (1, .int a1), (2, .int xs2)]) hx hb dX11_borrowersOf_43 hl (k := 3) rfl (by rw [oi_1]) (by decide) rfl (fun ls hl => ?_)
        refine lv_goto (tgt := 4) hx hb dX11_borrowersOf_46 (by decide) ?_
        exact k1 (xs2, (xs3 + 1)) (Option.some.inj h).symm _ _ _ (lv_sub hl [1, 2, 3, 0] rfl) hW
      · replace h := if_n hc5 h
        refine lv_iinc (v := (xs2 + 1)) (lv' := [(2, .int (xs2 + 1)), (0, .ref (ad g 0)), (1, .int a1), (3, .int xs3)]) hx hb dX11_borrowersOf_40 hl (k := 2) rfl (by rw [oi_1]) (by decide) rfl (fun ls hl => ?_)
        refine lv_iinc (v := (xs3 + 1)) (lv' := [(3, .int (xs3 + 1)), (2, .int (xs2 + 1)), (0, .ref (ad g 0)), (1, .int a1)]) hx hb dX11_borrowersOf_43 hl (k := 3) rfl (by rw [oi_1]) (by decide) rfl (fun ls hl => ?_)
        refine lv_goto (tgt := 4) hx hb dX11_borrowersOf_46 (by decide) ?_
        exact k1 ((xs2 + 1), (xs3 + 1)) (Option.some.inj h).symm _ _ _ (lv_sub hl [2, 3, 1, 0] rfl) hW
set_option maxHeartbeats 4000000 in
set_option maxRecDepth 100000 in
theorem t_vs_borrowersOf {l : Launch} {g : Gx} {A : Nat → Prop} {μ : Mm} {a1 : Int32} {v : Int32} (h : vs_borrowersOf μ a1 = some v) : Cti l g A wx yX11_borrowersOf cX11_borrowersOf 4 (some .int) 0 [.ref (ad g 0), .int a1] μ v μ := by
  refine ent (lv := [(0, .ref (ad g 0)), (1, .int a1)]) (by decide) (Nat.le_of_ble_eq_true rfl) rfl ?_
  intro p e s m args below meth c hC hr hlocks hnm hW ls hl
  replace hC : Cx g RX11 cX11_borrowersOf 4 p s m args c := hC
  obtain ⟨hx, hb, hml, hown, hts, hK, hN⟩ := id hC
  unfold vs_borrowersOf at h
  refine lv_iconst (v := 0) hx hb dX11_borrowersOf_0 (by decide) ?_
  refine lv_istore_n (lv' := [(2, .int 0), (0, .ref (ad g 0)), (1, .int a1)]) hx hb dX11_borrowersOf_1 rfl hl (by decide) rfl (fun ls hl => ?_)
  refine lv_iconst (v := 0) hx hb dX11_borrowersOf_2 (by decide) ?_
  refine lv_istore_n (lv' := [(3, .int 0), (2, .int 0), (0, .ref (ad g 0)), (1, .int a1)]) hx hb dX11_borrowersOf_3 rfl hl (by decide) rfl (fun ls hl => ?_)
  obtain ⟨x6, he7, h⟩ := mbv_some h
  refine tl_vs_borrowersOf_4 μ a1 hC (fun ls H locs hl hW => ?_) FU (0, 0) he7 _ _ _ (lv_sub hl [2, 3, 1, 0] rfl) hW
  refine lv_iload_n hx hb dX11_borrowersOf_49 rfl (lv_at hl 0 rfl) ?_
  cases h
  exact kr_iret hC hr hlocks hW dX11_borrowersOf_50
set_option maxHeartbeats 4000000 in
set_option maxRecDepth 100000 in
theorem tl_vs_Books_loansOfKind_4 (μ : Mm) (a1 : Int32) (hC : Cx g RX2 cX2_loansOfKind 4 p s m args c) {e0 : (Int32)} (kx0 : ∀ (ls : Array Slot) (H : Heap) (locs : List Loc), lv_has ls 4 [(2, .int e0)] → wP g wx A s.heap μ H locs → W p l e (rmD 0) s m args below meth c H locs 0 0 Q (F0 m 37 ls [])) : ∀ (n : Nat) (q : Int32 × Int32), miter (fun q => vs_Books_loansOfKind_b4 μ a1 q.1 q.2) n q = some e0 → ∀ (ls : Array Slot) (H : Heap) (locs : List Loc), lv_has ls 4 [(0, .ref (ad g 2)), (1, .int a1), (2, .int q.1), (3, .int q.2)] → wP g wx A s.heap μ H locs → W p l e (rmD 0) s m args below meth c H locs 0 0 Q (F0 m 4 ls []) := by
  obtain ⟨hx, hb, hml, hown, hts, hK, hN⟩ := id hC
  refine miter_ind (fun q r hf k1 k2 => ?_)
  obtain ⟨xs2, xs3⟩ := q
  intro ls H locs hl hW
  have h : vs_Books_loansOfKind_b4 μ a1 xs2 xs3 = some r := hf
  unfold vs_Books_loansOfKind_b4 at h
  refine lv_iload_n hx hb dX2_loansOfKind_4 rfl (lv_at hl 3 rfl) ?_
  refine lv_aload_n hx hb dX2_loansOfKind_5 rfl (lv_at hl 0 rfl) ?_
  refine gf_X2_42_x2 hC hW dX2_loansOfKind_6 ?_
  refine lv_icmp_ge (tgt := 37) hx hb dX2_loansOfKind_9 (by decide) (fun hc1 => ?_) (fun hc1 => ?_)
  · replace h := if_p hc1 h
    obtain rfl := k2 _ (Option.some.inj h).symm
    exact kx0 _ _ _ (lv_sub hl [2] rfl) hW
  · replace h := if_n hc1 h
    refine lv_aload_n hx hb dX2_loansOfKind_12 rfl (lv_at hl 0 rfl) ?_
    refine gf_X2_9_x2 hC hW dX2_loansOfKind_13 ?_
    refine lv_iload_n hx hb dX2_loansOfKind_16 rfl (lv_at hl 3 rfl) ?_
    obtain ⟨x2, ex2, hin, h⟩ := mrd_ex h
    refine kr_iald hC hW (wx_15 g μ) hin ex2 dX2_loansOfKind_17 ?_
    refine lv_iload_n hx hb dX2_loansOfKind_18 rfl (lv_at hl 1 rfl) ?_
    refine lv_icmp_ne (tgt := 31) hx hb dX2_loansOfKind_19 (by decide) (fun hc3 => ?_) (fun hc3 => ?_)
    · replace h := if_n hc3 h
      refine lv_iinc (v := (xs3 + 1)) (lv' := [(3, .int (xs3 + 1)), (0, .ref (ad g 2)), (1, .int a1), (2, .int xs2)]) hx hb dX2_loansOfKind_31 hl (k := 3) rfl (by rw [oi_1]) (by decide) rfl (fun ls hl => ?_)
      refine lv_goto (tgt := 4) hx hb dX2_loansOfKind_34 (by decide) ?_
      exact k1 (xs2, (xs3 + 1)) (Option.some.inj h).symm _ _ _ (lv_sub hl [1, 2, 3, 0] rfl) hW
    · replace h := if_p hc3 h
      refine lv_iload_n hx hb dX2_loansOfKind_22 rfl (lv_at hl 2 rfl) ?_
      refine lv_aload_n hx hb dX2_loansOfKind_23 rfl (lv_at hl 0 rfl) ?_
      refine gf_X2_30_x2 hC hW dX2_loansOfKind_24 ?_
      refine lv_iload_n hx hb dX2_loansOfKind_27 rfl (lv_at hl 3 rfl) ?_
      obtain ⟨x4, ex4, hin, h⟩ := mrd_ex h
      refine kr_iald hC hW (wx_21 g μ) hin ex4 dX2_loansOfKind_28 ?_
      refine lv_iadd hx hb dX2_loansOfKind_29 ?_
      refine lv_istore_n (lv' := [(2, .int (xs2 + x4)), (0, .ref (ad g 2)), (1, .int a1), (3, .int xs3)]) hx hb dX2_loansOfKind_30 rfl hl (by decide) rfl (fun ls hl => ?_)
      refine lv_iinc (v := (xs3 + 1)) (lv' := [(3, .int (xs3 + 1)), (2, .int (xs2 + x4)), (0, .ref (ad g 2)), (1, .int a1)]) hx hb dX2_loansOfKind_31 hl (k := 3) rfl (by rw [oi_1]) (by decide) rfl (fun ls hl => ?_)
      refine lv_goto (tgt := 4) hx hb dX2_loansOfKind_34 (by decide) ?_
      exact k1 ((xs2 + x4), (xs3 + 1)) (Option.some.inj h).symm _ _ _ (lv_sub hl [2, 3, 1, 0] rfl) hW
set_option maxHeartbeats 4000000 in
set_option maxRecDepth 100000 in
theorem t_vs_Books_loansOfKind {l : Launch} {g : Gx} {A : Nat → Prop} {μ : Mm} {a1 : Int32} {v : Int32} (h : vs_Books_loansOfKind μ a1 = some v) : Cti l g A wx yX2_loansOfKind cX2_loansOfKind 4 (some .int) 0 [.ref (ad g 2), .int a1] μ v μ := by
  refine ent (lv := [(0, .ref (ad g 2)), (1, .int a1)]) (by decide) (Nat.le_of_ble_eq_true rfl) rfl ?_
  intro p e s m args below meth c hC hr hlocks hnm hW ls hl
  replace hC : Cx g RX2 cX2_loansOfKind 4 p s m args c := hC
  obtain ⟨hx, hb, hml, hown, hts, hK, hN⟩ := id hC
  unfold vs_Books_loansOfKind at h
  refine lv_iconst (v := 0) hx hb dX2_loansOfKind_0 (by decide) ?_
  refine lv_istore_n (lv' := [(2, .int 0), (0, .ref (ad g 2)), (1, .int a1)]) hx hb dX2_loansOfKind_1 rfl hl (by decide) rfl (fun ls hl => ?_)
  refine lv_iconst (v := 0) hx hb dX2_loansOfKind_2 (by decide) ?_
  refine lv_istore_n (lv' := [(3, .int 0), (2, .int 0), (0, .ref (ad g 2)), (1, .int a1)]) hx hb dX2_loansOfKind_3 rfl hl (by decide) rfl (fun ls hl => ?_)
  obtain ⟨x5, he6, h⟩ := mbv_some h
  refine tl_vs_Books_loansOfKind_4 μ a1 hC (fun ls H locs hl hW => ?_) FU (0, 0) he6 _ _ _ (lv_sub hl [2, 3, 1, 0] rfl) hW
  refine lv_iload_n hx hb dX2_loansOfKind_37 rfl (lv_at hl 0 rfl) ?_
  cases h
  exact kr_iret hC hr hlocks hW dX2_loansOfKind_38
set_option maxHeartbeats 4000000 in
set_option maxRecDepth 100000 in
theorem t_vs_counts {l : Launch} {g : Gx} {A : Nat → Prop} {μ : Mm} {a1 : Int32} {a2 : Int32} {v : Int32} (h : vs_counts μ a1 a2 = some v) : Cti l g A wx yX11_counts cX11_counts 3 (some .int) 2 [.ref (ad g 0), .int a1, .int a2] μ v μ := by
  refine ent (lv := [(0, .ref (ad g 0)), (1, .int a1), (2, .int a2)]) (by decide) (Nat.le_of_ble_eq_true rfl) rfl ?_
  intro p e s m args below meth c hC hr hlocks hnm hW ls hl
  replace hC : Cx g RX11 cX11_counts 3 p s m args c := hC
  obtain ⟨hx, hb, hml, hown, hts, hK, hN⟩ := id hC
  unfold vs_counts at h
  refine lv_iload_n hx hb dX11_counts_0 rfl (lv_at hl 1 rfl) ?_
  by_cases hc1 : a1 = 0
  · replace h := if_p hc1 h
    refine lv_tableIn (off := 39) (tgt := 40) hx hb dX11_counts_1 (by rw [hc1]; decide) (by rw [hc1]; decide) (by rw [hc1]; rfl) (by decide) ?_
    refine lv_aload_n hx hb dX11_counts_40 rfl (lv_at hl 0 rfl) ?_
    refine gf_X11_33_x0 hC hW dX11_counts_41 ?_
    refine lv_iload_n hx hb dX11_counts_44 rfl (lv_at hl 2 rfl) ?_
    obtain ⟨x2, hx2, h⟩ := mbv_some h
    refine kr_ci hC hW (kr_runV hC hW hl.1 (t_vs_Stops_has hx2) cw_X11_119 (wx_4 g μ) rfl rfl rfl (Nat.le_of_ble_eq_true rfl) dX11_counts_45 (by decide)) (fun H locs hW => ?_)
    refine lv_if_eq (tgt := 59) hx hb dX11_counts_48 (by decide) (fun hc3 => ?_) (fun hc3 => ?_)
    · replace h := if_p hc3 h
      refine lv_iconst (v := (-1)) hx hb dX11_counts_59 (by decide) ?_
      cases h
      exact kr_iret hC hr hlocks hW dX11_counts_60
    · replace h := if_n hc3 h
      refine lv_aload_n hx hb dX11_counts_51 rfl (lv_at hl 0 rfl) ?_
      refine lv_iload_n hx hb dX11_counts_52 rfl (lv_at hl 2 rfl) ?_
      obtain ⟨x4, hx4, h⟩ := mbv_some h
      refine kr_ci hC hW (kr_runV hC hW hl.1 (t_vs_loansOf hx4) cw_X11_365 (wx_0 g μ) rfl rfl rfl (Nat.le_of_ble_eq_true rfl) dX11_counts_53 (by decide)) (fun H locs hW => ?_)
      refine lv_goto (tgt := 60) hx hb dX11_counts_56 (by decide) ?_
      cases h
      exact kr_iret hC hr hlocks hW dX11_counts_60
  replace h := if_n hc1 h
  by_cases hc5 : a1 = 1
  · replace h := if_p hc5 h
    refine lv_tableIn (off := 60) (tgt := 61) hx hb dX11_counts_1 (by rw [hc5]; decide) (by rw [hc5]; decide) (by rw [hc5]; rfl) (by decide) ?_
    refine lv_iload_n hx hb dX11_counts_61 rfl (lv_at hl 2 rfl) ?_
    refine lv_iconst (v := 0) hx hb dX11_counts_62 (by decide) ?_
    refine lv_bipush (v := 7) hx hb dX11_counts_63 (by decide) ?_
    obtain ⟨x6, hx6, h⟩ := mbv_some h
    refine kr_ci hC hW (kr_runS hC hW hl.1 (t_vs_within hx6) cw_X11_100 rfl rfl (Nat.le_of_ble_eq_true rfl) dX11_counts_65 (by decide)) (fun H locs hW => ?_)
    refine lv_if_eq (tgt := 82) hx hb dX11_counts_68 (by decide) (fun hc7 => ?_) (fun hc7 => ?_)
    · replace h := if_p hc7 h
      refine lv_iconst (v := (-1)) hx hb dX11_counts_82 (by decide) ?_
      cases h
      exact kr_iret hC hr hlocks hW dX11_counts_83
    · replace h := if_n hc7 h
      refine lv_aload_n hx hb dX11_counts_71 rfl (lv_at hl 0 rfl) ?_
      refine gf_X11_19_x0 hC hW dX11_counts_72 ?_
      refine lv_iload_n hx hb dX11_counts_75 rfl (lv_at hl 2 rfl) ?_
      obtain ⟨x8, hx8, h⟩ := mbv_some h
      refine kr_ci hC hW (kr_runV hC hW hl.1 (t_vs_Books_loansOfKind hx8) cw_X11_391 (wx_2 g μ) rfl rfl rfl (Nat.le_of_ble_eq_true rfl) dX11_counts_76 (by decide)) (fun H locs hW => ?_)
      refine lv_goto (tgt := 83) hx hb dX11_counts_79 (by decide) ?_
      cases h
      exact kr_iret hC hr hlocks hW dX11_counts_83
  replace h := if_n hc5 h
  by_cases hc9 : a1 = 2
  · replace h := if_p hc9 h
    refine lv_tableIn (off := 83) (tgt := 84) hx hb dX11_counts_1 (by rw [hc9]; decide) (by rw [hc9]; decide) (by rw [hc9]; rfl) (by decide) ?_
    refine lv_iload_n hx hb dX11_counts_84 rfl (lv_at hl 2 rfl) ?_
    obtain ⟨x10, hx10, h⟩ := mbv_some h
    refine kr_ci hC hW (kr_runS hC hW hl.1 (t_vs_isVan hx10) cw_X11_108 rfl rfl (Nat.le_of_ble_eq_true rfl) dX11_counts_85 (by decide)) (fun H locs hW => ?_)
    refine lv_if_eq (tgt := 100) hx hb dX11_counts_88 (by decide) (fun hc11 => ?_) (fun hc11 => ?_)
    · replace h := if_p hc11 h
      refine lv_iconst (v := (-1)) hx hb dX11_counts_100 (by decide) ?_
      cases h
      exact kr_iret hC hr hlocks hW dX11_counts_101
    · replace h := if_n hc11 h
      refine lv_aload_n hx hb dX11_counts_91 rfl (lv_at hl 0 rfl) ?_
      refine gf_X11_86_x0 hC hW dX11_counts_92 ?_
      refine lv_iload_n hx hb dX11_counts_95 rfl (lv_at hl 2 rfl) ?_
      obtain ⟨x12, ex12, hin, h⟩ := mrd_ex h
      refine kr_iald hC hW (wx_13 g μ) hin ex12 dX11_counts_96 ?_
      refine lv_goto (tgt := 101) hx hb dX11_counts_97 (by decide) ?_
      cases h
      exact kr_iret hC hr hlocks hW dX11_counts_101
  replace h := if_n hc9 h
  by_cases hc13 : a1 = 3
  · replace h := if_p hc13 h
    refine lv_tableIn (off := 101) (tgt := 102) hx hb dX11_counts_1 (by rw [hc13]; decide) (by rw [hc13]; decide) (by rw [hc13]; rfl) (by decide) ?_
    refine lv_aload_n hx hb dX11_counts_102 rfl (lv_at hl 0 rfl) ?_
    refine gf_X11_33_x0 hC hW dX11_counts_103 ?_
    refine lv_iload_n hx hb dX11_counts_106 rfl (lv_at hl 2 rfl) ?_
    obtain ⟨x14, hx14, h⟩ := mbv_some h
    refine kr_ci hC hW (kr_runV hC hW hl.1 (t_vs_Stops_has hx14) cw_X11_119 (wx_4 g μ) rfl rfl rfl (Nat.le_of_ble_eq_true rfl) dX11_counts_107 (by decide)) (fun H locs hW => ?_)
    refine lv_if_eq (tgt := 121) hx hb dX11_counts_110 (by decide) (fun hc15 => ?_) (fun hc15 => ?_)
    · replace h := if_p hc15 h
      refine lv_iconst (v := (-1)) hx hb dX11_counts_121 (by decide) ?_
      cases h
      exact kr_iret hC hr hlocks hW dX11_counts_122
    · replace h := if_n hc15 h
      refine lv_aload_n hx hb dX11_counts_113 rfl (lv_at hl 0 rfl) ?_
      refine lv_iload_n hx hb dX11_counts_114 rfl (lv_at hl 2 rfl) ?_
      obtain ⟨x16, hx16, h⟩ := mbv_some h
      refine kr_ci hC hW (kr_runV hC hW hl.1 (t_vs_borrowersOf hx16) cw_X11_394 (wx_0 g μ) rfl rfl rfl (Nat.le_of_ble_eq_true rfl) dX11_counts_115 (by decide)) (fun H locs hW => ?_)
      refine lv_goto (tgt := 122) hx hb dX11_counts_118 (by decide) ?_
      cases h
      exact kr_iret hC hr hlocks hW dX11_counts_122
  replace h := if_n hc13 h
  by_cases hc17 : a1 = 4
  · replace h := if_p hc17 h
    refine lv_tableIn (off := 122) (tgt := 123) hx hb dX11_counts_1 (by rw [hc17]; decide) (by rw [hc17]; decide) (by rw [hc17]; rfl) (by decide) ?_
    refine lv_aload_n hx hb dX11_counts_123 rfl (lv_at hl 0 rfl) ?_
    refine gf_X11_33_x0 hC hW dX11_counts_124 ?_
    refine lv_iload_n hx hb dX11_counts_127 rfl (lv_at hl 2 rfl) ?_
    obtain ⟨x18, hx18, h⟩ := mbv_some h
    refine kr_ci hC hW (kr_runV hC hW hl.1 (t_vs_Stops_has hx18) cw_X11_119 (wx_4 g μ) rfl rfl rfl (Nat.le_of_ble_eq_true rfl) dX11_counts_128 (by decide)) (fun H locs hW => ?_)
    refine lv_if_eq (tgt := 146) hx hb dX11_counts_131 (by decide) (fun hc19 => ?_) (fun hc19 => ?_)
    · replace h := if_p hc19 h
      refine lv_iconst (v := (-1)) hx hb dX11_counts_146 (by decide) ?_
      cases h
      exact kr_iret hC hr hlocks hW dX11_counts_147
    · replace h := if_n hc19 h
      refine lv_aload_n hx hb dX11_counts_134 rfl (lv_at hl 0 rfl) ?_
      refine gf_X11_33_x0 hC hW dX11_counts_135 ?_
      refine gf_X11_230_x4 hC hW dX11_counts_138 ?_
      refine lv_iload_n hx hb dX11_counts_141 rfl (lv_at hl 2 rfl) ?_
      obtain ⟨x20, ex20, hin, h⟩ := mrd_ex h
      refine kr_iald hC hW (wx_40 g μ) hin ex20 dX11_counts_142 ?_
      refine lv_goto (tgt := 147) hx hb dX11_counts_143 (by decide) ?_
      cases h
      exact kr_iret hC hr hlocks hW dX11_counts_147
  replace h := if_n hc17 h
  by_cases hc21 : a1 = 5
  · replace h := if_p hc21 h
    refine lv_tableIn (off := 147) (tgt := 148) hx hb dX11_counts_1 (by rw [hc21]; decide) (by rw [hc21]; decide) (by rw [hc21]; rfl) (by decide) ?_
    refine lv_iload_n hx hb dX11_counts_148 rfl (lv_at hl 2 rfl) ?_
    refine lv_if_ne (tgt := 175) hx hb dX11_counts_149 (by decide) (fun hc22 => ?_) (fun hc22 => ?_)
    · replace h := if_n hc22 h
      refine lv_iconst (v := (-1)) hx hb dX11_counts_175 (by decide) ?_
      cases h
      exact kr_iret hC hr hlocks hW dX11_counts_176
    · replace h := if_p hc22 h
      refine lv_aload_n hx hb dX11_counts_152 rfl (lv_at hl 0 rfl) ?_
      refine gf_X11_86_x0 hC hW dX11_counts_153 ?_
      refine lv_iconst (v := 0) hx hb dX11_counts_156 (by decide) ?_
      obtain ⟨x23, ex23, hin, h⟩ := mrd_ex h
      refine kr_iald hC hW (wx_13 g μ) hin ex23 dX11_counts_157 ?_
      refine lv_aload_n hx hb dX11_counts_158 rfl (lv_at hl 0 rfl) ?_
      refine gf_X11_86_x0 hC hW dX11_counts_159 ?_
      refine lv_iconst (v := 1) hx hb dX11_counts_162 (by decide) ?_
      obtain ⟨x24, ex24, hin, h⟩ := mrd_ex h
      refine kr_iald hC hW (wx_13 g μ) hin ex24 dX11_counts_163 ?_
      refine lv_iadd hx hb dX11_counts_164 ?_
      refine lv_aload_n hx hb dX11_counts_165 rfl (lv_at hl 0 rfl) ?_
      refine gf_X11_86_x0 hC hW dX11_counts_166 ?_
      refine lv_iconst (v := 2) hx hb dX11_counts_169 (by decide) ?_
      obtain ⟨x25, ex25, hin, h⟩ := mrd_ex h
      refine kr_iald hC hW (wx_13 g μ) hin ex25 dX11_counts_170 ?_
      refine lv_iadd hx hb dX11_counts_171 ?_
      refine lv_goto (tgt := 176) hx hb dX11_counts_172 (by decide) ?_
      cases h
      exact kr_iret hC hr hlocks hW dX11_counts_176
  replace h := if_n hc21 h
  have thc1 := lv_neT (a := 0) hc1 (by decide)
  have thc5 := lv_neT (a := 1) hc5 (by decide)
  have thc9 := lv_neT (a := 2) hc9 (by decide)
  have thc13 := lv_neT (a := 3) hc13 (by decide)
  have thc17 := lv_neT (a := 4) hc17 (by decide)
  have thc21 := lv_neT (a := 5) hc21 (by decide)
  refine lv_tableOut (tgt := 177) hx hb dX11_counts_1 (by omega) (by decide) ?_
  refine lv_iconst (v := (-1)) hx hb dX11_counts_177 (by decide) ?_
  cases h
  exact kr_iret hC hr hlocks hW dX11_counts_178
set_option maxHeartbeats 4000000 in
set_option maxRecDepth 100000 in
theorem t_vs_council {l : Launch} {g : Gx} {A : Nat → Prop} {μ : Mm} {a1 : Int32} {a2 : Int32} {v : Int32} (h : vs_council μ a1 a2 = some v) : Cti l g A wx yX11_council cX11_council 4 (some .int) 2 [.ref (ad g 0), .int a1, .int a2] μ v μ := by
  refine ent (lv := [(0, .ref (ad g 0)), (1, .int a1), (2, .int a2)]) (by decide) (Nat.le_of_ble_eq_true rfl) rfl ?_
  intro p e s m args below meth c hC hr hlocks hnm hW ls hl
  replace hC : Cx g RX11 cX11_council 4 p s m args c := hC
  obtain ⟨hx, hb, hml, hown, hts, hK, hN⟩ := id hC
  unfold vs_council at h
  refine lv_aload_n hx hb dX11_council_0 rfl (lv_at hl 0 rfl) ?_
  refine gf_X11_33_x0 hC hW dX11_council_1 ?_
  refine lv_iload_n hx hb dX11_council_4 rfl (lv_at hl 1 rfl) ?_
  obtain ⟨x1, hx1, h⟩ := mbv_some h
  refine kr_ci hC hW (kr_runV hC hW hl.1 (t_vs_Stops_has hx1) cw_X11_119 (wx_4 g μ) rfl rfl rfl (Nat.le_of_ble_eq_true rfl) dX11_council_5 (by decide)) (fun H locs hW => ?_)
  refine lv_if_eq (tgt := 21) hx hb dX11_council_8 (by decide) (fun hc2 => ?_) (fun hc2 => ?_)
  · replace h := if_p hc2 h
    refine lv_iconst (v := (-1)) hx hb dX11_council_21 (by decide) ?_
    cases h
    exact kr_iret hC hr hlocks hW dX11_council_22
  · replace h := if_n hc2 h
    refine lv_iload_n hx hb dX11_council_11 rfl (lv_at hl 2 rfl) ?_
    refine lv_iconst (v := 1) hx hb dX11_council_12 (by decide) ?_
    refine lv_bipush (v := 16) hx hb dX11_council_13 (by decide) ?_
    obtain ⟨x3, hx3, h⟩ := mbv_some h
    refine kr_ci hC hW (kr_runS hC hW hl.1 (t_vs_within hx3) cw_X11_100 rfl rfl (Nat.le_of_ble_eq_true rfl) dX11_council_15 (by decide)) (fun H locs hW => ?_)
    refine lv_if_ne (tgt := 23) hx hb dX11_council_18 (by decide) (fun hc4 => ?_) (fun hc4 => ?_)
    · replace h := if_n hc4 h
      refine lv_aload_n hx hb dX11_council_23 rfl (lv_at hl 0 rfl) ?_
      refine gf_X11_33_x0 hC hW dX11_council_24 ?_
      refine gf_X11_129_x4 hC hW dX11_council_27 ?_
      refine lv_iload_n hx hb dX11_council_30 rfl (lv_at hl 1 rfl) ?_
      obtain ⟨x5, ex5, hin, h⟩ := mrd_ex h
      refine kr_iald hC hW (wx_39 g μ) hin ex5 dX11_council_31 ?_
      obtain ⟨x6, hx6, h⟩ := mbv_some h
      refine kr_ci hC hW (kr_runS hC hW hl.1 (t_vs_Integer_bitCount_0f7a4 hx6) cw_X11_241 rfl rfl (Nat.le_of_ble_eq_true rfl) dX11_council_32 (by decide)) (fun H locs hW => ?_)
      refine lv_istore_n (lv' := [(3, .int x6), (0, .ref (ad g 0)), (1, .int a1), (2, .int a2)]) hx hb dX11_council_35 rfl hl (by decide) rfl (fun ls hl => ?_)
      refine lv_iload_n hx hb dX11_council_36 rfl (lv_at hl 0 rfl) ?_
      refine lv_iload_n hx hb dX11_council_37 rfl (lv_at hl 3 rfl) ?_
      refine lv_icmp_ge (tgt := 45) hx hb dX11_council_38 (by decide) (fun hc7 => ?_) (fun hc7 => ?_)
      · replace h := if_p hc7 h
        refine lv_iload_n hx hb dX11_council_45 rfl (lv_at hl 0 rfl) ?_
        cases h
        exact kr_iret hC hr hlocks hW dX11_council_46
      · replace h := if_n hc7 h
        refine lv_iconst (v := 0) hx hb dX11_council_41 (by decide) ?_
        refine lv_goto (tgt := 46) hx hb dX11_council_42 (by decide) ?_
        cases h
        exact kr_iret hC hr hlocks hW dX11_council_46
    · replace h := if_p hc4 h
      refine lv_iconst (v := (-1)) hx hb dX11_council_21 (by decide) ?_
      cases h
      exact kr_iret hC hr hlocks hW dX11_council_22
set_option maxHeartbeats 4000000 in
set_option maxRecDepth 100000 in
theorem t_vs_Tape_byteAt {l : Launch} {g : Gx} {A : Nat → Prop} {μ : Mm} {a1 : Int32} {v : Int32} (h : vs_Tape_byteAt μ a1 = some v) : Cti l g A wx yX9_byteAt cX9_byteAt 2 (some .int) 1 [.ref (ad g 1), .int a1] μ v μ := by
  refine ent (lv := [(0, .ref (ad g 1)), (1, .int a1)]) (by decide) (Nat.le_of_ble_eq_true rfl) rfl ?_
  intro p e s m args below meth c hC hr hlocks hnm hW ls hl
  replace hC : Cx g RX9 cX9_byteAt 2 p s m args c := hC
  obtain ⟨hx, hb, hml, hown, hts, hK, hN⟩ := id hC
  unfold vs_Tape_byteAt at h
  refine lv_iload_n hx hb dX9_byteAt_0 rfl (lv_at hl 1 rfl) ?_
  refine lv_iconst (v := 0) hx hb dX9_byteAt_1 (by decide) ?_
  refine lv_aload_n hx hb dX9_byteAt_2 rfl (lv_at hl 0 rfl) ?_
  refine gf_X9_15_x1 hC hW dX9_byteAt_3 ?_
  refine lv_iconst (v := 1) hx hb dX9_byteAt_6 (by decide) ?_
  refine lv_isub hx hb dX9_byteAt_7 ?_
  obtain ⟨x1, hx1, h⟩ := mbv_some h
  refine kr_ci hC hW (kr_runN hC hW hl.1 (t_vs_within hx1) cw_X9_19 rfl rfl (Nat.le_of_ble_eq_true rfl) dX9_byteAt_8 (by decide)) (fun H locs hW => ?_)
  refine lv_if_eq (tgt := 23) hx hb dX9_byteAt_11 (by decide) (fun hc2 => ?_) (fun hc2 => ?_)
  · replace h := if_p hc2 h
    refine lv_iconst (v := (-1)) hx hb dX9_byteAt_23 (by decide) ?_
    cases h
    exact kr_iret hC hr hlocks hW dX9_byteAt_24
  · replace h := if_n hc2 h
    refine lv_aload_n hx hb dX9_byteAt_14 rfl (lv_at hl 0 rfl) ?_
    refine gf_X9_9_x1 hC hW dX9_byteAt_15 ?_
    refine lv_iload_n hx hb dX9_byteAt_18 rfl (lv_at hl 1 rfl) ?_
    obtain ⟨x3, ex3, hin, h⟩ := mrd_ex h
    refine kr_iald hC hW (wx_14 g μ) hin ex3 dX9_byteAt_19 ?_
    refine lv_goto (tgt := 24) hx hb dX9_byteAt_20 (by decide) ?_
    cases h
    exact kr_iret hC hr hlocks hW dX9_byteAt_24
set_option maxHeartbeats 4000000 in
set_option maxRecDepth 100000 in
theorem tl_vs_Tape_numberAt_4 (μ : Mm) (a1 : Int32) (hC : Cx g RX9 cX9_numberAt 4 p s m args c) {e0 : (Int32)} (kx0 : ∀ (ls : Array Slot) (H : Heap) (locs : List Loc), lv_has ls 4 [(2, .int e0)] → wP g wx A s.heap μ H locs → W p l e (rmD 2) s m args below meth c H locs 0 0 Q (F0 m 34 ls [])) : ∀ (n : Nat) (q : Int32 × Int32), miter (fun q => vs_Tape_numberAt_b4 μ a1 q.1 q.2) n q = some e0 → ∀ (ls : Array Slot) (H : Heap) (locs : List Loc), lv_has ls 4 [(0, .ref (ad g 1)), (1, .int a1), (2, .int q.1), (3, .int q.2)] → wP g wx A s.heap μ H locs → W p l e (rmD 2) s m args below meth c H locs 0 0 Q (F0 m 4 ls []) := by
  obtain ⟨hx, hb, hml, hown, hts, hK, hN⟩ := id hC
  refine miter_ind (fun q r hf k1 k2 => ?_)
  obtain ⟨xs2, xs3⟩ := q
  intro ls H locs hl hW
  have h : vs_Tape_numberAt_b4 μ a1 xs2 xs3 = some r := hf
  unfold vs_Tape_numberAt_b4 at h
  refine lv_iload_n hx hb dX9_numberAt_4 rfl (lv_at hl 3 rfl) ?_
  refine lv_iconst (v := 4) hx hb dX9_numberAt_5 (by decide) ?_
  refine lv_icmp_ge (tgt := 34) hx hb dX9_numberAt_6 (by decide) (fun hc1 => ?_) (fun hc1 => ?_)
  · replace h := if_p hc1 h
    obtain rfl := k2 _ (Option.some.inj h).symm
    exact kx0 _ _ _ (lv_sub hl [2] rfl) hW
  · replace h := if_n hc1 h
    refine lv_iload_n hx hb dX9_numberAt_9 rfl (lv_at hl 2 rfl) ?_
    refine lv_bipush (v := 8) hx hb dX9_numberAt_10 (by decide) ?_
    refine lv_ishl hx hb dX9_numberAt_12 ?_
    refine lv_aload_n hx hb dX9_numberAt_13 rfl (lv_at hl 0 rfl) ?_
    refine lv_iconst (v := 4) hx hb dX9_numberAt_14 (by decide) ?_
    refine lv_iload_n hx hb dX9_numberAt_15 rfl (lv_at hl 1 rfl) ?_
    refine lv_imul hx hb dX9_numberAt_16 ?_
    refine lv_iload_n hx hb dX9_numberAt_17 rfl (lv_at hl 3 rfl) ?_
    refine lv_iadd hx hb dX9_numberAt_18 ?_
    obtain ⟨x2, hx2, h⟩ := mbv_some h
    refine kr_ci hC hW (kr_runV hC hW hl.1 (t_vs_Tape_byteAt hx2) cw_X9_23 (wx_1 g μ) rfl rfl rfl (Nat.le_of_ble_eq_true rfl) dX9_numberAt_19 (by decide)) (fun H locs hW => ?_)
    refine lv_sipush (v := 255) hx hb dX9_numberAt_22 (by decide) ?_
    refine lv_iand hx hb dX9_numberAt_25 ?_
    refine lv_ior hx hb dX9_numberAt_26 ?_
    refine lv_istore_n (lv' := [(2, .int ((xs2 <<< (8 &&& 31)) ||| (x2 &&& 255))), (0, .ref (ad g 1)), (1, .int a1), (3, .int xs3)]) hx hb dX9_numberAt_27 rfl hl (by decide) rfl (fun ls hl => ?_)
    refine lv_iinc (v := (xs3 + 1)) (lv' := [(3, .int (xs3 + 1)), (2, .int ((xs2 <<< (8 &&& 31)) ||| (x2 &&& 255))), (0, .ref (ad g 1)), (1, .int a1)]) hx hb dX9_numberAt_28 hl (k := 3) rfl (by rw [oi_1]) (by decide) rfl (fun ls hl => ?_)
    refine lv_goto (tgt := 4) hx hb dX9_numberAt_31 (by decide) ?_
    exact k1 (((xs2 <<< (8 &&& 31)) ||| (x2 &&& 255)), (xs3 + 1)) (Option.some.inj h).symm _ _ _ (lv_sub hl [2, 3, 1, 0] rfl) hW
set_option maxHeartbeats 4000000 in
set_option maxRecDepth 100000 in
theorem t_vs_Tape_numberAt {l : Launch} {g : Gx} {A : Nat → Prop} {μ : Mm} {a1 : Int32} {v : Int32} (h : vs_Tape_numberAt μ a1 = some v) : Cti l g A wx yX9_numberAt cX9_numberAt 4 (some .int) 2 [.ref (ad g 1), .int a1] μ v μ := by
  refine ent (lv := [(0, .ref (ad g 1)), (1, .int a1)]) (by decide) (Nat.le_of_ble_eq_true rfl) rfl ?_
  intro p e s m args below meth c hC hr hlocks hnm hW ls hl
  replace hC : Cx g RX9 cX9_numberAt 4 p s m args c := hC
  obtain ⟨hx, hb, hml, hown, hts, hK, hN⟩ := id hC
  unfold vs_Tape_numberAt at h
  refine lv_iconst (v := 0) hx hb dX9_numberAt_0 (by decide) ?_
  refine lv_istore_n (lv' := [(2, .int 0), (0, .ref (ad g 1)), (1, .int a1)]) hx hb dX9_numberAt_1 rfl hl (by decide) rfl (fun ls hl => ?_)
  refine lv_iconst (v := 0) hx hb dX9_numberAt_2 (by decide) ?_
  refine lv_istore_n (lv' := [(3, .int 0), (2, .int 0), (0, .ref (ad g 1)), (1, .int a1)]) hx hb dX9_numberAt_3 rfl hl (by decide) rfl (fun ls hl => ?_)
  obtain ⟨x3, he4, h⟩ := mbv_some h
  refine tl_vs_Tape_numberAt_4 μ a1 hC (fun ls H locs hl hW => ?_) FU (0, 0) he4 _ _ _ (lv_sub hl [2, 3, 1, 0] rfl) hW
  refine lv_iload_n hx hb dX9_numberAt_34 rfl (lv_at hl 0 rfl) ?_
  cases h
  exact kr_iret hC hr hlocks hW dX9_numberAt_35
set_option maxHeartbeats 4000000 in
set_option maxRecDepth 100000 in
theorem tl_vs_firstWrong_2 (μ : Mm) (a1 : Int32) (hC : Cx g RX11 cX11_firstWrong 3 p s m args c) {e0 : (Int32) ⊕ (Int32) ⊕ (Int32) ⊕ (Unit)} (kx0 : (Sum.elim (fun a => ∀ (ls : Array Slot) (H : Heap) (locs : List Loc), lv_has ls 3 [(2, .int a)] → wP g wx A s.heap μ H locs → W p l e (rmD 3) s m args below meth c H locs 0 0 Q (F0 m 32 ls [])) (fun _ => True)) e0) (kx1 : (Sum.elim (fun _ => True) (Sum.elim (fun a => ∀ (ls : Array Slot) (H : Heap) (locs : List Loc), lv_has ls 3 [(2, .int a)] → wP g wx A s.heap μ H locs → W p l e (rmD 3) s m args below meth c H locs 0 0 Q (F0 m 60 ls [])) (fun _ => True))) e0) (kx2 : (Sum.elim (fun _ => True) (Sum.elim (fun _ => True) (Sum.elim (fun a => ∀ (ls : Array Slot) (H : Heap) (locs : List Loc), lv_has ls 3 [(2, .int a)] → wP g wx A s.heap μ H locs → W p l e (rmD 3) s m args below meth c H locs 0 0 Q (F0 m 90 ls [])) (fun _ => True)))) e0) (kx3 : (Sum.elim (fun _ => True) (Sum.elim (fun _ => True) (Sum.elim (fun _ => True) (fun a => ∀ (ls : Array Slot) (H : Heap) (locs : List Loc), lv_has ls 3 [(0, .ref (ad g 0)), (1, .int a1)] → wP g wx A s.heap μ H locs → W p l e (rmD 3) s m args below meth c H locs 0 0 Q (F0 m 102 ls []))))) e0) : ∀ (n : Nat) (q : Int32), miter (fun q => vs_firstWrong_b2 μ a1 q) n q = some e0 → ∀ (ls : Array Slot) (H : Heap) (locs : List Loc), lv_has ls 3 [(0, .ref (ad g 0)), (1, .int a1), (2, .int q)] → wP g wx A s.heap μ H locs → W p l e (rmD 3) s m args below meth c H locs 0 0 Q (F0 m 2 ls []) := by
  obtain ⟨hx, hb, hml, hown, hts, hK, hN⟩ := id hC
  refine miter_ind (fun q r hf k1 k2 => ?_)
  obtain ⟨xs2, rfl⟩ : ∃ z, z = q := ⟨_, rfl⟩
  intro ls H locs hl hW
  have h : vs_firstWrong_b2 μ a1 xs2 = some r := hf
  unfold vs_firstWrong_b2 at h
  refine lv_iload_n hx hb dX11_firstWrong_2 rfl (lv_at hl 2 rfl) ?_
  refine lv_iload_n hx hb dX11_firstWrong_3 rfl (lv_at hl 1 rfl) ?_
  refine lv_icmp_ge (tgt := 102) hx hb dX11_firstWrong_4 (by decide) (fun hc1 => ?_) (fun hc1 => ?_)
  · replace h := if_p hc1 h
    obtain rfl := k2 _ (Option.some.inj h).symm
    exact kx3 _ _ _ (lv_sub hl [0, 1] rfl) hW
  · replace h := if_n hc1 h
    refine lv_iload_n hx hb dX11_firstWrong_7 rfl (lv_at hl 2 rfl) ?_
    refine lv_aload_n hx hb dX11_firstWrong_8 rfl (lv_at hl 0 rfl) ?_
    refine gf_X11_19_x0 hC hW dX11_firstWrong_9 ?_
    refine gf_X11_335_x2 hC hW dX11_firstWrong_12 ?_
    refine lv_icmp_ge (tgt := 32) hx hb dX11_firstWrong_15 (by decide) (fun hc2 => ?_) (fun hc2 => ?_)
    · replace h := if_p hc2 h
      obtain rfl := k2 _ (Option.some.inj h).symm
      exact kx0 _ _ _ (lv_sub hl [2] rfl) hW
    · replace h := if_n hc2 h
      refine lv_aload_n hx hb dX11_firstWrong_18 rfl (lv_at hl 0 rfl) ?_
      refine gf_X11_12_x0 hC hW dX11_firstWrong_19 ?_
      refine lv_iconst (v := 3) hx hb dX11_firstWrong_22 (by decide) ?_
      refine lv_iload_n hx hb dX11_firstWrong_23 rfl (lv_at hl 2 rfl) ?_
      refine lv_imul hx hb dX11_firstWrong_24 ?_
      obtain ⟨x3, hx3, h⟩ := mbv_some h
      refine kr_ci hC hW (kr_runV hC hW hl.1 (t_vs_Tape_numberAt hx3) cw_X11_451 (wx_1 g μ) rfl rfl rfl (Nat.le_of_ble_eq_true rfl) dX11_firstWrong_25 (by decide)) (fun H locs hW => ?_)
      refine lv_iload_n hx hb dX11_firstWrong_28 rfl (lv_at hl 2 rfl) ?_
      refine lv_icmp_eq (tgt := 36) hx hb dX11_firstWrong_29 (by decide) (fun hc4 => ?_) (fun hc4 => ?_)
      · replace h := if_p hc4 h
        refine lv_aload_n hx hb dX11_firstWrong_36 rfl (lv_at hl 0 rfl) ?_
        refine gf_X11_12_x0 hC hW dX11_firstWrong_37 ?_
        refine lv_iconst (v := 3) hx hb dX11_firstWrong_40 (by decide) ?_
        refine lv_iload_n hx hb dX11_firstWrong_41 rfl (lv_at hl 2 rfl) ?_
        refine lv_imul hx hb dX11_firstWrong_42 ?_
        refine lv_iconst (v := 1) hx hb dX11_firstWrong_43 (by decide) ?_
        refine lv_iadd hx hb dX11_firstWrong_44 ?_
        obtain ⟨x5, hx5, h⟩ := mbv_some h
        refine kr_ci hC hW (kr_runV hC hW hl.1 (t_vs_Tape_numberAt hx5) cw_X11_451 (wx_1 g μ) rfl rfl rfl (Nat.le_of_ble_eq_true rfl) dX11_firstWrong_45 (by decide)) (fun H locs hW => ?_)
        refine lv_aload_n hx hb dX11_firstWrong_48 rfl (lv_at hl 0 rfl) ?_
        refine gf_X11_19_x0 hC hW dX11_firstWrong_49 ?_
        refine gf_X11_190_x2 hC hW dX11_firstWrong_52 ?_
        refine lv_iload_n hx hb dX11_firstWrong_55 rfl (lv_at hl 2 rfl) ?_
        obtain ⟨x6, ex6, hin, h⟩ := mrd_ex h
        refine kr_iald hC hW (wx_19 g μ) hin ex6 dX11_firstWrong_56 ?_
        refine lv_icmp_eq (tgt := 66) hx hb dX11_firstWrong_57 (by decide) (fun hc7 => ?_) (fun hc7 => ?_)
        · replace h := if_p hc7 h
          refine lv_aload_n hx hb dX11_firstWrong_66 rfl (lv_at hl 0 rfl) ?_
          refine gf_X11_12_x0 hC hW dX11_firstWrong_67 ?_
          refine lv_iconst (v := 3) hx hb dX11_firstWrong_70 (by decide) ?_
          refine lv_iload_n hx hb dX11_firstWrong_71 rfl (lv_at hl 2 rfl) ?_
          refine lv_imul hx hb dX11_firstWrong_72 ?_
          refine lv_iconst (v := 2) hx hb dX11_firstWrong_73 (by decide) ?_
          refine lv_iadd hx hb dX11_firstWrong_74 ?_
          obtain ⟨x8, hx8, h⟩ := mbv_some h
          refine kr_ci hC hW (kr_runV hC hW hl.1 (t_vs_Tape_numberAt hx8) cw_X11_451 (wx_1 g μ) rfl rfl rfl (Nat.le_of_ble_eq_true rfl) dX11_firstWrong_75 (by decide)) (fun H locs hW => ?_)
          refine lv_aload_n hx hb dX11_firstWrong_78 rfl (lv_at hl 0 rfl) ?_
          refine gf_X11_19_x0 hC hW dX11_firstWrong_79 ?_
          refine gf_X11_208_x2 hC hW dX11_firstWrong_82 ?_
          refine lv_iload_n hx hb dX11_firstWrong_85 rfl (lv_at hl 2 rfl) ?_
          obtain ⟨x9, ex9, hin, h⟩ := mrd_ex h
          refine kr_iald hC hW (wx_20 g μ) hin ex9 dX11_firstWrong_86 ?_
          refine lv_icmp_eq (tgt := 96) hx hb dX11_firstWrong_87 (by decide) (fun hc10 => ?_) (fun hc10 => ?_)
          · replace h := if_p hc10 h
            refine lv_iinc (v := (xs2 + 1)) (lv' := [(2, .int (xs2 + 1)), (0, .ref (ad g 0)), (1, .int a1)]) hx hb dX11_firstWrong_96 hl (k := 2) rfl (by rw [oi_1]) (by decide) rfl (fun ls hl => ?_)
            refine lv_goto (tgt := 2) hx hb dX11_firstWrong_99 (by decide) ?_
            exact k1 (xs2 + 1) (Option.some.inj h).symm _ _ _ (lv_sub hl [1, 2, 0] rfl) hW
          · replace h := if_n hc10 h
            obtain rfl := k2 _ (Option.some.inj h).symm
            exact kx2 _ _ _ (lv_sub hl [2] rfl) hW
        · replace h := if_n hc7 h
          obtain rfl := k2 _ (Option.some.inj h).symm
          exact kx1 _ _ _ (lv_sub hl [2] rfl) hW
      · replace h := if_n hc4 h
        obtain rfl := k2 _ (Option.some.inj h).symm
        exact kx0 _ _ _ (lv_sub hl [2] rfl) hW
set_option maxHeartbeats 4000000 in
set_option maxRecDepth 100000 in
theorem t_vs_firstWrong {l : Launch} {g : Gx} {A : Nat → Prop} {μ : Mm} {a1 : Int32} {v : Int32} (h : vs_firstWrong μ a1 = some v) : Cti l g A wx yX11_firstWrong cX11_firstWrong 3 (some .int) 3 [.ref (ad g 0), .int a1] μ v μ := by
  refine ent (lv := [(0, .ref (ad g 0)), (1, .int a1)]) (by decide) (Nat.le_of_ble_eq_true rfl) rfl ?_
  intro p e s m args below meth c hC hr hlocks hnm hW ls hl
  replace hC : Cx g RX11 cX11_firstWrong 3 p s m args c := hC
  obtain ⟨hx, hb, hml, hown, hts, hK, hN⟩ := id hC
  unfold vs_firstWrong at h
  refine lv_iconst (v := 0) hx hb dX11_firstWrong_0 (by decide) ?_
  refine lv_istore_n (lv' := [(2, .int 0), (0, .ref (ad g 0)), (1, .int a1)]) hx hb dX11_firstWrong_1 rfl hl (by decide) rfl (fun ls hl => ?_)
  rcases msum4_ex h with ⟨x12, he11, h⟩ | ⟨x13, he11, h⟩ | ⟨x14, he11, h⟩ | ⟨e0, he11, h⟩
  · refine tl_vs_firstWrong_2 μ a1 hC (e0 := (.inl x12)) (fun ls H locs hl hW => ?_) trivial trivial trivial FU 0 he11 _ _ _ (lv_sub hl [1, 2, 0] rfl) hW
    refine lv_iconst (v := 3) hx hb dX11_firstWrong_32 (by decide) ?_
    refine lv_iload_n hx hb dX11_firstWrong_33 rfl (lv_at hl 0 rfl) ?_
    refine lv_imul hx hb dX11_firstWrong_34 ?_
    cases h
    exact kr_iret hC hr hlocks hW dX11_firstWrong_35
  · refine tl_vs_firstWrong_2 μ a1 hC (e0 := (.inr (.inl x13))) trivial (fun ls H locs hl hW => ?_) trivial trivial FU 0 he11 _ _ _ (lv_sub hl [1, 2, 0] rfl) hW
    refine lv_iconst (v := 3) hx hb dX11_firstWrong_60 (by decide) ?_
    refine lv_iload_n hx hb dX11_firstWrong_61 rfl (lv_at hl 0 rfl) ?_
    refine lv_imul hx hb dX11_firstWrong_62 ?_
    refine lv_iconst (v := 1) hx hb dX11_firstWrong_63 (by decide) ?_
    refine lv_iadd hx hb dX11_firstWrong_64 ?_
    cases h
    exact kr_iret hC hr hlocks hW dX11_firstWrong_65
  · refine tl_vs_firstWrong_2 μ a1 hC (e0 := (.inr (.inr (.inl x14)))) trivial trivial (fun ls H locs hl hW => ?_) trivial FU 0 he11 _ _ _ (lv_sub hl [1, 2, 0] rfl) hW
    refine lv_iconst (v := 3) hx hb dX11_firstWrong_90 (by decide) ?_
    refine lv_iload_n hx hb dX11_firstWrong_91 rfl (lv_at hl 0 rfl) ?_
    refine lv_imul hx hb dX11_firstWrong_92 ?_
    refine lv_iconst (v := 2) hx hb dX11_firstWrong_93 (by decide) ?_
    refine lv_iadd hx hb dX11_firstWrong_94 ?_
    cases h
    exact kr_iret hC hr hlocks hW dX11_firstWrong_95
  · refine tl_vs_firstWrong_2 μ a1 hC (e0 := (.inr (.inr (.inr ())))) trivial trivial trivial (fun ls H locs hl hW => ?_) FU 0 he11 _ _ _ (lv_sub hl [1, 2, 0] rfl) hW
    refine lv_iload_n hx hb dX11_firstWrong_102 rfl (lv_at hl 1 rfl) ?_
    refine lv_aload_n hx hb dX11_firstWrong_103 rfl (lv_at hl 0 rfl) ?_
    refine gf_X11_19_x0 hC hW dX11_firstWrong_104 ?_
    refine gf_X11_335_x2 hC hW dX11_firstWrong_107 ?_
    refine lv_icmp_ge (tgt := 119) hx hb dX11_firstWrong_110 (by decide) (fun hc15 => ?_) (fun hc15 => ?_)
    · replace h := if_p hc15 h
      refine lv_iconst (v := (-1)) hx hb dX11_firstWrong_119 (by decide) ?_
      cases h
      exact kr_iret hC hr hlocks hW dX11_firstWrong_120
    · replace h := if_n hc15 h
      refine lv_iconst (v := 3) hx hb dX11_firstWrong_113 (by decide) ?_
      refine lv_iload_n hx hb dX11_firstWrong_114 rfl (lv_at hl 1 rfl) ?_
      refine lv_imul hx hb dX11_firstWrong_115 ?_
      refine lv_goto (tgt := 120) hx hb dX11_firstWrong_116 (by decide) ?_
      cases h
      exact kr_iret hC hr hlocks hW dX11_firstWrong_120
set_option maxHeartbeats 4000000 in
set_option maxRecDepth 100000 in
theorem t_vs_Tape_clear {l : Launch} {g : Gx} {A : Nat → Prop} {μ : Mm} {u : Mm} (h : vs_Tape_clear μ = some u) : Ctv l g A wx yX9_clear cX9_clear 1 none 0 [.ref (ad g 1)] μ u := by
  refine ent (lv := [(0, .ref (ad g 1))]) (by decide) (Nat.le_of_ble_eq_true rfl) rfl ?_
  intro p e s m args below meth c hC hr hlocks hnm hW ls hl
  replace hC : Cx g RX9 cX9_clear 1 p s m args c := hC
  obtain ⟨hx, hb, hml, hown, hts, hK, hN⟩ := id hC
  unfold vs_Tape_clear at h
  refine lv_aload_n hx hb dX9_clear_0 rfl (lv_at hl 0 rfl) ?_
  refine lv_iconst (v := 0) hx hb dX9_clear_1 (by decide) ?_
  obtain ⟨μ1, eμ1, h⟩ := mst_some h
  refine pf_X9_15_x1 hC hW eμ1 dX9_clear_2 (fun H locs hW => ?_)
  cases h
  exact kr_vret hC hr hlocks hW dX9_clear_5
set_option maxHeartbeats 4000000 in
set_option maxRecDepth 100000 in
theorem t_vs_check {l : Launch} {g : Gx} {A : Nat → Prop} {μ : Mm} {a1 : Int32} {v : Int32} {u : Mm} (h : vs_check μ a1 = some (v, u)) : Cti l g A wx yX11_check cX11_check 3 (some .int) 4 [.ref (ad g 0), .int a1] μ v u := by
  refine ent (lv := [(0, .ref (ad g 0)), (1, .int a1)]) (by decide) (Nat.le_of_ble_eq_true rfl) rfl ?_
  intro p e s m args below meth c hC hr hlocks hnm hW ls hl
  replace hC : Cx g RX11 cX11_check 3 p s m args c := hC
  obtain ⟨hx, hb, hml, hown, hts, hK, hN⟩ := id hC
  unfold vs_check at h
  refine lv_iload_n hx hb dX11_check_0 rfl (lv_at hl 1 rfl) ?_
  refine lv_iconst (v := 0) hx hb dX11_check_1 (by decide) ?_
  refine lv_aload_n hx hb dX11_check_2 rfl (lv_at hl 0 rfl) ?_
  refine gf_X11_12_x0 hC hW dX11_check_3 ?_
  refine gf_X11_146_x1 hC hW dX11_check_6 ?_
  refine lv_bipush (v := 12) hx hb dX11_check_9 (by decide) ?_
  refine lv_idiv hx hb dX11_check_11 (by decide) ?_
  obtain ⟨x1, hx1, h⟩ := mbv_some h
  refine kr_ci hC hW (kr_runS hC hW hl.1 (t_vs_within hx1) cw_X11_100 rfl rfl (Nat.le_of_ble_eq_true rfl) dX11_check_12 (by decide)) (fun H locs hW => ?_)
  refine lv_if_ne (tgt := 21) hx hb dX11_check_15 (by decide) (fun hc2 => ?_) (fun hc2 => ?_)
  · replace h := if_n hc2 h
    refine lv_aload_n hx hb dX11_check_21 rfl (lv_at hl 0 rfl) ?_
    refine lv_iload_n hx hb dX11_check_22 rfl (lv_at hl 1 rfl) ?_
    obtain ⟨x3, hx3, h⟩ := mbv_some h
    refine kr_ci hC hW (kr_runV hC hW hl.1 (t_vs_firstWrong hx3) cw_X11_397 (wx_0 g μ) rfl rfl rfl (Nat.le_of_ble_eq_true rfl) dX11_check_23 (by decide)) (fun H locs hW => ?_)
    refine lv_istore_n (lv' := [(2, .int x3), (0, .ref (ad g 0)), (1, .int a1)]) hx hb dX11_check_26 rfl hl (by decide) rfl (fun ls hl => ?_)
    refine lv_aload_n hx hb dX11_check_27 rfl (lv_at hl 1 rfl) ?_
    refine gf_X11_12_x0 hC hW dX11_check_28 ?_
    obtain ⟨μ5, hxμ5, h⟩ := mbv_some h
    refine kr_cv hC hW (kr_runV hC hW hl.1 (t_vs_Tape_clear hxμ5) cw_X11_168 (wx_1 g μ) rfl rfl rfl (Nat.le_of_ble_eq_true rfl) dX11_check_31 (by decide)) (fun H locs hW => ?_)
    refine lv_iload_n hx hb dX11_check_34 rfl (lv_at hl 0 rfl) ?_
    cases h
    exact kr_iret hC hr hlocks hW dX11_check_35
  · replace h := if_p hc2 h
    refine lv_bipush (v := (-2)) hx hb dX11_check_18 (by decide) ?_
    cases h
    exact kr_iret hC hr hlocks hW dX11_check_20
set_option maxHeartbeats 4000000 in
set_option maxRecDepth 100000 in
theorem t_vs_count {l : Launch} {g : Gx} {A : Nat → Prop} {μ : Mm} {a1 : Int32} {v : Int32} (h : vs_count μ a1 = some v) : Cti l g A wx yX11_count cX11_count 2 (some .int) 3 [.ref (ad g 0), .int a1] μ v μ := by
  refine ent (lv := [(0, .ref (ad g 0)), (1, .int a1)]) (by decide) (Nat.le_of_ble_eq_true rfl) rfl ?_
  intro p e s m args below meth c hC hr hlocks hnm hW ls hl
  replace hC : Cx g RX11 cX11_count 2 p s m args c := hC
  obtain ⟨hx, hb, hml, hown, hts, hK, hN⟩ := id hC
  unfold vs_count at h
  refine lv_iload_n hx hb dX11_count_0 rfl (lv_at hl 1 rfl) ?_
  refine lv_bipush (v := 10) hx hb dX11_count_1 (by decide) ?_
  refine lv_bipush (v := 12) hx hb dX11_count_3 (by decide) ?_
  obtain ⟨x1, hx1, h⟩ := mbv_some h
  refine kr_ci hC hW (kr_runS hC hW hl.1 (t_vs_within hx1) cw_X11_100 rfl rfl (Nat.le_of_ble_eq_true rfl) dX11_count_5 (by decide)) (fun H locs hW => ?_)
  refine lv_if_eq (tgt := 23) hx hb dX11_count_8 (by decide) (fun hc2 => ?_) (fun hc2 => ?_)
  · replace h := if_p hc2 h
    refine lv_iload_n hx hb dX11_count_23 rfl (lv_at hl 1 rfl) ?_
    refine lv_bipush (v := 20) hx hb dX11_count_24 (by decide) ?_
    refine lv_bipush (v := 20) hx hb dX11_count_26 (by decide) ?_
    refine lv_aload_n hx hb dX11_count_28 rfl (lv_at hl 0 rfl) ?_
    refine gf_X11_33_x0 hC hW dX11_count_29 ?_
    refine gf_X11_374_x4 hC hW dX11_count_32 ?_
    refine lv_iadd hx hb dX11_count_35 ?_
    refine lv_iconst (v := 1) hx hb dX11_count_36 (by decide) ?_
    refine lv_isub hx hb dX11_count_37 ?_
    obtain ⟨x3, hx3, h⟩ := mbv_some h
    refine kr_ci hC hW (kr_runS hC hW hl.1 (t_vs_within hx3) cw_X11_100 rfl rfl (Nat.le_of_ble_eq_true rfl) dX11_count_38 (by decide)) (fun H locs hW => ?_)
    refine lv_if_eq (tgt := 60) hx hb dX11_count_41 (by decide) (fun hc4 => ?_) (fun hc4 => ?_)
    · replace h := if_p hc4 h
      refine lv_iload_n hx hb dX11_count_60 rfl (lv_at hl 1 rfl) ?_
      by_cases hc5 : a1 = 0
      · replace h := if_p hc5 h
        refine lv_tableIn (off := 51) (tgt := 112) hx hb dX11_count_61 (by rw [hc5]; decide) (by rw [hc5]; decide) (by rw [hc5]; rfl) (by decide) ?_
        refine lv_aload_n hx hb dX11_count_112 rfl (lv_at hl 0 rfl) ?_
        refine gf_X11_96_x0 hC hW dX11_count_113 ?_
        cases h
        exact kr_iret hC hr hlocks hW dX11_count_116
      replace h := if_n hc5 h
      by_cases hc6 : a1 = 1
      · replace h := if_p hc6 h
        refine lv_tableIn (off := 56) (tgt := 117) hx hb dX11_count_61 (by rw [hc6]; decide) (by rw [hc6]; decide) (by rw [hc6]; rfl) (by decide) ?_
        refine lv_aload_n hx hb dX11_count_117 rfl (lv_at hl 0 rfl) ?_
        refine gf_X11_19_x0 hC hW dX11_count_118 ?_
        refine gf_X11_335_x2 hC hW dX11_count_121 ?_
        cases h
        exact kr_iret hC hr hlocks hW dX11_count_124
      replace h := if_n hc6 h
      by_cases hc7 : a1 = 2
      · replace h := if_p hc7 h
        refine lv_tableIn (off := 64) (tgt := 125) hx hb dX11_count_61 (by rw [hc7]; decide) (by rw [hc7]; decide) (by rw [hc7]; rfl) (by decide) ?_
        refine lv_aload_n hx hb dX11_count_125 rfl (lv_at hl 0 rfl) ?_
        refine gf_X11_33_x0 hC hW dX11_count_126 ?_
        refine gf_X11_374_x4 hC hW dX11_count_129 ?_
        cases h
        exact kr_iret hC hr hlocks hW dX11_count_132
      replace h := if_n hc7 h
      by_cases hc8 : a1 = 3
      · replace h := if_p hc8 h
        refine lv_tableIn (off := 72) (tgt := 133) hx hb dX11_count_61 (by rw [hc8]; decide) (by rw [hc8]; decide) (by rw [hc8]; rfl) (by decide) ?_
        refine lv_aload_n hx hb dX11_count_133 rfl (lv_at hl 0 rfl) ?_
        refine gf_X11_26_x0 hC hW dX11_count_134 ?_
        refine gf_X11_278_x3 hC hW dX11_count_137 ?_
        cases h
        exact kr_iret hC hr hlocks hW dX11_count_140
      replace h := if_n hc8 h
      by_cases hc9 : a1 = 4
      · replace h := if_p hc9 h
        refine lv_tableIn (off := 80) (tgt := 141) hx hb dX11_count_61 (by rw [hc9]; decide) (by rw [hc9]; decide) (by rw [hc9]; rfl) (by decide) ?_
        refine lv_aload_n hx hb dX11_count_141 rfl (lv_at hl 0 rfl) ?_
        refine gf_X11_56_x0 hC hW dX11_count_142 ?_
        refine gf_X11_169_x7 hC hW dX11_count_145 ?_
        refine gf_X11_172_x10 hC hW dX11_count_148 ?_
        cases h
        exact kr_iret hC hr hlocks hW dX11_count_151
      replace h := if_n hc9 h
      by_cases hc10 : a1 = 5
      · replace h := if_p hc10 h
        refine lv_tableIn (off := 91) (tgt := 152) hx hb dX11_count_61 (by rw [hc10]; decide) (by rw [hc10]; decide) (by rw [hc10]; rfl) (by decide) ?_
        refine lv_aload_n hx hb dX11_count_152 rfl (lv_at hl 0 rfl) ?_
        refine gf_X11_12_x0 hC hW dX11_count_153 ?_
        refine gf_X11_146_x1 hC hW dX11_count_156 ?_
        cases h
        exact kr_iret hC hr hlocks hW dX11_count_159
      replace h := if_n hc10 h
      by_cases hc11 : a1 = 6
      · replace h := if_p hc11 h
        refine lv_tableIn (off := 99) (tgt := 160) hx hb dX11_count_61 (by rw [hc11]; decide) (by rw [hc11]; decide) (by rw [hc11]; rfl) (by decide) ?_
        refine lv_aload_n hx hb dX11_count_160 rfl (lv_at hl 0 rfl) ?_
        refine gf_X11_47_x0 hC hW dX11_count_161 ?_
        refine gf_X11_400_x6 hC hW dX11_count_164 ?_
        cases h
        exact kr_iret hC hr hlocks hW dX11_count_167
      replace h := if_n hc11 h
      by_cases hc12 : a1 = 7
      · replace h := if_p hc12 h
        refine lv_tableIn (off := 107) (tgt := 168) hx hb dX11_count_61 (by rw [hc12]; decide) (by rw [hc12]; decide) (by rw [hc12]; rfl) (by decide) ?_
        refine lv_aload_n hx hb dX11_count_168 rfl (lv_at hl 0 rfl) ?_
        refine gf_X11_40_x0 hC hW dX11_count_169 ?_
        refine gf_X11_401_x5 hC hW dX11_count_172 ?_
        cases h
        exact kr_iret hC hr hlocks hW dX11_count_175
      replace h := if_n hc12 h
      by_cases hc13 : a1 = 8
      · replace h := if_p hc13 h
        refine lv_tableIn (off := 115) (tgt := 176) hx hb dX11_count_61 (by rw [hc13]; decide) (by rw [hc13]; decide) (by rw [hc13]; rfl) (by decide) ?_
        refine lv_aload_n hx hb dX11_count_176 rfl (lv_at hl 0 rfl) ?_
        refine gf_X11_33_x0 hC hW dX11_count_177 ?_
        refine gf_X11_402_x4 hC hW dX11_count_180 ?_
        cases h
        exact kr_iret hC hr hlocks hW dX11_count_183
      replace h := if_n hc13 h
      have thc5 := lv_neT (a := 0) hc5 (by decide)
      have thc6 := lv_neT (a := 1) hc6 (by decide)
      have thc7 := lv_neT (a := 2) hc7 (by decide)
      have thc8 := lv_neT (a := 3) hc8 (by decide)
      have thc9 := lv_neT (a := 4) hc9 (by decide)
      have thc10 := lv_neT (a := 5) hc10 (by decide)
      have thc11 := lv_neT (a := 6) hc11 (by decide)
      have thc12 := lv_neT (a := 7) hc12 (by decide)
      have thc13 := lv_neT (a := 8) hc13 (by decide)
      refine lv_tableOut (tgt := 184) hx hb dX11_count_61 (by omega) (by decide) ?_
      refine lv_iconst (v := (-1)) hx hb dX11_count_184 (by decide) ?_
      cases h
      exact kr_iret hC hr hlocks hW dX11_count_185
    · replace h := if_n hc4 h
      refine lv_aload_n hx hb dX11_count_44 rfl (lv_at hl 0 rfl) ?_
      refine gf_X11_33_x0 hC hW dX11_count_45 ?_
      refine gf_X11_129_x4 hC hW dX11_count_48 ?_
      refine lv_iload_n hx hb dX11_count_51 rfl (lv_at hl 1 rfl) ?_
      refine lv_bipush (v := 20) hx hb dX11_count_52 (by decide) ?_
      refine lv_isub hx hb dX11_count_54 ?_
      obtain ⟨x14, ex14, hin, h⟩ := mrd_ex h
      refine kr_iald hC hW (wx_39 g μ) hin ex14 dX11_count_55 ?_
      obtain ⟨x15, hx15, h⟩ := mbv_some h
      refine kr_ci hC hW (kr_runS hC hW hl.1 (t_vs_Integer_bitCount_0f7a4 hx15) cw_X11_241 rfl rfl (Nat.le_of_ble_eq_true rfl) dX11_count_56 (by decide)) (fun H locs hW => ?_)
      cases h
      exact kr_iret hC hr hlocks hW dX11_count_59
  · replace h := if_n hc2 h
    refine lv_aload_n hx hb dX11_count_11 rfl (lv_at hl 0 rfl) ?_
    refine gf_X11_19_x0 hC hW dX11_count_12 ?_
    refine lv_iload_n hx hb dX11_count_15 rfl (lv_at hl 1 rfl) ?_
    refine lv_bipush (v := 10) hx hb dX11_count_16 (by decide) ?_
    refine lv_isub hx hb dX11_count_18 ?_
    obtain ⟨x16, hx16, h⟩ := mbv_some h
    refine kr_ci hC hW (kr_runV hC hW hl.1 (t_vs_Books_lengthOn hx16) cw_X11_112 (wx_2 g μ) rfl rfl rfl (Nat.le_of_ble_eq_true rfl) dX11_count_19 (by decide)) (fun H locs hW => ?_)
    cases h
    exact kr_iret hC hr hlocks hW dX11_count_22
set_option maxHeartbeats 4000000 in
set_option maxRecDepth 100000 in
theorem tl_vs_Arrays_fill_53178_f_5 (a1 : Int32) (a3 : Int32) (hC : Cx g RJ7 cJ7_fill_53178 4 p s m args c) {e0 : (Mm)} (kx0 : ∀ (ls : Array Slot) (H : Heap) (locs : List Loc), lv_has ls 4 [] → wP g wf A s.heap e0 H locs → W p l e (rmD 0) s m args below meth c H locs 0 0 Q (F0 m 20 ls [])) : ∀ (n : Nat) (q : Int32 × Mm), miter (fun q => vs_Arrays_fill_53178_f_b5 q.2 a1 a3 q.1) n q = some e0 → ∀ (ls : Array Slot) (H : Heap) (locs : List Loc), lv_has ls 4 [(0, .ref (ad g 0)), (1, .int a1), (2, .int q.1), (3, .int a3)] → wP g wf A s.heap q.2 H locs → W p l e (rmD 0) s m args below meth c H locs 0 0 Q (F0 m 5 ls []) := by
  obtain ⟨hx, hb, hml, hown, hts, hK, hN⟩ := id hC
  refine miter_ind (fun q r hf k1 k2 => ?_)
  obtain ⟨xs2, μ⟩ := q
  intro ls H locs hl hW
  have h : vs_Arrays_fill_53178_f_b5 μ a1 a3 xs2 = some r := hf
  unfold vs_Arrays_fill_53178_f_b5 at h
  refine lv_iload_n hx hb dJ7_fill_53178_5 rfl (lv_at hl 2 rfl) ?_
  refine lv_iload_n hx hb dJ7_fill_53178_6 rfl (lv_at hl 3 rfl) ?_
  refine lv_icmp_ge (tgt := 20) hx hb dJ7_fill_53178_7 (by decide) (fun hc1 => ?_) (fun hc1 => ?_)
  · replace h := if_p hc1 h
    obtain rfl := k2 _ (Option.some.inj h).symm
    exact kx0 _ _ _ (lv_sub hl [] rfl) hW
  · replace h := if_n hc1 h
    refine lv_aload_n hx hb dJ7_fill_53178_10 rfl (lv_at hl 0 rfl) ?_
    refine lv_iload_n hx hb dJ7_fill_53178_11 rfl (lv_at hl 2 rfl) ?_
    refine lv_iload_n hx hb dJ7_fill_53178_12 rfl (lv_at hl 1 rfl) ?_
    obtain ⟨μ2, eμ2, hin, h⟩ := mwr_ex h
    refine kr_iast hC hW (wf_0 g μ) (wfs_0 eμ2) hin dJ7_fill_53178_13 (fun H locs hW => ?_)
    refine lv_iinc (v := (xs2 + 1)) (lv' := [(2, .int (xs2 + 1)), (0, .ref (ad g 0)), (1, .int a1), (3, .int a3)]) hx hb dJ7_fill_53178_14 hl (k := 2) rfl (by rw [oi_1]) (by decide) rfl (fun ls hl => ?_)
    refine lv_goto (tgt := 5) hx hb dJ7_fill_53178_17 (by decide) ?_
    exact k1 ((xs2 + 1), μ2) (Option.some.inj h).symm _ _ _ (lv_sub hl [1, 2, 0, 3] rfl) hW
set_option maxHeartbeats 4000000 in
set_option maxRecDepth 100000 in
theorem t_vs_Arrays_fill_53178_f {l : Launch} {g : Gx} {A : Nat → Prop} {μ : Mm} {a1 : Int32} {u : Mm} (h : vs_Arrays_fill_53178_f μ a1 = some u) : Ctv l g A wf yJ7_fill_53178 cJ7_fill_53178 4 none 0 [.ref (ad g 0), .int a1] μ u := by
  refine ent (lv := [(0, .ref (ad g 0)), (1, .int a1)]) (by decide) (Nat.le_of_ble_eq_true rfl) rfl ?_
  intro p e s m args below meth c hC hr hlocks hnm hW ls hl
  replace hC : Cx g RJ7 cJ7_fill_53178 4 p s m args c := hC
  obtain ⟨hx, hb, hml, hown, hts, hK, hN⟩ := id hC
  unfold vs_Arrays_fill_53178_f at h
  refine lv_iconst (v := 0) hx hb dJ7_fill_53178_0 (by decide) ?_
  refine lv_istore_n (lv' := [(2, .int 0), (0, .ref (ad g 0)), (1, .int a1)]) hx hb dJ7_fill_53178_1 rfl hl (by decide) rfl (fun ls hl => ?_)
  refine lv_aload_n hx hb dJ7_fill_53178_2 rfl (lv_at hl 1 rfl) ?_
  refine kr_alen (v := 512) hC hW (wf_0 g μ) (by decide) dJ7_fill_53178_3 ?_
  refine lv_istore_n (lv' := [(3, .int 512), (2, .int 0), (0, .ref (ad g 0)), (1, .int a1)]) hx hb dJ7_fill_53178_4 rfl hl (by decide) rfl (fun ls hl => ?_)
  obtain ⟨μ3, he4, h⟩ := mbv_some h
  refine tl_vs_Arrays_fill_53178_f_5 a1 512 hC (fun ls H locs hl hW => ?_) FU (0, μ) he4 _ _ _ (lv_sub hl [2, 3, 1, 0] rfl) hW
  cases h
  exact kr_vret hC hr hlocks hW dJ7_fill_53178_20
set_option maxHeartbeats 4000000 in
set_option maxRecDepth 100000 in
theorem tl_vs_Arrays_fill_53178_h_5 (a1 : Int32) (a3 : Int32) (hC : Cx g RJ7 cJ7_fill_53178 4 p s m args c) {e0 : (Mm)} (kx0 : ∀ (ls : Array Slot) (H : Heap) (locs : List Loc), lv_has ls 4 [] → wP g wh A s.heap e0 H locs → W p l e (rmD 0) s m args below meth c H locs 0 0 Q (F0 m 20 ls [])) : ∀ (n : Nat) (q : Int32 × Mm), miter (fun q => vs_Arrays_fill_53178_h_b5 q.2 a1 a3 q.1) n q = some e0 → ∀ (ls : Array Slot) (H : Heap) (locs : List Loc), lv_has ls 4 [(0, .ref (ad g 0)), (1, .int a1), (2, .int q.1), (3, .int a3)] → wP g wh A s.heap q.2 H locs → W p l e (rmD 0) s m args below meth c H locs 0 0 Q (F0 m 5 ls []) := by
  obtain ⟨hx, hb, hml, hown, hts, hK, hN⟩ := id hC
  refine miter_ind (fun q r hf k1 k2 => ?_)
  obtain ⟨xs2, μ⟩ := q
  intro ls H locs hl hW
  have h : vs_Arrays_fill_53178_h_b5 μ a1 a3 xs2 = some r := hf
  unfold vs_Arrays_fill_53178_h_b5 at h
  refine lv_iload_n hx hb dJ7_fill_53178_5 rfl (lv_at hl 2 rfl) ?_
  refine lv_iload_n hx hb dJ7_fill_53178_6 rfl (lv_at hl 3 rfl) ?_
  refine lv_icmp_ge (tgt := 20) hx hb dJ7_fill_53178_7 (by decide) (fun hc1 => ?_) (fun hc1 => ?_)
  · replace h := if_p hc1 h
    obtain rfl := k2 _ (Option.some.inj h).symm
    exact kx0 _ _ _ (lv_sub hl [] rfl) hW
  · replace h := if_n hc1 h
    refine lv_aload_n hx hb dJ7_fill_53178_10 rfl (lv_at hl 0 rfl) ?_
    refine lv_iload_n hx hb dJ7_fill_53178_11 rfl (lv_at hl 2 rfl) ?_
    refine lv_iload_n hx hb dJ7_fill_53178_12 rfl (lv_at hl 1 rfl) ?_
    obtain ⟨μ2, eμ2, hin, h⟩ := mwr_ex h
    refine kr_iast hC hW (wh_0 g μ) (whs_0 eμ2) hin dJ7_fill_53178_13 (fun H locs hW => ?_)
    refine lv_iinc (v := (xs2 + 1)) (lv' := [(2, .int (xs2 + 1)), (0, .ref (ad g 0)), (1, .int a1), (3, .int a3)]) hx hb dJ7_fill_53178_14 hl (k := 2) rfl (by rw [oi_1]) (by decide) rfl (fun ls hl => ?_)
    refine lv_goto (tgt := 5) hx hb dJ7_fill_53178_17 (by decide) ?_
    exact k1 ((xs2 + 1), μ2) (Option.some.inj h).symm _ _ _ (lv_sub hl [1, 2, 0, 3] rfl) hW
set_option maxHeartbeats 4000000 in
set_option maxRecDepth 100000 in
theorem t_vs_Arrays_fill_53178_h {l : Launch} {g : Gx} {A : Nat → Prop} {μ : Mm} {a1 : Int32} {u : Mm} (h : vs_Arrays_fill_53178_h μ a1 = some u) : Ctv l g A wh yJ7_fill_53178 cJ7_fill_53178 4 none 0 [.ref (ad g 0), .int a1] μ u := by
  refine ent (lv := [(0, .ref (ad g 0)), (1, .int a1)]) (by decide) (Nat.le_of_ble_eq_true rfl) rfl ?_
  intro p e s m args below meth c hC hr hlocks hnm hW ls hl
  replace hC : Cx g RJ7 cJ7_fill_53178 4 p s m args c := hC
  obtain ⟨hx, hb, hml, hown, hts, hK, hN⟩ := id hC
  unfold vs_Arrays_fill_53178_h at h
  refine lv_iconst (v := 0) hx hb dJ7_fill_53178_0 (by decide) ?_
  refine lv_istore_n (lv' := [(2, .int 0), (0, .ref (ad g 0)), (1, .int a1)]) hx hb dJ7_fill_53178_1 rfl hl (by decide) rfl (fun ls hl => ?_)
  refine lv_aload_n hx hb dJ7_fill_53178_2 rfl (lv_at hl 1 rfl) ?_
  refine kr_alen (v := 3) hC hW (wh_0 g μ) (by decide) dJ7_fill_53178_3 ?_
  refine lv_istore_n (lv' := [(3, .int 3), (2, .int 0), (0, .ref (ad g 0)), (1, .int a1)]) hx hb dJ7_fill_53178_4 rfl hl (by decide) rfl (fun ls hl => ?_)
  obtain ⟨μ3, he4, h⟩ := mbv_some h
  refine tl_vs_Arrays_fill_53178_h_5 a1 3 hC (fun ls H locs hl hW => ?_) FU (0, μ) he4 _ _ _ (lv_sub hl [2, 3, 1, 0] rfl) hW
  cases h
  exact kr_vret hC hr hlocks hW dJ7_fill_53178_20
set_option maxHeartbeats 4000000 in
set_option maxRecDepth 100000 in
theorem t_vs_Law_clear_sp {l : Launch} {g : Gx} {A : Nat → Prop} {μ : Mm} {u : Mm} (h : vs_Law_clear_sp μ = some u) : Ctv l g A wx yX3_clear cX3_clear 1 none 0 [.ref (ad g 11)] μ u := by
  refine ent (lv := [(0, .ref (ad g 11))]) (by decide) (Nat.le_of_ble_eq_true rfl) rfl ?_
  intro p e s m args below meth c hC hr hlocks hnm hW ls hl
  replace hC : Cx g RX3 cX3_clear 1 p s m args c := hC
  obtain ⟨hx, hb, hml, hown, hts, hK, hN⟩ := id hC
  unfold vs_Law_clear_sp at h
  refine lv_aload_n hx hb dX3_clear_0 rfl (lv_at hl 0 rfl) ?_
  refine lv_iconst (v := 0) hx hb dX3_clear_1 (by decide) ?_
  obtain ⟨μ1, eμ1, h⟩ := mst_some h
  refine pf_X3_33_x11 hC hW eμ1 dX3_clear_2 (fun H locs hW => ?_)
  refine lv_aload_n hx hb dX3_clear_5 rfl (lv_at hl 0 rfl) ?_
  refine lv_iconst (v := 0) hx hb dX3_clear_6 (by decide) ?_
  obtain ⟨μ2, eμ2, h⟩ := mst_some h
  refine pf_X3_37_x11 hC hW eμ2 dX3_clear_7 (fun H locs hW => ?_)
  cases h
  exact kr_vret hC hr hlocks hW dX3_clear_10
set_option maxHeartbeats 4000000 in
set_option maxRecDepth 100000 in
theorem t_vs_LawReading_sign {l : Launch} {g : Gx} {A : Nat → Prop} {μ : Mm} {v : Int32} (h : vs_LawReading_sign μ = some v) : Cti l g A wy yX4_sign cX4_sign 1 (some .int) 0 [.ref (ad g 77)] μ v μ := by
  refine ent (lv := [(0, .ref (ad g 77))]) (by decide) (Nat.le_of_ble_eq_true rfl) rfl ?_
  intro p e s m args below meth c hC hr hlocks hnm hW ls hl
  replace hC : Cx g RX4 cX4_sign 1 p s m args c := hC
  obtain ⟨hx, hb, hml, hown, hts, hK, hN⟩ := id hC
  unfold vs_LawReading_sign at h
  refine lv_aload_n hx hb dX4_sign_0 rfl (lv_at hl 0 rfl) ?_
  refine gf_X4_33_y77 hC hW dX4_sign_1 ?_
  refine lv_aload_n hx hb dX4_sign_4 rfl (lv_at hl 0 rfl) ?_
  refine gf_X4_21_y77 hC hW dX4_sign_5 ?_
  refine lv_icmp_ge (tgt := 23) hx hb dX4_sign_8 (by decide) (fun hc1 => ?_) (fun hc1 => ?_)
  · replace h := if_p hc1 h
    refine lv_iconst (v := (-1)) hx hb dX4_sign_23 (by decide) ?_
    cases h
    exact kr_iret hC hr hlocks hW dX4_sign_24
  · replace h := if_n hc1 h
    refine lv_aload_n hx hb dX4_sign_11 rfl (lv_at hl 0 rfl) ?_
    refine gf_X4_9_y77 hC hW dX4_sign_12 ?_
    refine lv_aload_n hx hb dX4_sign_15 rfl (lv_at hl 0 rfl) ?_
    refine gf_X4_33_y77 hC hW dX4_sign_16 ?_
    obtain ⟨x2, ex2, hin, h⟩ := mrd_ex h
    refine kr_iald hC hW (wy_14 g μ) hin ex2 dX4_sign_19 ?_
    refine lv_goto (tgt := 24) hx hb dX4_sign_20 (by decide) ?_
    cases h
    exact kr_iret hC hr hlocks hW dX4_sign_24
set_option maxHeartbeats 4000000 in
set_option maxRecDepth 100000 in
theorem t_vs_LawReading_fail {l : Launch} {g : Gx} {A : Nat → Prop} {μ : Mm} {a1 : Int32} {v : Bool} {u : Mm} (h : vs_LawReading_fail μ a1 = some (v, u)) : Cti l g A wy yX4_fail cX4_fail 2 (some .boolean) 0 [.ref (ad g 77), .int a1] μ (bI v) u := by
  refine ent (lv := [(0, .ref (ad g 77)), (1, .int a1)]) (by decide) (Nat.le_of_ble_eq_true rfl) rfl ?_
  intro p e s m args below meth c hC hr hlocks hnm hW ls hl
  replace hC : Cx g RX4 cX4_fail 2 p s m args c := hC
  obtain ⟨hx, hb, hml, hown, hts, hK, hN⟩ := id hC
  unfold vs_LawReading_fail at h
  refine lv_aload_n hx hb dX4_fail_0 rfl (lv_at hl 0 rfl) ?_
  refine lv_sipush (v := 1000) hx hb dX4_fail_1 (by decide) ?_
  refine lv_iload_n hx hb dX4_fail_4 rfl (lv_at hl 1 rfl) ?_
  refine lv_imul hx hb dX4_fail_5 ?_
  refine lv_aload_n hx hb dX4_fail_6 rfl (lv_at hl 0 rfl) ?_
  refine gf_X4_33_y77 hC hW dX4_fail_7 ?_
  refine lv_iadd hx hb dX4_fail_10 ?_
  obtain ⟨μ1, eμ1, h⟩ := mst_some h
  refine pf_X4_40_y77 hC hW eμ1 dX4_fail_11 (fun H locs hW => ?_)
  refine lv_iconst (v := 0) hx hb dX4_fail_14 (by decide) ?_
  cases h
  exact kr_zret hC hr hlocks _ rfl hW dX4_fail_15
set_option maxHeartbeats 4000000 in
set_option maxRecDepth 100000 in
theorem t_vs_Law_emit_sp {l : Launch} {g : Gx} {A : Nat → Prop} {μ : Mm} {a1 : Int32} {a2 : Int32} {u : Mm} (h : vs_Law_emit_sp μ a1 a2 = some u) : Ctv l g A wy yX3_emit cX3_emit 3 none 0 [.ref (ad g 11), .int a1, .int a2] μ u := by
  refine ent (lv := [(0, .ref (ad g 11)), (1, .int a1), (2, .int a2)]) (by decide) (Nat.le_of_ble_eq_true rfl) rfl ?_
  intro p e s m args below meth c hC hr hlocks hnm hW ls hl
  replace hC : Cx g RX3 cX3_emit 3 p s m args c := hC
  obtain ⟨hx, hb, hml, hown, hts, hK, hN⟩ := id hC
  unfold vs_Law_emit_sp at h
  refine lv_aload_n hx hb dX3_emit_0 rfl (lv_at hl 0 rfl) ?_
  refine gf_X3_33_y11 hC hW dX3_emit_1 ?_
  refine lv_sipush (v := 200) hx hb dX3_emit_4 (by decide) ?_
  refine lv_icmp_ge (tgt := 40) hx hb dX3_emit_7 (by decide) (fun hc1 => ?_) (fun hc1 => ?_)
  · replace h := if_p hc1 h
    cases h
    exact kr_vret hC hr hlocks hW dX3_emit_40
  · replace h := if_n hc1 h
    refine lv_aload_n hx hb dX3_emit_10 rfl (lv_at hl 0 rfl) ?_
    refine gf_X3_9_y11 hC hW dX3_emit_11 ?_
    refine lv_aload_n hx hb dX3_emit_14 rfl (lv_at hl 0 rfl) ?_
    refine gf_X3_33_y11 hC hW dX3_emit_15 ?_
    refine lv_iload_n hx hb dX3_emit_18 rfl (lv_at hl 1 rfl) ?_
    obtain ⟨μ2, eμ2, hin, h⟩ := mwr_ex h
    refine kr_iast hC hW (wy_70 g μ) (wys_70 eμ2) hin dX3_emit_19 (fun H locs hW => ?_)
    refine lv_aload_n hx hb dX3_emit_20 rfl (lv_at hl 0 rfl) ?_
    refine gf_X3_15_y11 hC hW dX3_emit_21 ?_
    refine lv_aload_n hx hb dX3_emit_24 rfl (lv_at hl 0 rfl) ?_
    refine gf_X3_33_y11 hC hW dX3_emit_25 ?_
    refine lv_iload_n hx hb dX3_emit_28 rfl (lv_at hl 2 rfl) ?_
    obtain ⟨μ3, eμ3, hin, h⟩ := mwr_ex h
    refine kr_iast hC hW (wy_71 g μ2) (wys_71 eμ3) hin dX3_emit_29 (fun H locs hW => ?_)
    refine lv_aload_n hx hb dX3_emit_30 rfl (lv_at hl 0 rfl) ?_
    refine lv_dup hx hb dX3_emit_31 rfl ?_
    refine gf_X3_33_y11 hC hW dX3_emit_32 ?_
    refine lv_iconst (v := 1) hx hb dX3_emit_35 (by decide) ?_
    refine lv_iadd hx hb dX3_emit_36 ?_
    obtain ⟨μ4, eμ4, h⟩ := mst_some h
    refine pf_X3_33_y11 hC hW eμ4 dX3_emit_37 (fun H locs hW => ?_)
    cases h
    exact kr_vret hC hr hlocks hW dX3_emit_40
set_option maxHeartbeats 4000000 in
set_option maxRecDepth 100000 in
theorem t_vs_LawReading_open {l : Launch} {g : Gx} {A : Nat → Prop} {μ : Mm} {a1 : Int32} {v : Bool} {u : Mm} (h : vs_LawReading_open μ a1 = some (v, u)) : Cti l g A wy yX4_open cX4_open 2 (some .boolean) 1 [.ref (ad g 77), .int a1] μ (bI v) u := by
  refine ent (lv := [(0, .ref (ad g 77)), (1, .int a1)]) (by decide) (Nat.le_of_ble_eq_true rfl) rfl ?_
  intro p e s m args below meth c hC hr hlocks hnm hW ls hl
  replace hC : Cx g RX4 cX4_open 2 p s m args c := hC
  obtain ⟨hx, hb, hml, hown, hts, hK, hN⟩ := id hC
  unfold vs_LawReading_open at h
  refine lv_iload_n hx hb dX4_open_0 rfl (lv_at hl 1 rfl) ?_
  refine lv_bipush (v := 6) hx hb dX4_open_1 (by decide) ?_
  refine lv_icmp_lt (tgt := 12) hx hb dX4_open_3 (by decide) (fun hc1 => ?_) (fun hc1 => ?_)
  · replace h := if_p hc1 h
    refine lv_aload_n hx hb dX4_open_12 rfl (lv_at hl 0 rfl) ?_
    refine lv_dup hx hb dX4_open_13 rfl ?_
    refine gf_X4_33_y77 hC hW dX4_open_14 ?_
    refine lv_iconst (v := 1) hx hb dX4_open_17 (by decide) ?_
    refine lv_iadd hx hb dX4_open_18 ?_
    obtain ⟨μ2, eμ2, h⟩ := mst_some h
    refine pf_X4_33_y77 hC hW eμ2 dX4_open_19 (fun H locs hW => ?_)
    refine lv_iconst (v := 1) hx hb dX4_open_22 (by decide) ?_
    cases h
    exact kr_zret hC hr hlocks _ rfl hW dX4_open_23
  · replace h := if_n hc1 h
    refine lv_aload_n hx hb dX4_open_6 rfl (lv_at hl 0 rfl) ?_
    refine lv_iconst (v := 5) hx hb dX4_open_7 (by decide) ?_
    obtain ⟨x3, μ4, hx3, h⟩ := mbm_some h
    refine kr_ci hC hW (kr_runV hC hW hl.1 (t_vs_LawReading_fail hx3) cw_X4_47 (wy_77 g μ) rfl rfl rfl (Nat.le_of_ble_eq_true rfl) dX4_open_8 (by decide)) (fun H locs hW => ?_)
    cases h
    exact kr_zret hC hr hlocks _ rfl hW dX4_open_11
set_option maxHeartbeats 4000000 in
set_option maxRecDepth 100000 in
theorem t_vs_LawReading_expect {l : Launch} {g : Gx} {A : Nat → Prop} {μ : Mm} {a1 : Int32} {v : Bool} {u : Mm} (h : vs_LawReading_expect μ a1 = some (v, u)) : Cti l g A wy yX4_expect cX4_expect 2 (some .boolean) 1 [.ref (ad g 77), .int a1] μ (bI v) u := by
  refine ent (lv := [(0, .ref (ad g 77)), (1, .int a1)]) (by decide) (Nat.le_of_ble_eq_true rfl) rfl ?_
  intro p e s m args below meth c hC hr hlocks hnm hW ls hl
  replace hC : Cx g RX4 cX4_expect 2 p s m args c := hC
  obtain ⟨hx, hb, hml, hown, hts, hK, hN⟩ := id hC
  unfold vs_LawReading_expect at h
  refine lv_aload_n hx hb dX4_expect_0 rfl (lv_at hl 0 rfl) ?_
  obtain ⟨x1, hx1, h⟩ := mbv_some h
  refine kr_ci hC hW (kr_runV hC hW hl.1 (t_vs_LawReading_sign hx1) cw_X4_43 (wy_77 g μ) rfl rfl rfl (Nat.le_of_ble_eq_true rfl) dX4_expect_1 (by decide)) (fun H locs hW => ?_)
  refine lv_iload_n hx hb dX4_expect_4 rfl (lv_at hl 1 rfl) ?_
  refine lv_icmp_eq (tgt := 14) hx hb dX4_expect_5 (by decide) (fun hc2 => ?_) (fun hc2 => ?_)
  · replace h := if_p hc2 h
    refine lv_aload_n hx hb dX4_expect_14 rfl (lv_at hl 0 rfl) ?_
    refine lv_dup hx hb dX4_expect_15 rfl ?_
    refine gf_X4_33_y77 hC hW dX4_expect_16 ?_
    refine lv_iconst (v := 1) hx hb dX4_expect_19 (by decide) ?_
    refine lv_iadd hx hb dX4_expect_20 ?_
    obtain ⟨μ3, eμ3, h⟩ := mst_some h
    refine pf_X4_33_y77 hC hW eμ3 dX4_expect_21 (fun H locs hW => ?_)
    refine lv_iconst (v := 1) hx hb dX4_expect_24 (by decide) ?_
    cases h
    exact kr_zret hC hr hlocks _ rfl hW dX4_expect_25
  · replace h := if_n hc2 h
    refine lv_aload_n hx hb dX4_expect_8 rfl (lv_at hl 0 rfl) ?_
    refine lv_iconst (v := 1) hx hb dX4_expect_9 (by decide) ?_
    obtain ⟨x4, μ5, hx4, h⟩ := mbm_some h
    refine kr_ci hC hW (kr_runV hC hW hl.1 (t_vs_LawReading_fail hx4) cw_X4_47 (wy_77 g μ) rfl rfl rfl (Nat.le_of_ble_eq_true rfl) dX4_expect_10 (by decide)) (fun H locs hW => ?_)
    cases h
    exact kr_zret hC hr hlocks _ rfl hW dX4_expect_13
set_option maxHeartbeats 4000000 in
set_option maxRecDepth 100000 in
theorem t_vs_LawReading_isDigit {l : Launch} {g : Gx} {A : Nat → Prop} {Wd : Gx → Mm → va_W} {μ : Mm} {a0 : Int32} {v : Bool} (h : vs_LawReading_isDigit a0 = some v) : Cti l g A Wd yX4_isDigit cX4_isDigit 1 (some .boolean) 1 [.int a0] μ (bI v) μ := by
  refine ent (lv := [(0, .int a0)]) (by decide) (Nat.le_of_ble_eq_true rfl) rfl ?_
  intro p e s m args below meth c hC hr hlocks hnm hW ls hl
  replace hC : Cx g RX4 cX4_isDigit 1 p s m args c := hC
  obtain ⟨hx, hb, hml, hown, hts, hK, hN⟩ := id hC
  unfold vs_LawReading_isDigit at h
  refine lv_iload_n hx hb dX4_isDigit_0 rfl (lv_at hl 0 rfl) ?_
  refine lv_bipush (v := 48) hx hb dX4_isDigit_1 (by decide) ?_
  refine lv_bipush (v := 57) hx hb dX4_isDigit_3 (by decide) ?_
  obtain ⟨x1, hx1, h⟩ := mbv_some h
  refine kr_ci hC hW (kr_runN hC hW hl.1 (t_vs_within hx1) cw_X4_107 rfl rfl (Nat.le_of_ble_eq_true rfl) dX4_isDigit_5 (by decide)) (fun H locs hW => ?_)
  cases h
  exact kr_zret hC hr hlocks _ rfl hW dX4_isDigit_8
set_option maxHeartbeats 4000000 in
set_option maxRecDepth 100000 in
theorem tl_vs_LawReading_readNumber_4 (hC : Cx g RX4 cX4_readNumber 3 p s m args c) {e0 : (Mm) ⊕ (Int32 × Mm)} (kx0 : (Sum.elim (fun a => ∀ (ls : Array Slot) (H : Heap) (locs : List Loc), lv_has ls 3 [(0, .ref (ad g 77))] → wP g wy A s.heap a H locs → W p l e (rmD 2) s m args below meth c H locs 0 0 Q (F0 m 24 ls [])) (fun _ => True)) e0) (kx1 : (Sum.elim (fun _ => True) (fun a => ∀ (ls : Array Slot) (H : Heap) (locs : List Loc), lv_has ls 3 [(0, .ref (ad g 77)), (1, .int a.1)] → wP g wy A s.heap a.2 H locs → W p l e (rmD 2) s m args below meth c H locs 0 0 Q (F0 m 59 ls []))) e0) : ∀ (n : Nat) (q : Int32 × Int32 × Mm), miter (fun q => vs_LawReading_readNumber_b4 q.2.2 q.1 q.2.1) n q = some e0 → ∀ (ls : Array Slot) (H : Heap) (locs : List Loc), lv_has ls 3 [(0, .ref (ad g 77)), (1, .int q.1), (2, .int q.2.1)] → wP g wy A s.heap q.2.2 H locs → W p l e (rmD 2) s m args below meth c H locs 0 0 Q (F0 m 4 ls []) := by
  obtain ⟨hx, hb, hml, hown, hts, hK, hN⟩ := id hC
  refine miter_ind (fun q r hf k1 k2 => ?_)
  obtain ⟨xs1, xs2, μ⟩ := q
  intro ls H locs hl hW
  have h : vs_LawReading_readNumber_b4 μ xs1 xs2 = some r := hf
  unfold vs_LawReading_readNumber_b4 at h
  refine lv_iload_n hx hb dX4_readNumber_4 rfl (lv_at hl 2 rfl) ?_
  refine lv_iconst (v := 5) hx hb dX4_readNumber_5 (by decide) ?_
  refine lv_icmp_gt (tgt := 59) hx hb dX4_readNumber_6 (by decide) (fun hc1 => ?_) (fun hc1 => ?_)
  · replace h := if_p hc1 h
    obtain rfl := k2 _ (Option.some.inj h).symm
    exact kx1 _ _ _ (lv_sub hl [0, 1] rfl) hW
  · replace h := if_n hc1 h
    refine lv_aload_n hx hb dX4_readNumber_9 rfl (lv_at hl 0 rfl) ?_
    obtain ⟨x2, hx2, h⟩ := mbv_some h
    refine kr_ci hC hW (kr_runV hC hW hl.1 (t_vs_LawReading_sign hx2) cw_X4_43 (wy_77 g μ) rfl rfl rfl (Nat.le_of_ble_eq_true rfl) dX4_readNumber_10 (by decide)) (fun H locs hW => ?_)
    obtain ⟨x3, hx3, h⟩ := mbv_some h
    refine kr_ci hC hW (kr_runS hC hW hl.1 (t_vs_LawReading_isDigit hx3) cw_X4_98 rfl rfl (Nat.le_of_ble_eq_true rfl) dX4_readNumber_13 (by decide)) (fun H locs hW => ?_)
    refine lv_if_eq (tgt := 59) hx hb dX4_readNumber_16 (by decide) (fun hc4 => ?_) (fun hc4 => ?_)
    · replace h := if_p hc4 h
      obtain rfl := k2 _ (Option.some.inj h).symm
      exact kx1 _ _ _ (lv_sub hl [0, 1] rfl) hW
    · replace h := if_n hc4 h
      refine lv_iload_n hx hb dX4_readNumber_19 rfl (lv_at hl 2 rfl) ?_
      refine lv_iconst (v := 5) hx hb dX4_readNumber_20 (by decide) ?_
      refine lv_icmp_ne (tgt := 30) hx hb dX4_readNumber_21 (by decide) (fun hc5 => ?_) (fun hc5 => ?_)
      · replace h := if_n hc5 h
        refine lv_iload_n hx hb dX4_readNumber_30 rfl (lv_at hl 1 rfl) ?_
        refine lv_bipush (v := 10) hx hb dX4_readNumber_31 (by decide) ?_
        refine lv_imul hx hb dX4_readNumber_33 ?_
        refine lv_aload_n hx hb dX4_readNumber_34 rfl (lv_at hl 0 rfl) ?_
        obtain ⟨x6, hx6, h⟩ := mbv_some h
        refine kr_ci hC hW (kr_runV hC hW hl.1 (t_vs_LawReading_sign hx6) cw_X4_43 (wy_77 g μ) rfl rfl rfl (Nat.le_of_ble_eq_true rfl) dX4_readNumber_35 (by decide)) (fun H locs hW => ?_)
        refine lv_iadd hx hb dX4_readNumber_38 ?_
        refine lv_bipush (v := 48) hx hb dX4_readNumber_39 (by decide) ?_
        refine lv_isub hx hb dX4_readNumber_41 ?_
        refine lv_istore_n (lv' := [(1, .int (((xs1 * 10) + x6) - 48)), (0, .ref (ad g 77)), (2, .int xs2)]) hx hb dX4_readNumber_42 rfl hl (by decide) rfl (fun ls hl => ?_)
        refine lv_aload_n hx hb dX4_readNumber_43 rfl (lv_at hl 1 rfl) ?_
        refine lv_dup hx hb dX4_readNumber_44 rfl ?_
        refine gf_X4_33_y77 hC hW dX4_readNumber_45 ?_
        refine lv_iconst (v := 1) hx hb dX4_readNumber_48 (by decide) ?_
        refine lv_iadd hx hb dX4_readNumber_49 ?_
        obtain ⟨μ7, eμ7, h⟩ := mst_some h
        refine pf_X4_33_y77 hC hW eμ7 dX4_readNumber_50 (fun H locs hW => ?_)
        refine lv_iinc (v := (xs2 + 1)) (lv' := [(2, .int (xs2 + 1)), (1, .int (((xs1 * 10) + x6) - 48)), (0, .ref (ad g 77))]) hx hb dX4_readNumber_53 hl (k := 2) rfl (by rw [oi_1]) (by decide) rfl (fun ls hl => ?_)
        refine lv_goto (tgt := 4) hx hb dX4_readNumber_56 (by decide) ?_
        exact k1 ((((xs1 * 10) + x6) - 48), (xs2 + 1), μ7) (Option.some.inj h).symm _ _ _ (lv_sub hl [2, 1, 0] rfl) hW
      · replace h := if_p hc5 h
        obtain rfl := k2 _ (Option.some.inj h).symm
        exact kx0 _ _ _ (lv_sub hl [0] rfl) hW
set_option maxHeartbeats 4000000 in
set_option maxRecDepth 100000 in
theorem t_vs_LawReading_readNumber {l : Launch} {g : Gx} {A : Nat → Prop} {μ : Mm} {v : Bool} {u : Mm} (h : vs_LawReading_readNumber μ = some (v, u)) : Cti l g A wy yX4_readNumber cX4_readNumber 3 (some .boolean) 2 [.ref (ad g 77)] μ (bI v) u := by
  refine ent (lv := [(0, .ref (ad g 77))]) (by decide) (Nat.le_of_ble_eq_true rfl) rfl ?_
  intro p e s m args below meth c hC hr hlocks hnm hW ls hl
  replace hC : Cx g RX4 cX4_readNumber 3 p s m args c := hC
  obtain ⟨hx, hb, hml, hown, hts, hK, hN⟩ := id hC
  unfold vs_LawReading_readNumber at h
  refine lv_iconst (v := 0) hx hb dX4_readNumber_0 (by decide) ?_
  refine lv_istore_n (lv' := [(1, .int 0), (0, .ref (ad g 77))]) hx hb dX4_readNumber_1 rfl hl (by decide) rfl (fun ls hl => ?_)
  refine lv_iconst (v := 0) hx hb dX4_readNumber_2 (by decide) ?_
  refine lv_istore_n (lv' := [(2, .int 0), (1, .int 0), (0, .ref (ad g 77))]) hx hb dX4_readNumber_3 rfl hl (by decide) rfl (fun ls hl => ?_)
  rcases msum2_ex h with ⟨μ9, he8, h⟩ | ⟨e0, he8, h⟩
  · refine tl_vs_LawReading_readNumber_4 hC (e0 := (.inl μ9)) (fun ls H locs hl hW => ?_) trivial FU (0, 0, μ) he8 _ _ _ (lv_sub hl [2, 1, 0] rfl) hW
    refine lv_aload_n hx hb dX4_readNumber_24 rfl (lv_at hl 0 rfl) ?_
    refine lv_iconst (v := 2) hx hb dX4_readNumber_25 (by decide) ?_
    obtain ⟨x10, μ11, hx10, h⟩ := mbm_some h
    refine kr_ci hC hW (kr_runV hC hW hl.1 (t_vs_LawReading_fail hx10) cw_X4_47 (wy_77 g μ9) rfl rfl rfl (Nat.le_of_ble_eq_true rfl) dX4_readNumber_26 (by decide)) (fun H locs hW => ?_)
    cases h
    exact kr_zret hC hr hlocks _ rfl hW dX4_readNumber_29
  · obtain ⟨x12, μ13, ee, h9⟩ := un2_ex h
    clear h
    subst ee
    have h := h9
    clear h9
    refine tl_vs_LawReading_readNumber_4 hC (e0 := (.inr (x12, μ13))) trivial (fun ls H locs hl hW => ?_) FU (0, 0, μ) he8 _ _ _ (lv_sub hl [2, 1, 0] rfl) hW
    refine lv_aload_n hx hb dX4_readNumber_59 rfl (lv_at hl 0 rfl) ?_
    refine gf_X4_25_y77 hC hW dX4_readNumber_60 ?_
    refine lv_iconst (v := 0) hx hb dX4_readNumber_63 (by decide) ?_
    refine lv_iload_n hx hb dX4_readNumber_64 rfl (lv_at hl 1 rfl) ?_
    obtain ⟨μ15, hxμ15, h⟩ := mbv_some h
    refine kr_cv hC hW (kr_runV hC hW hl.1 (t_vs_Law_emit_sp hxμ15) cw_X4_78 (wy_11 g μ13) rfl rfl rfl (Nat.le_of_ble_eq_true rfl) dX4_readNumber_65 (by decide)) (fun H locs hW => ?_)
    refine lv_iconst (v := 1) hx hb dX4_readNumber_68 (by decide) ?_
    cases h
    exact kr_zret hC hr hlocks _ rfl hW dX4_readNumber_69
set_option maxHeartbeats 4000000 in
set_option maxRecDepth 100000 in
theorem t_vs_LawReading_isFact {l : Launch} {g : Gx} {A : Nat → Prop} {Wd : Gx → Mm → va_W} {μ : Mm} {a0 : Int32} {v : Bool} (h : vs_LawReading_isFact a0 = some v) : Cti l g A Wd yX4_isFact cX4_isFact 1 (some .boolean) 0 [.int a0] μ (bI v) μ := by
  refine ent (lv := [(0, .int a0)]) (by decide) (Nat.le_of_ble_eq_true rfl) rfl ?_
  intro p e s m args below meth c hC hr hlocks hnm hW ls hl
  replace hC : Cx g RX4 cX4_isFact 1 p s m args c := hC
  obtain ⟨hx, hb, hml, hown, hts, hK, hN⟩ := id hC
  unfold vs_LawReading_isFact at h
  refine lv_iload_n hx hb dX4_isFact_0 rfl (lv_at hl 0 rfl) ?_
  by_cases hc1 : a0 = 98
  · replace h := if_p hc1 h
    refine lv_tableIn (off := 111) (tgt := 112) hx hb dX4_isFact_1 (by rw [hc1]; decide) (by rw [hc1]; decide) (by rw [hc1]; rfl) (by decide) ?_
    refine lv_iconst (v := 1) hx hb dX4_isFact_112 (by decide) ?_
    cases h
    exact kr_zret hC hr hlocks _ rfl hW dX4_isFact_113
  replace h := if_n hc1 h
  by_cases hc2 : a0 = 99
  · replace h := if_p hc2 h
    refine lv_tableIn (off := 113) (tgt := 114) hx hb dX4_isFact_1 (by rw [hc2]; decide) (by rw [hc2]; decide) (by rw [hc2]; rfl) (by decide) ?_
    refine lv_iconst (v := 0) hx hb dX4_isFact_114 (by decide) ?_
    cases h
    exact kr_zret hC hr hlocks _ rfl hW dX4_isFact_115
  replace h := if_n hc2 h
  by_cases hc3 : a0 = 100
  · replace h := if_p hc3 h
    refine lv_tableIn (off := 113) (tgt := 114) hx hb dX4_isFact_1 (by rw [hc3]; decide) (by rw [hc3]; decide) (by rw [hc3]; rfl) (by decide) ?_
    refine lv_iconst (v := 0) hx hb dX4_isFact_114 (by decide) ?_
    cases h
    exact kr_zret hC hr hlocks _ rfl hW dX4_isFact_115
  replace h := if_n hc3 h
  by_cases hc4 : a0 = 101
  · replace h := if_p hc4 h
    refine lv_tableIn (off := 113) (tgt := 114) hx hb dX4_isFact_1 (by rw [hc4]; decide) (by rw [hc4]; decide) (by rw [hc4]; rfl) (by decide) ?_
    refine lv_iconst (v := 0) hx hb dX4_isFact_114 (by decide) ?_
    cases h
    exact kr_zret hC hr hlocks _ rfl hW dX4_isFact_115
  replace h := if_n hc4 h
  by_cases hc5 : a0 = 102
  · replace h := if_p hc5 h
    refine lv_tableIn (off := 111) (tgt := 112) hx hb dX4_isFact_1 (by rw [hc5]; decide) (by rw [hc5]; decide) (by rw [hc5]; rfl) (by decide) ?_
    refine lv_iconst (v := 1) hx hb dX4_isFact_112 (by decide) ?_
    cases h
    exact kr_zret hC hr hlocks _ rfl hW dX4_isFact_113
  replace h := if_n hc5 h
  by_cases hc6 : a0 = 103
  · replace h := if_p hc6 h
    refine lv_tableIn (off := 113) (tgt := 114) hx hb dX4_isFact_1 (by rw [hc6]; decide) (by rw [hc6]; decide) (by rw [hc6]; rfl) (by decide) ?_
    refine lv_iconst (v := 0) hx hb dX4_isFact_114 (by decide) ?_
    cases h
    exact kr_zret hC hr hlocks _ rfl hW dX4_isFact_115
  replace h := if_n hc6 h
  by_cases hc7 : a0 = 104
  · replace h := if_p hc7 h
    refine lv_tableIn (off := 111) (tgt := 112) hx hb dX4_isFact_1 (by rw [hc7]; decide) (by rw [hc7]; decide) (by rw [hc7]; rfl) (by decide) ?_
    refine lv_iconst (v := 1) hx hb dX4_isFact_112 (by decide) ?_
    cases h
    exact kr_zret hC hr hlocks _ rfl hW dX4_isFact_113
  replace h := if_n hc7 h
  by_cases hc8 : a0 = 105
  · replace h := if_p hc8 h
    refine lv_tableIn (off := 113) (tgt := 114) hx hb dX4_isFact_1 (by rw [hc8]; decide) (by rw [hc8]; decide) (by rw [hc8]; rfl) (by decide) ?_
    refine lv_iconst (v := 0) hx hb dX4_isFact_114 (by decide) ?_
    cases h
    exact kr_zret hC hr hlocks _ rfl hW dX4_isFact_115
  replace h := if_n hc8 h
  by_cases hc9 : a0 = 106
  · replace h := if_p hc9 h
    refine lv_tableIn (off := 113) (tgt := 114) hx hb dX4_isFact_1 (by rw [hc9]; decide) (by rw [hc9]; decide) (by rw [hc9]; rfl) (by decide) ?_
    refine lv_iconst (v := 0) hx hb dX4_isFact_114 (by decide) ?_
    cases h
    exact kr_zret hC hr hlocks _ rfl hW dX4_isFact_115
  replace h := if_n hc9 h
  by_cases hc10 : a0 = 107
  · replace h := if_p hc10 h
    refine lv_tableIn (off := 111) (tgt := 112) hx hb dX4_isFact_1 (by rw [hc10]; decide) (by rw [hc10]; decide) (by rw [hc10]; rfl) (by decide) ?_
    refine lv_iconst (v := 1) hx hb dX4_isFact_112 (by decide) ?_
    cases h
    exact kr_zret hC hr hlocks _ rfl hW dX4_isFact_113
  replace h := if_n hc10 h
  by_cases hc11 : a0 = 108
  · replace h := if_p hc11 h
    refine lv_tableIn (off := 111) (tgt := 112) hx hb dX4_isFact_1 (by rw [hc11]; decide) (by rw [hc11]; decide) (by rw [hc11]; rfl) (by decide) ?_
    refine lv_iconst (v := 1) hx hb dX4_isFact_112 (by decide) ?_
    cases h
    exact kr_zret hC hr hlocks _ rfl hW dX4_isFact_113
  replace h := if_n hc11 h
  by_cases hc12 : a0 = 109
  · replace h := if_p hc12 h
    refine lv_tableIn (off := 113) (tgt := 114) hx hb dX4_isFact_1 (by rw [hc12]; decide) (by rw [hc12]; decide) (by rw [hc12]; rfl) (by decide) ?_
    refine lv_iconst (v := 0) hx hb dX4_isFact_114 (by decide) ?_
    cases h
    exact kr_zret hC hr hlocks _ rfl hW dX4_isFact_115
  replace h := if_n hc12 h
  by_cases hc13 : a0 = 110
  · replace h := if_p hc13 h
    refine lv_tableIn (off := 111) (tgt := 112) hx hb dX4_isFact_1 (by rw [hc13]; decide) (by rw [hc13]; decide) (by rw [hc13]; rfl) (by decide) ?_
    refine lv_iconst (v := 1) hx hb dX4_isFact_112 (by decide) ?_
    cases h
    exact kr_zret hC hr hlocks _ rfl hW dX4_isFact_113
  replace h := if_n hc13 h
  by_cases hc14 : a0 = 111
  · replace h := if_p hc14 h
    refine lv_tableIn (off := 113) (tgt := 114) hx hb dX4_isFact_1 (by rw [hc14]; decide) (by rw [hc14]; decide) (by rw [hc14]; rfl) (by decide) ?_
    refine lv_iconst (v := 0) hx hb dX4_isFact_114 (by decide) ?_
    cases h
    exact kr_zret hC hr hlocks _ rfl hW dX4_isFact_115
  replace h := if_n hc14 h
  by_cases hc15 : a0 = 112
  · replace h := if_p hc15 h
    refine lv_tableIn (off := 111) (tgt := 112) hx hb dX4_isFact_1 (by rw [hc15]; decide) (by rw [hc15]; decide) (by rw [hc15]; rfl) (by decide) ?_
    refine lv_iconst (v := 1) hx hb dX4_isFact_112 (by decide) ?_
    cases h
    exact kr_zret hC hr hlocks _ rfl hW dX4_isFact_113
  replace h := if_n hc15 h
  by_cases hc16 : a0 = 113
  · replace h := if_p hc16 h
    refine lv_tableIn (off := 113) (tgt := 114) hx hb dX4_isFact_1 (by rw [hc16]; decide) (by rw [hc16]; decide) (by rw [hc16]; rfl) (by decide) ?_
    refine lv_iconst (v := 0) hx hb dX4_isFact_114 (by decide) ?_
    cases h
    exact kr_zret hC hr hlocks _ rfl hW dX4_isFact_115
  replace h := if_n hc16 h
  by_cases hc17 : a0 = 114
  · replace h := if_p hc17 h
    refine lv_tableIn (off := 111) (tgt := 112) hx hb dX4_isFact_1 (by rw [hc17]; decide) (by rw [hc17]; decide) (by rw [hc17]; rfl) (by decide) ?_
    refine lv_iconst (v := 1) hx hb dX4_isFact_112 (by decide) ?_
    cases h
    exact kr_zret hC hr hlocks _ rfl hW dX4_isFact_113
  replace h := if_n hc17 h
  by_cases hc18 : a0 = 115
  · replace h := if_p hc18 h
    refine lv_tableIn (off := 111) (tgt := 112) hx hb dX4_isFact_1 (by rw [hc18]; decide) (by rw [hc18]; decide) (by rw [hc18]; rfl) (by decide) ?_
    refine lv_iconst (v := 1) hx hb dX4_isFact_112 (by decide) ?_
    cases h
    exact kr_zret hC hr hlocks _ rfl hW dX4_isFact_113
  replace h := if_n hc18 h
  by_cases hc19 : a0 = 116
  · replace h := if_p hc19 h
    refine lv_tableIn (off := 111) (tgt := 112) hx hb dX4_isFact_1 (by rw [hc19]; decide) (by rw [hc19]; decide) (by rw [hc19]; rfl) (by decide) ?_
    refine lv_iconst (v := 1) hx hb dX4_isFact_112 (by decide) ?_
    cases h
    exact kr_zret hC hr hlocks _ rfl hW dX4_isFact_113
  replace h := if_n hc19 h
  by_cases hc20 : a0 = 117
  · replace h := if_p hc20 h
    refine lv_tableIn (off := 113) (tgt := 114) hx hb dX4_isFact_1 (by rw [hc20]; decide) (by rw [hc20]; decide) (by rw [hc20]; rfl) (by decide) ?_
    refine lv_iconst (v := 0) hx hb dX4_isFact_114 (by decide) ?_
    cases h
    exact kr_zret hC hr hlocks _ rfl hW dX4_isFact_115
  replace h := if_n hc20 h
  by_cases hc21 : a0 = 118
  · replace h := if_p hc21 h
    refine lv_tableIn (off := 113) (tgt := 114) hx hb dX4_isFact_1 (by rw [hc21]; decide) (by rw [hc21]; decide) (by rw [hc21]; rfl) (by decide) ?_
    refine lv_iconst (v := 0) hx hb dX4_isFact_114 (by decide) ?_
    cases h
    exact kr_zret hC hr hlocks _ rfl hW dX4_isFact_115
  replace h := if_n hc21 h
  by_cases hc22 : a0 = 119
  · replace h := if_p hc22 h
    refine lv_tableIn (off := 113) (tgt := 114) hx hb dX4_isFact_1 (by rw [hc22]; decide) (by rw [hc22]; decide) (by rw [hc22]; rfl) (by decide) ?_
    refine lv_iconst (v := 0) hx hb dX4_isFact_114 (by decide) ?_
    cases h
    exact kr_zret hC hr hlocks _ rfl hW dX4_isFact_115
  replace h := if_n hc22 h
  by_cases hc23 : a0 = 120
  · replace h := if_p hc23 h
    refine lv_tableIn (off := 111) (tgt := 112) hx hb dX4_isFact_1 (by rw [hc23]; decide) (by rw [hc23]; decide) (by rw [hc23]; rfl) (by decide) ?_
    refine lv_iconst (v := 1) hx hb dX4_isFact_112 (by decide) ?_
    cases h
    exact kr_zret hC hr hlocks _ rfl hW dX4_isFact_113
  replace h := if_n hc23 h
  by_cases hc24 : a0 = 121
  · replace h := if_p hc24 h
    refine lv_tableIn (off := 111) (tgt := 112) hx hb dX4_isFact_1 (by rw [hc24]; decide) (by rw [hc24]; decide) (by rw [hc24]; rfl) (by decide) ?_
    refine lv_iconst (v := 1) hx hb dX4_isFact_112 (by decide) ?_
    cases h
    exact kr_zret hC hr hlocks _ rfl hW dX4_isFact_113
  replace h := if_n hc24 h
  have thc1 := lv_neT (a := 98) hc1 (by decide)
  have thc2 := lv_neT (a := 99) hc2 (by decide)
  have thc3 := lv_neT (a := 100) hc3 (by decide)
  have thc4 := lv_neT (a := 101) hc4 (by decide)
  have thc5 := lv_neT (a := 102) hc5 (by decide)
  have thc6 := lv_neT (a := 103) hc6 (by decide)
  have thc7 := lv_neT (a := 104) hc7 (by decide)
  have thc8 := lv_neT (a := 105) hc8 (by decide)
  have thc9 := lv_neT (a := 106) hc9 (by decide)
  have thc10 := lv_neT (a := 107) hc10 (by decide)
  have thc11 := lv_neT (a := 108) hc11 (by decide)
  have thc12 := lv_neT (a := 109) hc12 (by decide)
  have thc13 := lv_neT (a := 110) hc13 (by decide)
  have thc14 := lv_neT (a := 111) hc14 (by decide)
  have thc15 := lv_neT (a := 112) hc15 (by decide)
  have thc16 := lv_neT (a := 113) hc16 (by decide)
  have thc17 := lv_neT (a := 114) hc17 (by decide)
  have thc18 := lv_neT (a := 115) hc18 (by decide)
  have thc19 := lv_neT (a := 116) hc19 (by decide)
  have thc20 := lv_neT (a := 117) hc20 (by decide)
  have thc21 := lv_neT (a := 118) hc21 (by decide)
  have thc22 := lv_neT (a := 119) hc22 (by decide)
  have thc23 := lv_neT (a := 120) hc23 (by decide)
  have thc24 := lv_neT (a := 121) hc24 (by decide)
  refine lv_tableOut (tgt := 114) hx hb dX4_isFact_1 (by omega) (by decide) ?_
  refine lv_iconst (v := 0) hx hb dX4_isFact_114 (by decide) ?_
  cases h
  exact kr_zret hC hr hlocks _ rfl hW dX4_isFact_115
set_option maxHeartbeats 4000000 in
set_option maxRecDepth 100000 in
theorem t_vs_Law_aimHere_sp {l : Launch} {g : Gx} {A : Nat → Prop} {μ : Mm} {a1 : Int32} {u : Mm} (h : vs_Law_aimHere_sp μ a1 = some u) : Ctv l g A wy yX3_aimHere cX3_aimHere 2 none 1 [.ref (ad g 11), .int a1] μ u := by
  refine ent (lv := [(0, .ref (ad g 11)), (1, .int a1)]) (by decide) (Nat.le_of_ble_eq_true rfl) rfl ?_
  intro p e s m args below meth c hC hr hlocks hnm hW ls hl
  replace hC : Cx g RX3 cX3_aimHere 2 p s m args c := hC
  obtain ⟨hx, hb, hml, hown, hts, hK, hN⟩ := id hC
  unfold vs_Law_aimHere_sp at h
  refine lv_iload_n hx hb dX3_aimHere_0 rfl (lv_at hl 1 rfl) ?_
  refine lv_iconst (v := 0) hx hb dX3_aimHere_1 (by decide) ?_
  refine lv_sipush (v := 199) hx hb dX3_aimHere_2 (by decide) ?_
  obtain ⟨x1, hx1, h⟩ := mbv_some h
  refine kr_ci hC hW (kr_runN hC hW hl.1 (t_vs_within hx1) cw_X3_40 rfl rfl (Nat.le_of_ble_eq_true rfl) dX3_aimHere_5 (by decide)) (fun H locs hW => ?_)
  refine lv_if_eq (tgt := 21) hx hb dX3_aimHere_8 (by decide) (fun hc2 => ?_) (fun hc2 => ?_)
  · replace h := if_p hc2 h
    cases h
    exact kr_vret hC hr hlocks hW dX3_aimHere_21
  · replace h := if_n hc2 h
    refine lv_aload_n hx hb dX3_aimHere_11 rfl (lv_at hl 0 rfl) ?_
    refine gf_X3_15_y11 hC hW dX3_aimHere_12 ?_
    refine lv_iload_n hx hb dX3_aimHere_15 rfl (lv_at hl 1 rfl) ?_
    refine lv_aload_n hx hb dX3_aimHere_16 rfl (lv_at hl 0 rfl) ?_
    refine gf_X3_33_y11 hC hW dX3_aimHere_17 ?_
    obtain ⟨μ3, eμ3, hin, h⟩ := mwr_ex h
    refine kr_iast hC hW (wy_71 g μ) (wys_71 eμ3) hin dX3_aimHere_20 (fun H locs hW => ?_)
    cases h
    exact kr_vret hC hr hlocks hW dX3_aimHere_21
set_option maxHeartbeats 4000000 in
set_option maxRecDepth 100000 in
theorem tl_vs_LawReading_readTest_8 {rc : Nat → Mm → Int32 → Option (Bool × Mm)} {dd : Nat} (hdd : 3 ≤ dd) (hrc : (∀ (μ : Mm) (a1 : Int32) (v : Bool) (u : Mm), rc 0 μ a1 = some (v, u) → Cti l g A wy yX4_readTest cX4_readTest 5 (some .boolean) dd [.ref (ad g 77), .int a1] μ (bI v) u) ∧ (∀ (μ : Mm) (a1 : Int32) (v : Bool) (u : Mm), rc 1 μ a1 = some (v, u) → Cti l g A wy yX4_readPart cX4_readPart 5 (some .boolean) dd [.ref (ad g 77), .int a1] μ (bI v) u) ∧ (∀ (μ : Mm) (a1 : Int32) (v : Bool) (u : Mm), rc 2 μ a1 = some (v, u) → Cti l g A wy yX4_readPiece cX4_readPiece 5 (some .boolean) dd [.ref (ad g 77), .int a1] μ (bI v) u) ∧ (∀ (μ : Mm) (a1 : Int32) (v : Bool) (u : Mm), rc 3 μ a1 = some (v, u) → Cti l g A wy yX4_readSum cX4_readSum 5 (some .boolean) dd [.ref (ad g 77), .int a1] μ (bI v) u) ∧ (∀ (μ : Mm) (a1 : Int32) (v : Bool) (u : Mm), rc 4 μ a1 = some (v, u) → Cti l g A wy yX4_readTerm cX4_readTerm 5 (some .boolean) dd [.ref (ad g 77), .int a1] μ (bI v) u) ∧ (∀ (μ : Mm) (a1 : Int32) (v : Bool) (u : Mm), rc 5 μ a1 = some (v, u) → Cti l g A wy yX4_readFactor cX4_readFactor 3 (some .boolean) dd [.ref (ad g 77), .int a1] μ (bI v) u)) (a1 : Int32) (hC : Cx g RX4 cX4_readTest 5 p s m args c) {e0 : (Int32 × Mm)} (kx0 : ∀ (ls : Array Slot) (H : Heap) (locs : List Loc), lv_has ls 5 [(2, .int e0.1)] → wP g wy A s.heap e0.2 H locs → W p l e (rmD (dd + 1)) s m args below meth c H locs 0 0 Q (F0 m 77 ls [])) : ∀ (n : Nat) (q : Int32 × Int32 × Mm), miter (fun q => vs_LawReading_readTest_b8 rc q.2.2 a1 q.1 q.2.1) n q = some e0 → ∀ (ls : Array Slot) (H : Heap) (locs : List Loc), lv_has ls 5 [(0, .ref (ad g 77)), (1, .int a1), (2, .int q.1), (3, .int q.2.1)] → wP g wy A s.heap q.2.2 H locs → W p l e (rmD (dd + 1)) s m args below meth c H locs 0 0 Q (F0 m 8 ls []) := by
  obtain ⟨hx, hb, hml, hown, hts, hK, hN⟩ := id hC
  refine miter_ind (fun q r hf k1 k2 => ?_)
  obtain ⟨xs2, xs3, μ⟩ := q
  intro ls H locs hl hW
  have h : vs_LawReading_readTest_b8 rc μ a1 xs2 xs3 = some r := hf
  unfold vs_LawReading_readTest_b8 at h
  refine lv_iload_n hx hb dX4_readTest_8 rfl (lv_at hl 3 rfl) ?_
  refine lv_sipush (v := 200) hx hb dX4_readTest_9 (by decide) ?_
  refine lv_icmp_ge (tgt := 77) hx hb dX4_readTest_12 (by decide) (fun hc3 => ?_) (fun hc3 => ?_)
  · replace h := if_p hc3 h
    obtain rfl := k2 _ (Option.some.inj h).symm
    exact kx0 _ _ _ (lv_sub hl [2] rfl) hW
  · replace h := if_n hc3 h
    refine lv_iload_n hx hb dX4_readTest_15 rfl (lv_at hl 2 rfl) ?_
    refine lv_if_eq (tgt := 77) hx hb dX4_readTest_16 (by decide) (fun hc4 => ?_) (fun hc4 => ?_)
    · replace h := if_p hc4 h
      obtain rfl := k2 _ (Option.some.inj h).symm
      exact kx0 _ _ _ (lv_sub hl [2] rfl) hW
    · replace h := if_n hc4 h
      refine lv_aload_n hx hb dX4_readTest_19 rfl (lv_at hl 0 rfl) ?_
      obtain ⟨x5, hx5, h⟩ := mbv_some h
      refine kr_ci hC hW (kr_runV hC hW hl.1 (t_vs_LawReading_sign hx5) cw_X4_43 (wy_77 g μ) rfl rfl rfl (Nat.le_of_ble_eq_true rfl) dX4_readTest_20 (by omega)) (fun H locs hW => ?_)
      refine lv_bipush (v := 124) hx hb dX4_readTest_23 (by decide) ?_
      refine lv_icmp_ne (tgt := 77) hx hb dX4_readTest_25 (by decide) (fun hc6 => ?_) (fun hc6 => ?_)
      · replace h := if_n hc6 h
        obtain rfl := k2 _ (Option.some.inj h).symm
        exact kx0 _ _ _ (lv_sub hl [2] rfl) hW
      · replace h := if_p hc6 h
        refine lv_aload_n hx hb dX4_readTest_28 rfl (lv_at hl 0 rfl) ?_
        refine gf_X4_25_y77 hC hW dX4_readTest_29 ?_
        refine gf_X4_61_y11 hC hW dX4_readTest_32 ?_
        refine lv_istore (lv' := [(4, .int (μ 11 7)), (0, .ref (ad g 77)), (1, .int a1), (2, .int xs2), (3, .int xs3)]) hx hb dX4_readTest_35 hl (by decide) rfl (fun ls hl => ?_)
        refine lv_aload_n hx hb dX4_readTest_37 rfl (lv_at hl 1 rfl) ?_
        refine lv_dup hx hb dX4_readTest_38 rfl ?_
        refine gf_X4_33_y77 hC hW dX4_readTest_39 ?_
        refine lv_iconst (v := 1) hx hb dX4_readTest_42 (by decide) ?_
        refine lv_iadd hx hb dX4_readTest_43 ?_
        obtain ⟨μ7, eμ7, h⟩ := mst_some h
        refine pf_X4_33_y77 hC hW eμ7 dX4_readTest_44 (fun H locs hW => ?_)
        refine lv_aload_n hx hb dX4_readTest_47 rfl (lv_at hl 1 rfl) ?_
        refine gf_X4_25_y77 hC hW dX4_readTest_48 ?_
        refine lv_iconst (v := 4) hx hb dX4_readTest_51 (by decide) ?_
        refine lv_iconst (v := 0) hx hb dX4_readTest_52 (by decide) ?_
        obtain ⟨μ9, hxμ9, h⟩ := mbv_some h
        refine kr_cv hC hW (kr_runV hC hW hl.1 (t_vs_Law_emit_sp hxμ9) cw_X4_78 (wy_11 g μ7) rfl rfl rfl (Nat.le_of_ble_eq_true rfl) dX4_readTest_53 (by omega)) (fun H locs hW => ?_)
        refine lv_aload_n hx hb dX4_readTest_56 rfl (lv_at hl 1 rfl) ?_
        refine lv_iload_n hx hb dX4_readTest_57 rfl (lv_at hl 2 rfl) ?_
        obtain ⟨x10, μ11, hx10, h⟩ := mbm_some h
        refine kr_ci hC hW (kr_runV hC hW hl.1 (hrc.2.1 _ _ _ _ hx10) cw_X4_75 (wy_77 g μ9) rfl rfl rfl (Nat.le_of_ble_eq_true rfl) dX4_readTest_58 (by omega)) (fun H locs hW => ?_)
        refine lv_istore_n (lv' := [(2, .int (bI x10)), (4, .int (μ 11 7)), (0, .ref (ad g 77)), (1, .int a1), (3, .int xs3)]) hx hb dX4_readTest_61 rfl hl (by decide) rfl (fun ls hl => ?_)
        refine lv_aload_n hx hb dX4_readTest_62 rfl (lv_at hl 2 rfl) ?_
        refine gf_X4_25_y77 hC hW dX4_readTest_63 ?_
        refine lv_iload hx hb dX4_readTest_66 (lv_at hl 1 rfl) ?_
        obtain ⟨μ13, hxμ13, h⟩ := mbv_some h
        refine kr_cv hC hW (kr_runV hC hW hl.1 (t_vs_Law_aimHere_sp hxμ13) cw_X4_82 (wy_11 g μ11) rfl rfl rfl (Nat.le_of_ble_eq_true rfl) dX4_readTest_68 (by omega)) (fun H locs hW => ?_)
        refine lv_iinc (v := (xs3 + 1)) (lv' := [(3, .int (xs3 + 1)), (2, .int (bI x10)), (4, .int (μ 11 7)), (0, .ref (ad g 77)), (1, .int a1)]) hx hb dX4_readTest_71 hl (k := 4) rfl (by rw [oi_1]) (by decide) rfl (fun ls hl => ?_)
        refine lv_goto (tgt := 8) hx hb dX4_readTest_74 (by decide) ?_
        exact k1 ((bI x10), (xs3 + 1), μ13) (Option.some.inj h).symm _ _ _ (lv_sub hl [3, 4, 1, 0] rfl) hW
set_option maxHeartbeats 4000000 in
set_option maxRecDepth 100000 in
theorem t_vs_LawReading_readTest_r {l : Launch} {g : Gx} {A : Nat → Prop} {rc : Nat → Mm → Int32 → Option (Bool × Mm)} {dd : Nat} (hdd : 3 ≤ dd) (hrc : (∀ (μ : Mm) (a1 : Int32) (v : Bool) (u : Mm), rc 0 μ a1 = some (v, u) → Cti l g A wy yX4_readTest cX4_readTest 5 (some .boolean) dd [.ref (ad g 77), .int a1] μ (bI v) u) ∧ (∀ (μ : Mm) (a1 : Int32) (v : Bool) (u : Mm), rc 1 μ a1 = some (v, u) → Cti l g A wy yX4_readPart cX4_readPart 5 (some .boolean) dd [.ref (ad g 77), .int a1] μ (bI v) u) ∧ (∀ (μ : Mm) (a1 : Int32) (v : Bool) (u : Mm), rc 2 μ a1 = some (v, u) → Cti l g A wy yX4_readPiece cX4_readPiece 5 (some .boolean) dd [.ref (ad g 77), .int a1] μ (bI v) u) ∧ (∀ (μ : Mm) (a1 : Int32) (v : Bool) (u : Mm), rc 3 μ a1 = some (v, u) → Cti l g A wy yX4_readSum cX4_readSum 5 (some .boolean) dd [.ref (ad g 77), .int a1] μ (bI v) u) ∧ (∀ (μ : Mm) (a1 : Int32) (v : Bool) (u : Mm), rc 4 μ a1 = some (v, u) → Cti l g A wy yX4_readTerm cX4_readTerm 5 (some .boolean) dd [.ref (ad g 77), .int a1] μ (bI v) u) ∧ (∀ (μ : Mm) (a1 : Int32) (v : Bool) (u : Mm), rc 5 μ a1 = some (v, u) → Cti l g A wy yX4_readFactor cX4_readFactor 3 (some .boolean) dd [.ref (ad g 77), .int a1] μ (bI v) u)) {μ : Mm} {a1 : Int32} {v : Bool} {u : Mm} (h : vs_LawReading_readTest_r rc μ a1 = some (v, u)) : Cti l g A wy yX4_readTest cX4_readTest 5 (some .boolean) (dd + 1) [.ref (ad g 77), .int a1] μ (bI v) u := by
  refine ent (lv := [(0, .ref (ad g 77)), (1, .int a1)]) (by decide) (Nat.le_of_ble_eq_true rfl) rfl ?_
  intro p e s m args below meth c hC hr hlocks hnm hW ls hl
  replace hC : Cx g RX4 cX4_readTest 5 p s m args c := hC
  obtain ⟨hx, hb, hml, hown, hts, hK, hN⟩ := id hC
  unfold vs_LawReading_readTest_r at h
  refine lv_aload_n hx hb dX4_readTest_0 rfl (lv_at hl 0 rfl) ?_
  refine lv_iload_n hx hb dX4_readTest_1 rfl (lv_at hl 1 rfl) ?_
  obtain ⟨x1, μ2, hx1, h⟩ := mbm_some h
  refine kr_ci hC hW (kr_runV hC hW hl.1 (hrc.2.1 _ _ _ _ hx1) cw_X4_75 (wy_77 g μ) rfl rfl rfl (Nat.le_of_ble_eq_true rfl) dX4_readTest_2 (by omega)) (fun H locs hW => ?_)
  refine lv_istore_n (lv' := [(2, .int (bI x1)), (0, .ref (ad g 77)), (1, .int a1)]) hx hb dX4_readTest_5 rfl hl (by decide) rfl (fun ls hl => ?_)
  refine lv_iconst (v := 0) hx hb dX4_readTest_6 (by decide) ?_
  refine lv_istore_n (lv' := [(3, .int 0), (2, .int (bI x1)), (0, .ref (ad g 77)), (1, .int a1)]) hx hb dX4_readTest_7 rfl hl (by decide) rfl (fun ls hl => ?_)
  obtain ⟨e0, he17, h⟩ := mbv_some h
  obtain ⟨x14, μ15, ee, h9⟩ := un2_ex h
  clear h
  subst ee
  have h := h9
  clear h9
  refine tl_vs_LawReading_readTest_8 hdd hrc a1 hC (fun ls H locs hl hW => ?_) FU ((bI x1), 0, μ2) he17 _ _ _ (lv_sub hl [2, 3, 1, 0] rfl) hW
  refine lv_iload_n hx hb dX4_readTest_77 rfl (lv_at hl 0 rfl) ?_
  obtain ⟨b16, hv, h⟩ := mzr_some h
  cases h
  exact kr_zret hC hr hlocks _ hv hW dX4_readTest_78
set_option maxHeartbeats 4000000 in
set_option maxRecDepth 100000 in
theorem tl_vs_LawReading_readPart_8 {rc : Nat → Mm → Int32 → Option (Bool × Mm)} {dd : Nat} (hdd : 3 ≤ dd) (hrc : (∀ (μ : Mm) (a1 : Int32) (v : Bool) (u : Mm), rc 0 μ a1 = some (v, u) → Cti l g A wy yX4_readTest cX4_readTest 5 (some .boolean) dd [.ref (ad g 77), .int a1] μ (bI v) u) ∧ (∀ (μ : Mm) (a1 : Int32) (v : Bool) (u : Mm), rc 1 μ a1 = some (v, u) → Cti l g A wy yX4_readPart cX4_readPart 5 (some .boolean) dd [.ref (ad g 77), .int a1] μ (bI v) u) ∧ (∀ (μ : Mm) (a1 : Int32) (v : Bool) (u : Mm), rc 2 μ a1 = some (v, u) → Cti l g A wy yX4_readPiece cX4_readPiece 5 (some .boolean) dd [.ref (ad g 77), .int a1] μ (bI v) u) ∧ (∀ (μ : Mm) (a1 : Int32) (v : Bool) (u : Mm), rc 3 μ a1 = some (v, u) → Cti l g A wy yX4_readSum cX4_readSum 5 (some .boolean) dd [.ref (ad g 77), .int a1] μ (bI v) u) ∧ (∀ (μ : Mm) (a1 : Int32) (v : Bool) (u : Mm), rc 4 μ a1 = some (v, u) → Cti l g A wy yX4_readTerm cX4_readTerm 5 (some .boolean) dd [.ref (ad g 77), .int a1] μ (bI v) u) ∧ (∀ (μ : Mm) (a1 : Int32) (v : Bool) (u : Mm), rc 5 μ a1 = some (v, u) → Cti l g A wy yX4_readFactor cX4_readFactor 3 (some .boolean) dd [.ref (ad g 77), .int a1] μ (bI v) u)) (a1 : Int32) (hC : Cx g RX4 cX4_readPart 5 p s m args c) {e0 : (Int32 × Mm)} (kx0 : ∀ (ls : Array Slot) (H : Heap) (locs : List Loc), lv_has ls 5 [(2, .int e0.1)] → wP g wy A s.heap e0.2 H locs → W p l e (rmD (dd + 1)) s m args below meth c H locs 0 0 Q (F0 m 77 ls [])) : ∀ (n : Nat) (q : Int32 × Int32 × Mm), miter (fun q => vs_LawReading_readPart_b8 rc q.2.2 a1 q.1 q.2.1) n q = some e0 → ∀ (ls : Array Slot) (H : Heap) (locs : List Loc), lv_has ls 5 [(0, .ref (ad g 77)), (1, .int a1), (2, .int q.1), (3, .int q.2.1)] → wP g wy A s.heap q.2.2 H locs → W p l e (rmD (dd + 1)) s m args below meth c H locs 0 0 Q (F0 m 8 ls []) := by
  obtain ⟨hx, hb, hml, hown, hts, hK, hN⟩ := id hC
  refine miter_ind (fun q r hf k1 k2 => ?_)
  obtain ⟨xs2, xs3, μ⟩ := q
  intro ls H locs hl hW
  have h : vs_LawReading_readPart_b8 rc μ a1 xs2 xs3 = some r := hf
  unfold vs_LawReading_readPart_b8 at h
  refine lv_iload_n hx hb dX4_readPart_8 rfl (lv_at hl 3 rfl) ?_
  refine lv_sipush (v := 200) hx hb dX4_readPart_9 (by decide) ?_
  refine lv_icmp_ge (tgt := 77) hx hb dX4_readPart_12 (by decide) (fun hc3 => ?_) (fun hc3 => ?_)
  · replace h := if_p hc3 h
    obtain rfl := k2 _ (Option.some.inj h).symm
    exact kx0 _ _ _ (lv_sub hl [2] rfl) hW
  · replace h := if_n hc3 h
    refine lv_iload_n hx hb dX4_readPart_15 rfl (lv_at hl 2 rfl) ?_
    refine lv_if_eq (tgt := 77) hx hb dX4_readPart_16 (by decide) (fun hc4 => ?_) (fun hc4 => ?_)
    · replace h := if_p hc4 h
      obtain rfl := k2 _ (Option.some.inj h).symm
      exact kx0 _ _ _ (lv_sub hl [2] rfl) hW
    · replace h := if_n hc4 h
      refine lv_aload_n hx hb dX4_readPart_19 rfl (lv_at hl 0 rfl) ?_
      obtain ⟨x5, hx5, h⟩ := mbv_some h
      refine kr_ci hC hW (kr_runV hC hW hl.1 (t_vs_LawReading_sign hx5) cw_X4_43 (wy_77 g μ) rfl rfl rfl (Nat.le_of_ble_eq_true rfl) dX4_readPart_20 (by omega)) (fun H locs hW => ?_)
      refine lv_bipush (v := 38) hx hb dX4_readPart_23 (by decide) ?_
      refine lv_icmp_ne (tgt := 77) hx hb dX4_readPart_25 (by decide) (fun hc6 => ?_) (fun hc6 => ?_)
      · replace h := if_n hc6 h
        obtain rfl := k2 _ (Option.some.inj h).symm
        exact kx0 _ _ _ (lv_sub hl [2] rfl) hW
      · replace h := if_p hc6 h
        refine lv_aload_n hx hb dX4_readPart_28 rfl (lv_at hl 0 rfl) ?_
        refine gf_X4_25_y77 hC hW dX4_readPart_29 ?_
        refine gf_X4_61_y11 hC hW dX4_readPart_32 ?_
        refine lv_istore (lv' := [(4, .int (μ 11 7)), (0, .ref (ad g 77)), (1, .int a1), (2, .int xs2), (3, .int xs3)]) hx hb dX4_readPart_35 hl (by decide) rfl (fun ls hl => ?_)
        refine lv_aload_n hx hb dX4_readPart_37 rfl (lv_at hl 1 rfl) ?_
        refine lv_dup hx hb dX4_readPart_38 rfl ?_
        refine gf_X4_33_y77 hC hW dX4_readPart_39 ?_
        refine lv_iconst (v := 1) hx hb dX4_readPart_42 (by decide) ?_
        refine lv_iadd hx hb dX4_readPart_43 ?_
        obtain ⟨μ7, eμ7, h⟩ := mst_some h
        refine pf_X4_33_y77 hC hW eμ7 dX4_readPart_44 (fun H locs hW => ?_)
        refine lv_aload_n hx hb dX4_readPart_47 rfl (lv_at hl 1 rfl) ?_
        refine gf_X4_25_y77 hC hW dX4_readPart_48 ?_
        refine lv_iconst (v := 3) hx hb dX4_readPart_51 (by decide) ?_
        refine lv_iconst (v := 0) hx hb dX4_readPart_52 (by decide) ?_
        obtain ⟨μ9, hxμ9, h⟩ := mbv_some h
        refine kr_cv hC hW (kr_runV hC hW hl.1 (t_vs_Law_emit_sp hxμ9) cw_X4_78 (wy_11 g μ7) rfl rfl rfl (Nat.le_of_ble_eq_true rfl) dX4_readPart_53 (by omega)) (fun H locs hW => ?_)
        refine lv_aload_n hx hb dX4_readPart_56 rfl (lv_at hl 1 rfl) ?_
        refine lv_iload_n hx hb dX4_readPart_57 rfl (lv_at hl 2 rfl) ?_
        obtain ⟨x10, μ11, hx10, h⟩ := mbm_some h
        refine kr_ci hC hW (kr_runV hC hW hl.1 (hrc.2.2.1 _ _ _ _ hx10) cw_X4_86 (wy_77 g μ9) rfl rfl rfl (Nat.le_of_ble_eq_true rfl) dX4_readPart_58 (by omega)) (fun H locs hW => ?_)
        refine lv_istore_n (lv' := [(2, .int (bI x10)), (4, .int (μ 11 7)), (0, .ref (ad g 77)), (1, .int a1), (3, .int xs3)]) hx hb dX4_readPart_61 rfl hl (by decide) rfl (fun ls hl => ?_)
        refine lv_aload_n hx hb dX4_readPart_62 rfl (lv_at hl 2 rfl) ?_
        refine gf_X4_25_y77 hC hW dX4_readPart_63 ?_
        refine lv_iload hx hb dX4_readPart_66 (lv_at hl 1 rfl) ?_
        obtain ⟨μ13, hxμ13, h⟩ := mbv_some h
        refine kr_cv hC hW (kr_runV hC hW hl.1 (t_vs_Law_aimHere_sp hxμ13) cw_X4_82 (wy_11 g μ11) rfl rfl rfl (Nat.le_of_ble_eq_true rfl) dX4_readPart_68 (by omega)) (fun H locs hW => ?_)
        refine lv_iinc (v := (xs3 + 1)) (lv' := [(3, .int (xs3 + 1)), (2, .int (bI x10)), (4, .int (μ 11 7)), (0, .ref (ad g 77)), (1, .int a1)]) hx hb dX4_readPart_71 hl (k := 4) rfl (by rw [oi_1]) (by decide) rfl (fun ls hl => ?_)
        refine lv_goto (tgt := 8) hx hb dX4_readPart_74 (by decide) ?_
        exact k1 ((bI x10), (xs3 + 1), μ13) (Option.some.inj h).symm _ _ _ (lv_sub hl [3, 4, 1, 0] rfl) hW
set_option maxHeartbeats 4000000 in
set_option maxRecDepth 100000 in
theorem t_vs_LawReading_readPart_r {l : Launch} {g : Gx} {A : Nat → Prop} {rc : Nat → Mm → Int32 → Option (Bool × Mm)} {dd : Nat} (hdd : 3 ≤ dd) (hrc : (∀ (μ : Mm) (a1 : Int32) (v : Bool) (u : Mm), rc 0 μ a1 = some (v, u) → Cti l g A wy yX4_readTest cX4_readTest 5 (some .boolean) dd [.ref (ad g 77), .int a1] μ (bI v) u) ∧ (∀ (μ : Mm) (a1 : Int32) (v : Bool) (u : Mm), rc 1 μ a1 = some (v, u) → Cti l g A wy yX4_readPart cX4_readPart 5 (some .boolean) dd [.ref (ad g 77), .int a1] μ (bI v) u) ∧ (∀ (μ : Mm) (a1 : Int32) (v : Bool) (u : Mm), rc 2 μ a1 = some (v, u) → Cti l g A wy yX4_readPiece cX4_readPiece 5 (some .boolean) dd [.ref (ad g 77), .int a1] μ (bI v) u) ∧ (∀ (μ : Mm) (a1 : Int32) (v : Bool) (u : Mm), rc 3 μ a1 = some (v, u) → Cti l g A wy yX4_readSum cX4_readSum 5 (some .boolean) dd [.ref (ad g 77), .int a1] μ (bI v) u) ∧ (∀ (μ : Mm) (a1 : Int32) (v : Bool) (u : Mm), rc 4 μ a1 = some (v, u) → Cti l g A wy yX4_readTerm cX4_readTerm 5 (some .boolean) dd [.ref (ad g 77), .int a1] μ (bI v) u) ∧ (∀ (μ : Mm) (a1 : Int32) (v : Bool) (u : Mm), rc 5 μ a1 = some (v, u) → Cti l g A wy yX4_readFactor cX4_readFactor 3 (some .boolean) dd [.ref (ad g 77), .int a1] μ (bI v) u)) {μ : Mm} {a1 : Int32} {v : Bool} {u : Mm} (h : vs_LawReading_readPart_r rc μ a1 = some (v, u)) : Cti l g A wy yX4_readPart cX4_readPart 5 (some .boolean) (dd + 1) [.ref (ad g 77), .int a1] μ (bI v) u := by
  refine ent (lv := [(0, .ref (ad g 77)), (1, .int a1)]) (by decide) (Nat.le_of_ble_eq_true rfl) rfl ?_
  intro p e s m args below meth c hC hr hlocks hnm hW ls hl
  replace hC : Cx g RX4 cX4_readPart 5 p s m args c := hC
  obtain ⟨hx, hb, hml, hown, hts, hK, hN⟩ := id hC
  unfold vs_LawReading_readPart_r at h
  refine lv_aload_n hx hb dX4_readPart_0 rfl (lv_at hl 0 rfl) ?_
  refine lv_iload_n hx hb dX4_readPart_1 rfl (lv_at hl 1 rfl) ?_
  obtain ⟨x1, μ2, hx1, h⟩ := mbm_some h
  refine kr_ci hC hW (kr_runV hC hW hl.1 (hrc.2.2.1 _ _ _ _ hx1) cw_X4_86 (wy_77 g μ) rfl rfl rfl (Nat.le_of_ble_eq_true rfl) dX4_readPart_2 (by omega)) (fun H locs hW => ?_)
  refine lv_istore_n (lv' := [(2, .int (bI x1)), (0, .ref (ad g 77)), (1, .int a1)]) hx hb dX4_readPart_5 rfl hl (by decide) rfl (fun ls hl => ?_)
  refine lv_iconst (v := 0) hx hb dX4_readPart_6 (by decide) ?_
  refine lv_istore_n (lv' := [(3, .int 0), (2, .int (bI x1)), (0, .ref (ad g 77)), (1, .int a1)]) hx hb dX4_readPart_7 rfl hl (by decide) rfl (fun ls hl => ?_)
  obtain ⟨e0, he17, h⟩ := mbv_some h
  obtain ⟨x14, μ15, ee, h9⟩ := un2_ex h
  clear h
  subst ee
  have h := h9
  clear h9
  refine tl_vs_LawReading_readPart_8 hdd hrc a1 hC (fun ls H locs hl hW => ?_) FU ((bI x1), 0, μ2) he17 _ _ _ (lv_sub hl [2, 3, 1, 0] rfl) hW
  refine lv_iload_n hx hb dX4_readPart_77 rfl (lv_at hl 0 rfl) ?_
  obtain ⟨b16, hv, h⟩ := mzr_some h
  cases h
  exact kr_zret hC hr hlocks _ hv hW dX4_readPart_78
set_option maxHeartbeats 4000000 in
set_option maxRecDepth 100000 in
theorem tj_vs_LawReading_readPiece_124 {rc : Nat → Mm → Int32 → Option (Bool × Mm)} {dd : Nat} (hdd : 3 ≤ dd) (hrc : (∀ (μ : Mm) (a1 : Int32) (v : Bool) (u : Mm), rc 0 μ a1 = some (v, u) → Cti l g A wy yX4_readTest cX4_readTest 5 (some .boolean) dd [.ref (ad g 77), .int a1] μ (bI v) u) ∧ (∀ (μ : Mm) (a1 : Int32) (v : Bool) (u : Mm), rc 1 μ a1 = some (v, u) → Cti l g A wy yX4_readPart cX4_readPart 5 (some .boolean) dd [.ref (ad g 77), .int a1] μ (bI v) u) ∧ (∀ (μ : Mm) (a1 : Int32) (v : Bool) (u : Mm), rc 2 μ a1 = some (v, u) → Cti l g A wy yX4_readPiece cX4_readPiece 5 (some .boolean) dd [.ref (ad g 77), .int a1] μ (bI v) u) ∧ (∀ (μ : Mm) (a1 : Int32) (v : Bool) (u : Mm), rc 3 μ a1 = some (v, u) → Cti l g A wy yX4_readSum cX4_readSum 5 (some .boolean) dd [.ref (ad g 77), .int a1] μ (bI v) u) ∧ (∀ (μ : Mm) (a1 : Int32) (v : Bool) (u : Mm), rc 4 μ a1 = some (v, u) → Cti l g A wy yX4_readTerm cX4_readTerm 5 (some .boolean) dd [.ref (ad g 77), .int a1] μ (bI v) u) ∧ (∀ (μ : Mm) (a1 : Int32) (v : Bool) (u : Mm), rc 5 μ a1 = some (v, u) → Cti l g A wy yX4_readFactor cX4_readFactor 3 (some .boolean) dd [.ref (ad g 77), .int a1] μ (bI v) u)) {μ : Mm} (a1 : Int32) (a3 : Int32) (hC : Cx g RX4 cX4_readPiece 5 p s m args c) (hr : meth.sig.returnType = some .boolean) (hlocks : meth.locks = false) {v : Bool} {u : Mm} (hl : lv_has ls 5 [(0, .ref (ad g 77)), (1, .int a1), (3, .int a3)]) (hW : wP g wy A s.heap μ H locs) (h : vs_LawReading_readPiece_j124 rc μ a1 a3 = some (v, u)) : W p l e (rmD (dd + 1)) s m args below meth c H locs 0 0 (MQ below (Qi g A wy (bI v) u) args s 0 0 A) (F0 m 124 ls []) := by
  obtain ⟨hx, hb, hml, hown, hts, hK, hN⟩ := id hC
  unfold vs_LawReading_readPiece_j124 at h
  refine lv_aload_n hx hb dX4_readPiece_124 rfl (lv_at hl 0 rfl) ?_
  refine lv_dup hx hb dX4_readPiece_125 rfl ?_
  refine gf_X4_33_y77 hC hW dX4_readPiece_126 ?_
  refine lv_iconst (v := 1) hx hb dX4_readPiece_129 (by decide) ?_
  refine lv_iadd hx hb dX4_readPiece_130 ?_
  obtain ⟨μ9, eμ9, h⟩ := mst_some h
  refine pf_X4_33_y77 hC hW eμ9 dX4_readPiece_131 (fun H locs hW => ?_)
  refine lv_aload_n hx hb dX4_readPiece_134 rfl (lv_at hl 0 rfl) ?_
  refine lv_iload_n hx hb dX4_readPiece_135 rfl (lv_at hl 1 rfl) ?_
  obtain ⟨x10, μ11, hx10, h⟩ := mbm_some h
  refine kr_ci hC hW (kr_runV hC hW hl.1 (hrc.2.2.2.1 _ _ _ _ hx10) cw_X4_64 (wy_77 g μ9) rfl rfl rfl (Nat.le_of_ble_eq_true rfl) dX4_readPiece_136 (by omega)) (fun H locs hW => ?_)
  refine lv_istore (lv' := [(4, .int (bI x10)), (0, .ref (ad g 77)), (1, .int a1), (3, .int a3)]) hx hb dX4_readPiece_139 hl (by decide) rfl (fun ls hl => ?_)
  refine lv_aload_n hx hb dX4_readPiece_141 rfl (lv_at hl 1 rfl) ?_
  refine gf_X4_25_y77 hC hW dX4_readPiece_142 ?_
  refine lv_iload_n hx hb dX4_readPiece_145 rfl (lv_at hl 3 rfl) ?_
  refine lv_iconst (v := 0) hx hb dX4_readPiece_146 (by decide) ?_
  obtain ⟨μ13, hxμ13, h⟩ := mbv_some h
  refine kr_cv hC hW (kr_runV hC hW hl.1 (t_vs_Law_emit_sp hxμ13) cw_X4_78 (wy_11 g μ11) rfl rfl rfl (Nat.le_of_ble_eq_true rfl) dX4_readPiece_147 (by omega)) (fun H locs hW => ?_)
  refine lv_iload hx hb dX4_readPiece_150 (lv_at hl 0 rfl) ?_
  cases h
  exact kr_zret hC hr hlocks _ rfl hW dX4_readPiece_152
set_option maxHeartbeats 4000000 in
set_option maxRecDepth 100000 in
theorem t_vs_LawReading_readPiece_r {l : Launch} {g : Gx} {A : Nat → Prop} {rc : Nat → Mm → Int32 → Option (Bool × Mm)} {dd : Nat} (hdd : 3 ≤ dd) (hrc : (∀ (μ : Mm) (a1 : Int32) (v : Bool) (u : Mm), rc 0 μ a1 = some (v, u) → Cti l g A wy yX4_readTest cX4_readTest 5 (some .boolean) dd [.ref (ad g 77), .int a1] μ (bI v) u) ∧ (∀ (μ : Mm) (a1 : Int32) (v : Bool) (u : Mm), rc 1 μ a1 = some (v, u) → Cti l g A wy yX4_readPart cX4_readPart 5 (some .boolean) dd [.ref (ad g 77), .int a1] μ (bI v) u) ∧ (∀ (μ : Mm) (a1 : Int32) (v : Bool) (u : Mm), rc 2 μ a1 = some (v, u) → Cti l g A wy yX4_readPiece cX4_readPiece 5 (some .boolean) dd [.ref (ad g 77), .int a1] μ (bI v) u) ∧ (∀ (μ : Mm) (a1 : Int32) (v : Bool) (u : Mm), rc 3 μ a1 = some (v, u) → Cti l g A wy yX4_readSum cX4_readSum 5 (some .boolean) dd [.ref (ad g 77), .int a1] μ (bI v) u) ∧ (∀ (μ : Mm) (a1 : Int32) (v : Bool) (u : Mm), rc 4 μ a1 = some (v, u) → Cti l g A wy yX4_readTerm cX4_readTerm 5 (some .boolean) dd [.ref (ad g 77), .int a1] μ (bI v) u) ∧ (∀ (μ : Mm) (a1 : Int32) (v : Bool) (u : Mm), rc 5 μ a1 = some (v, u) → Cti l g A wy yX4_readFactor cX4_readFactor 3 (some .boolean) dd [.ref (ad g 77), .int a1] μ (bI v) u)) {μ : Mm} {a1 : Int32} {v : Bool} {u : Mm} (h : vs_LawReading_readPiece_r rc μ a1 = some (v, u)) : Cti l g A wy yX4_readPiece cX4_readPiece 5 (some .boolean) (dd + 1) [.ref (ad g 77), .int a1] μ (bI v) u := by
  refine ent (lv := [(0, .ref (ad g 77)), (1, .int a1)]) (by decide) (Nat.le_of_ble_eq_true rfl) rfl ?_
  intro p e s m args below meth c hC hr hlocks hnm hW ls hl
  replace hC : Cx g RX4 cX4_readPiece 5 p s m args c := hC
  obtain ⟨hx, hb, hml, hown, hts, hK, hN⟩ := id hC
  unfold vs_LawReading_readPiece_r at h
  refine lv_aload_n hx hb dX4_readPiece_0 rfl (lv_at hl 0 rfl) ?_
  obtain ⟨x1, hx1, h⟩ := mbv_some h
  refine kr_ci hC hW (kr_runV hC hW hl.1 (t_vs_LawReading_sign hx1) cw_X4_43 (wy_77 g μ) rfl rfl rfl (Nat.le_of_ble_eq_true rfl) dX4_readPiece_1 (by omega)) (fun H locs hW => ?_)
  refine lv_istore_n (lv' := [(2, .int x1), (0, .ref (ad g 77)), (1, .int a1)]) hx hb dX4_readPiece_4 rfl hl (by decide) rfl (fun ls hl => ?_)
  refine lv_iload_n hx hb dX4_readPiece_5 rfl (lv_at hl 0 rfl) ?_
  refine lv_bipush (v := 33) hx hb dX4_readPiece_6 (by decide) ?_
  refine lv_icmp_ne (tgt := 46) hx hb dX4_readPiece_8 (by decide) (fun hc2 => ?_) (fun hc2 => ?_)
  · replace h := if_n hc2 h
    refine lv_iload_n hx hb dX4_readPiece_46 rfl (lv_at hl 0 rfl) ?_
    refine lv_bipush (v := 40) hx hb dX4_readPiece_47 (by decide) ?_
    refine lv_icmp_ne (tgt := 85) hx hb dX4_readPiece_49 (by decide) (fun hc3 => ?_) (fun hc3 => ?_)
    · replace h := if_n hc3 h
      refine lv_aload_n hx hb dX4_readPiece_85 rfl (lv_at hl 1 rfl) ?_
      refine lv_iload_n hx hb dX4_readPiece_86 rfl (lv_at hl 2 rfl) ?_
      obtain ⟨x4, μ5, hx4, h⟩ := mbm_some h
      refine kr_ci hC hW (kr_runV hC hW hl.1 (hrc.2.2.2.1 _ _ _ _ hx4) cw_X4_64 (wy_77 g μ) rfl rfl rfl (Nat.le_of_ble_eq_true rfl) dX4_readPiece_87 (by omega)) (fun H locs hW => ?_)
      refine lv_if_ne (tgt := 95) hx hb dX4_readPiece_90 (by decide) (fun hc6 => ?_) (fun hc6 => ?_)
      · replace h := if_n hc6 h
        refine lv_aload_n hx hb dX4_readPiece_95 rfl (lv_at hl 1 rfl) ?_
        obtain ⟨x7, hx7, h⟩ := mbv_some h
        refine kr_ci hC hW (kr_runV hC hW hl.1 (t_vs_LawReading_sign hx7) cw_X4_43 (wy_77 g μ5) rfl rfl rfl (Nat.le_of_ble_eq_true rfl) dX4_readPiece_96 (by omega)) (fun H locs hW => ?_)
        refine lv_istore_n (lv' := [(3, .int x7), (2, .int x1), (0, .ref (ad g 77)), (1, .int a1)]) hx hb dX4_readPiece_99 rfl hl (by decide) rfl (fun ls hl => ?_)
        refine lv_iload_n hx hb dX4_readPiece_100 rfl (lv_at hl 0 rfl) ?_
        refine lv_bipush (v := 60) hx hb dX4_readPiece_101 (by decide) ?_
        refine lv_icmp_eq (tgt := 124) hx hb dX4_readPiece_103 (by decide) (fun hc8 => ?_) (fun hc8 => ?_)
        · replace h := if_p hc8 h
          exact tj_vs_LawReading_readPiece_124 hdd hrc a1 x7 hC hr hlocks (lv_sub hl [2, 3, 0] rfl) hW h
        · replace h := if_n hc8 h
          refine lv_iload_n hx hb dX4_readPiece_106 rfl (lv_at hl 0 rfl) ?_
          refine lv_bipush (v := 62) hx hb dX4_readPiece_107 (by decide) ?_
          refine lv_icmp_eq (tgt := 124) hx hb dX4_readPiece_109 (by decide) (fun hc14 => ?_) (fun hc14 => ?_)
          · replace h := if_p hc14 h
            exact tj_vs_LawReading_readPiece_124 hdd hrc a1 x7 hC hr hlocks (lv_sub hl [2, 3, 0] rfl) hW h
          · replace h := if_n hc14 h
            refine lv_iload_n hx hb dX4_readPiece_112 rfl (lv_at hl 0 rfl) ?_
            refine lv_bipush (v := 61) hx hb dX4_readPiece_113 (by decide) ?_
            refine lv_icmp_eq (tgt := 124) hx hb dX4_readPiece_115 (by decide) (fun hc15 => ?_) (fun hc15 => ?_)
            · replace h := if_p hc15 h
              exact tj_vs_LawReading_readPiece_124 hdd hrc a1 x7 hC hr hlocks (lv_sub hl [2, 3, 0] rfl) hW h
            · replace h := if_n hc15 h
              refine lv_aload_n hx hb dX4_readPiece_118 rfl (lv_at hl 2 rfl) ?_
              refine lv_iconst (v := 1) hx hb dX4_readPiece_119 (by decide) ?_
              obtain ⟨x16, μ17, hx16, h⟩ := mbm_some h
              refine kr_ci hC hW (kr_runV hC hW hl.1 (t_vs_LawReading_fail hx16) cw_X4_47 (wy_77 g μ5) rfl rfl rfl (Nat.le_of_ble_eq_true rfl) dX4_readPiece_120 (by omega)) (fun H locs hW => ?_)
              cases h
              exact kr_zret hC hr hlocks _ rfl hW dX4_readPiece_123
      · replace h := if_p hc6 h
        refine lv_iconst (v := 0) hx hb dX4_readPiece_93 (by decide) ?_
        cases h
        exact kr_zret hC hr hlocks _ rfl hW dX4_readPiece_94
    · replace h := if_p hc3 h
      refine lv_aload_n hx hb dX4_readPiece_52 rfl (lv_at hl 1 rfl) ?_
      refine lv_iload_n hx hb dX4_readPiece_53 rfl (lv_at hl 2 rfl) ?_
      obtain ⟨x18, μ19, hx18, h⟩ := mbm_some h
      refine kr_ci hC hW (kr_runV hC hW hl.1 (t_vs_LawReading_open hx18) cw_X4_89 (wy_77 g μ) rfl rfl rfl (Nat.le_of_ble_eq_true rfl) dX4_readPiece_54 (by omega)) (fun H locs hW => ?_)
      refine lv_if_eq (tgt := 83) hx hb dX4_readPiece_57 (by decide) (fun hc20 => ?_) (fun hc20 => ?_)
      · replace h := if_p hc20 h
        refine lv_iconst (v := 0) hx hb dX4_readPiece_83 (by decide) ?_
        cases h
        exact kr_zret hC hr hlocks _ rfl hW dX4_readPiece_84
      · replace h := if_n hc20 h
        refine lv_aload_n hx hb dX4_readPiece_60 rfl (lv_at hl 1 rfl) ?_
        refine lv_iload_n hx hb dX4_readPiece_61 rfl (lv_at hl 2 rfl) ?_
        refine lv_iconst (v := 1) hx hb dX4_readPiece_62 (by decide) ?_
        refine lv_iadd hx hb dX4_readPiece_63 ?_
        obtain ⟨x21, μ22, hx21, h⟩ := mbm_some h
        refine kr_ci hC hW (kr_runV hC hW hl.1 (hrc.1 _ _ _ _ hx21) cw_X4_70 (wy_77 g μ19) rfl rfl rfl (Nat.le_of_ble_eq_true rfl) dX4_readPiece_64 (by omega)) (fun H locs hW => ?_)
        refine lv_if_eq (tgt := 83) hx hb dX4_readPiece_67 (by decide) (fun hc23 => ?_) (fun hc23 => ?_)
        · replace h := if_p hc23 h
          refine lv_iconst (v := 0) hx hb dX4_readPiece_83 (by decide) ?_
          cases h
          exact kr_zret hC hr hlocks _ rfl hW dX4_readPiece_84
        · replace h := if_n hc23 h
          refine lv_aload_n hx hb dX4_readPiece_70 rfl (lv_at hl 1 rfl) ?_
          refine lv_bipush (v := 41) hx hb dX4_readPiece_71 (by decide) ?_
          obtain ⟨x24, μ25, hx24, h⟩ := mbm_some h
          refine kr_ci hC hW (kr_runV hC hW hl.1 (t_vs_LawReading_expect hx24) cw_X4_36 (wy_77 g μ22) rfl rfl rfl (Nat.le_of_ble_eq_true rfl) dX4_readPiece_73 (by omega)) (fun H locs hW => ?_)
          refine lv_if_eq (tgt := 83) hx hb dX4_readPiece_76 (by decide) (fun hc26 => ?_) (fun hc26 => ?_)
          · replace h := if_p hc26 h
            refine lv_iconst (v := 0) hx hb dX4_readPiece_83 (by decide) ?_
            cases h
            exact kr_zret hC hr hlocks _ rfl hW dX4_readPiece_84
          · replace h := if_n hc26 h
            refine lv_iconst (v := 1) hx hb dX4_readPiece_79 (by decide) ?_
            refine lv_goto (tgt := 84) hx hb dX4_readPiece_80 (by decide) ?_
            cases h
            exact kr_zret hC hr hlocks _ rfl hW dX4_readPiece_84
  · replace h := if_p hc2 h
    refine lv_aload_n hx hb dX4_readPiece_11 rfl (lv_at hl 1 rfl) ?_
    refine lv_iload_n hx hb dX4_readPiece_12 rfl (lv_at hl 2 rfl) ?_
    obtain ⟨x27, μ28, hx27, h⟩ := mbm_some h
    refine kr_ci hC hW (kr_runV hC hW hl.1 (t_vs_LawReading_open hx27) cw_X4_89 (wy_77 g μ) rfl rfl rfl (Nat.le_of_ble_eq_true rfl) dX4_readPiece_13 (by omega)) (fun H locs hW => ?_)
    refine lv_if_eq (tgt := 33) hx hb dX4_readPiece_16 (by decide) (fun hc29 => ?_) (fun hc29 => ?_)
    · replace h := if_p hc29 h
      refine lv_iconst (v := 0) hx hb dX4_readPiece_33 (by decide) ?_
      refine lv_istore_n (lv' := [(3, .int 0), (2, .int x1), (0, .ref (ad g 77)), (1, .int a1)]) hx hb dX4_readPiece_34 rfl hl (by decide) rfl (fun ls hl => ?_)
      refine lv_aload_n hx hb dX4_readPiece_35 rfl (lv_at hl 2 rfl) ?_
      refine gf_X4_25_y77 hC hW dX4_readPiece_36 ?_
      refine lv_iconst (v := 2) hx hb dX4_readPiece_39 (by decide) ?_
      refine lv_iconst (v := 0) hx hb dX4_readPiece_40 (by decide) ?_
      obtain ⟨μ31, hxμ31, h⟩ := mbv_some h
      refine kr_cv hC hW (kr_runV hC hW hl.1 (t_vs_Law_emit_sp hxμ31) cw_X4_78 (wy_11 g μ28) rfl rfl rfl (Nat.le_of_ble_eq_true rfl) dX4_readPiece_41 (by omega)) (fun H locs hW => ?_)
      refine lv_iload_n hx hb dX4_readPiece_44 rfl (lv_at hl 0 rfl) ?_
      cases h
      exact kr_zret hC hr hlocks _ rfl hW dX4_readPiece_45
    · replace h := if_n hc29 h
      refine lv_aload_n hx hb dX4_readPiece_19 rfl (lv_at hl 1 rfl) ?_
      refine lv_iload_n hx hb dX4_readPiece_20 rfl (lv_at hl 2 rfl) ?_
      refine lv_iconst (v := 1) hx hb dX4_readPiece_21 (by decide) ?_
      refine lv_iadd hx hb dX4_readPiece_22 ?_
      obtain ⟨x32, μ33, hx32, h⟩ := mbm_some h
      refine kr_ci hC hW (kr_runV hC hW hl.1 (hrc.2.2.1 _ _ _ _ hx32) cw_X4_86 (wy_77 g μ28) rfl rfl rfl (Nat.le_of_ble_eq_true rfl) dX4_readPiece_23 (by omega)) (fun H locs hW => ?_)
      refine lv_if_eq (tgt := 33) hx hb dX4_readPiece_26 (by decide) (fun hc34 => ?_) (fun hc34 => ?_)
      · replace h := if_p hc34 h
        refine lv_iconst (v := 0) hx hb dX4_readPiece_33 (by decide) ?_
        refine lv_istore_n (lv' := [(3, .int 0), (2, .int x1), (0, .ref (ad g 77)), (1, .int a1)]) hx hb dX4_readPiece_34 rfl hl (by decide) rfl (fun ls hl => ?_)
        refine lv_aload_n hx hb dX4_readPiece_35 rfl (lv_at hl 2 rfl) ?_
        refine gf_X4_25_y77 hC hW dX4_readPiece_36 ?_
        refine lv_iconst (v := 2) hx hb dX4_readPiece_39 (by decide) ?_
        refine lv_iconst (v := 0) hx hb dX4_readPiece_40 (by decide) ?_
        obtain ⟨μ36, hxμ36, h⟩ := mbv_some h
        refine kr_cv hC hW (kr_runV hC hW hl.1 (t_vs_Law_emit_sp hxμ36) cw_X4_78 (wy_11 g μ33) rfl rfl rfl (Nat.le_of_ble_eq_true rfl) dX4_readPiece_41 (by omega)) (fun H locs hW => ?_)
        refine lv_iload_n hx hb dX4_readPiece_44 rfl (lv_at hl 0 rfl) ?_
        cases h
        exact kr_zret hC hr hlocks _ rfl hW dX4_readPiece_45
      · replace h := if_n hc34 h
        refine lv_iconst (v := 1) hx hb dX4_readPiece_29 (by decide) ?_
        refine lv_goto (tgt := 34) hx hb dX4_readPiece_30 (by decide) ?_
        refine lv_istore_n (lv' := [(3, .int 1), (2, .int x1), (0, .ref (ad g 77)), (1, .int a1)]) hx hb dX4_readPiece_34 rfl hl (by decide) rfl (fun ls hl => ?_)
        refine lv_aload_n hx hb dX4_readPiece_35 rfl (lv_at hl 2 rfl) ?_
        refine gf_X4_25_y77 hC hW dX4_readPiece_36 ?_
        refine lv_iconst (v := 2) hx hb dX4_readPiece_39 (by decide) ?_
        refine lv_iconst (v := 0) hx hb dX4_readPiece_40 (by decide) ?_
        obtain ⟨μ38, hxμ38, h⟩ := mbv_some h
        refine kr_cv hC hW (kr_runV hC hW hl.1 (t_vs_Law_emit_sp hxμ38) cw_X4_78 (wy_11 g μ33) rfl rfl rfl (Nat.le_of_ble_eq_true rfl) dX4_readPiece_41 (by omega)) (fun H locs hW => ?_)
        refine lv_iload_n hx hb dX4_readPiece_44 rfl (lv_at hl 0 rfl) ?_
        cases h
        exact kr_zret hC hr hlocks _ rfl hW dX4_readPiece_45
set_option maxHeartbeats 4000000 in
set_option maxRecDepth 100000 in
theorem tj_vs_LawReading_readSum_37 {rc : Nat → Mm → Int32 → Option (Bool × Mm)} {dd : Nat} (hdd : 3 ≤ dd) (hrc : (∀ (μ : Mm) (a1 : Int32) (v : Bool) (u : Mm), rc 0 μ a1 = some (v, u) → Cti l g A wy yX4_readTest cX4_readTest 5 (some .boolean) dd [.ref (ad g 77), .int a1] μ (bI v) u) ∧ (∀ (μ : Mm) (a1 : Int32) (v : Bool) (u : Mm), rc 1 μ a1 = some (v, u) → Cti l g A wy yX4_readPart cX4_readPart 5 (some .boolean) dd [.ref (ad g 77), .int a1] μ (bI v) u) ∧ (∀ (μ : Mm) (a1 : Int32) (v : Bool) (u : Mm), rc 2 μ a1 = some (v, u) → Cti l g A wy yX4_readPiece cX4_readPiece 5 (some .boolean) dd [.ref (ad g 77), .int a1] μ (bI v) u) ∧ (∀ (μ : Mm) (a1 : Int32) (v : Bool) (u : Mm), rc 3 μ a1 = some (v, u) → Cti l g A wy yX4_readSum cX4_readSum 5 (some .boolean) dd [.ref (ad g 77), .int a1] μ (bI v) u) ∧ (∀ (μ : Mm) (a1 : Int32) (v : Bool) (u : Mm), rc 4 μ a1 = some (v, u) → Cti l g A wy yX4_readTerm cX4_readTerm 5 (some .boolean) dd [.ref (ad g 77), .int a1] μ (bI v) u) ∧ (∀ (μ : Mm) (a1 : Int32) (v : Bool) (u : Mm), rc 5 μ a1 = some (v, u) → Cti l g A wy yX4_readFactor cX4_readFactor 3 (some .boolean) dd [.ref (ad g 77), .int a1] μ (bI v) u)) {μ : Mm} (a1 : Int32) (a3 : Int32) (hC : Cx g RX4 cX4_readSum 5 p s m args c) {e0 : (Int32 × Mm)} {r : (Int32 × Int32 × Mm) ⊕ (Int32 × Mm)} (k1 : ∀ q, r = .inl q → ∀ (ls : Array Slot) (H : Heap) (locs : List Loc), lv_has ls 5 [(0, .ref (ad g 77)), (1, .int a1), (2, .int q.1), (3, .int q.2.1)] → wP g wy A s.heap q.2.2 H locs → W p l e (rmD (dd + 1)) s m args below meth c H locs 0 0 Q (F0 m 8 ls [])) (k2 : ∀ e', r = .inr e' → e' = e0) (kx0 : ∀ (ls : Array Slot) (H : Heap) (locs : List Loc), lv_has ls 5 [(2, .int e0.1)] → wP g wy A s.heap e0.2 H locs → W p l e (rmD (dd + 1)) s m args below meth c H locs 0 0 Q (F0 m 75 ls []))  (hl : lv_has ls 5 [(0, .ref (ad g 77)), (1, .int a1), (3, .int a3)]) (hW : wP g wy A s.heap μ H locs) (h : vs_LawReading_readSum_j37 rc μ a1 a3 = some r) : W p l e (rmD (dd + 1)) s m args below meth c H locs 0 0 Q (F0 m 37 ls []) := by
  obtain ⟨hx, hb, hml, hown, hts, hK, hN⟩ := id hC
  unfold vs_LawReading_readSum_j37 at h
  refine lv_aload_n hx hb dX4_readSum_37 rfl (lv_at hl 0 rfl) ?_
  obtain ⟨x7, hx7, h⟩ := mbv_some h
  refine kr_ci hC hW (kr_runV hC hW hl.1 (t_vs_LawReading_sign hx7) cw_X4_43 (wy_77 g μ) rfl rfl rfl (Nat.le_of_ble_eq_true rfl) dX4_readSum_38 (by omega)) (fun H locs hW => ?_)
  refine lv_istore (lv' := [(4, .int x7), (0, .ref (ad g 77)), (1, .int a1), (3, .int a3)]) hx hb dX4_readSum_41 hl (by decide) rfl (fun ls hl => ?_)
  refine lv_aload_n hx hb dX4_readSum_43 rfl (lv_at hl 1 rfl) ?_
  refine lv_dup hx hb dX4_readSum_44 rfl ?_
  refine gf_X4_33_y77 hC hW dX4_readSum_45 ?_
  refine lv_iconst (v := 1) hx hb dX4_readSum_48 (by decide) ?_
  refine lv_iadd hx hb dX4_readSum_49 ?_
  obtain ⟨μ8, eμ8, h⟩ := mst_some h
  refine pf_X4_33_y77 hC hW eμ8 dX4_readSum_50 (fun H locs hW => ?_)
  refine lv_aload_n hx hb dX4_readSum_53 rfl (lv_at hl 1 rfl) ?_
  refine lv_iload_n hx hb dX4_readSum_54 rfl (lv_at hl 2 rfl) ?_
  obtain ⟨x9, μ10, hx9, h⟩ := mbm_some h
  refine kr_ci hC hW (kr_runV hC hW hl.1 (hrc.2.2.2.2.1 _ _ _ _ hx9) cw_X4_92 (wy_77 g μ8) rfl rfl rfl (Nat.le_of_ble_eq_true rfl) dX4_readSum_55 (by omega)) (fun H locs hW => ?_)
  refine lv_istore_n (lv' := [(2, .int (bI x9)), (4, .int x7), (0, .ref (ad g 77)), (1, .int a1), (3, .int a3)]) hx hb dX4_readSum_58 rfl hl (by decide) rfl (fun ls hl => ?_)
  refine lv_aload_n hx hb dX4_readSum_59 rfl (lv_at hl 2 rfl) ?_
  refine gf_X4_25_y77 hC hW dX4_readSum_60 ?_
  refine lv_iload hx hb dX4_readSum_63 (lv_at hl 1 rfl) ?_
  refine lv_iconst (v := 0) hx hb dX4_readSum_65 (by decide) ?_
  obtain ⟨μ12, hxμ12, h⟩ := mbv_some h
  refine kr_cv hC hW (kr_runV hC hW hl.1 (t_vs_Law_emit_sp hxμ12) cw_X4_78 (wy_11 g μ10) rfl rfl rfl (Nat.le_of_ble_eq_true rfl) dX4_readSum_66 (by omega)) (fun H locs hW => ?_)
  refine lv_iinc (v := (a3 + 1)) (lv' := [(3, .int (a3 + 1)), (2, .int (bI x9)), (4, .int x7), (0, .ref (ad g 77)), (1, .int a1)]) hx hb dX4_readSum_69 hl (k := 4) rfl (by rw [oi_1]) (by decide) rfl (fun ls hl => ?_)
  refine lv_goto (tgt := 8) hx hb dX4_readSum_72 (by decide) ?_
  exact k1 ((bI x9), (a3 + 1), μ12) (Option.some.inj h).symm _ _ _ (lv_sub hl [3, 4, 1, 0] rfl) hW
set_option maxHeartbeats 4000000 in
set_option maxRecDepth 100000 in
theorem tl_vs_LawReading_readSum_8 {rc : Nat → Mm → Int32 → Option (Bool × Mm)} {dd : Nat} (hdd : 3 ≤ dd) (hrc : (∀ (μ : Mm) (a1 : Int32) (v : Bool) (u : Mm), rc 0 μ a1 = some (v, u) → Cti l g A wy yX4_readTest cX4_readTest 5 (some .boolean) dd [.ref (ad g 77), .int a1] μ (bI v) u) ∧ (∀ (μ : Mm) (a1 : Int32) (v : Bool) (u : Mm), rc 1 μ a1 = some (v, u) → Cti l g A wy yX4_readPart cX4_readPart 5 (some .boolean) dd [.ref (ad g 77), .int a1] μ (bI v) u) ∧ (∀ (μ : Mm) (a1 : Int32) (v : Bool) (u : Mm), rc 2 μ a1 = some (v, u) → Cti l g A wy yX4_readPiece cX4_readPiece 5 (some .boolean) dd [.ref (ad g 77), .int a1] μ (bI v) u) ∧ (∀ (μ : Mm) (a1 : Int32) (v : Bool) (u : Mm), rc 3 μ a1 = some (v, u) → Cti l g A wy yX4_readSum cX4_readSum 5 (some .boolean) dd [.ref (ad g 77), .int a1] μ (bI v) u) ∧ (∀ (μ : Mm) (a1 : Int32) (v : Bool) (u : Mm), rc 4 μ a1 = some (v, u) → Cti l g A wy yX4_readTerm cX4_readTerm 5 (some .boolean) dd [.ref (ad g 77), .int a1] μ (bI v) u) ∧ (∀ (μ : Mm) (a1 : Int32) (v : Bool) (u : Mm), rc 5 μ a1 = some (v, u) → Cti l g A wy yX4_readFactor cX4_readFactor 3 (some .boolean) dd [.ref (ad g 77), .int a1] μ (bI v) u)) (a1 : Int32) (hC : Cx g RX4 cX4_readSum 5 p s m args c) {e0 : (Int32 × Mm)} (kx0 : ∀ (ls : Array Slot) (H : Heap) (locs : List Loc), lv_has ls 5 [(2, .int e0.1)] → wP g wy A s.heap e0.2 H locs → W p l e (rmD (dd + 1)) s m args below meth c H locs 0 0 Q (F0 m 75 ls [])) : ∀ (n : Nat) (q : Int32 × Int32 × Mm), miter (fun q => vs_LawReading_readSum_b8 rc q.2.2 a1 q.1 q.2.1) n q = some e0 → ∀ (ls : Array Slot) (H : Heap) (locs : List Loc), lv_has ls 5 [(0, .ref (ad g 77)), (1, .int a1), (2, .int q.1), (3, .int q.2.1)] → wP g wy A s.heap q.2.2 H locs → W p l e (rmD (dd + 1)) s m args below meth c H locs 0 0 Q (F0 m 8 ls []) := by
  obtain ⟨hx, hb, hml, hown, hts, hK, hN⟩ := id hC
  refine miter_ind (fun q r hf k1 k2 => ?_)
  obtain ⟨xs2, xs3, μ⟩ := q
  intro ls H locs hl hW
  have h : vs_LawReading_readSum_b8 rc μ a1 xs2 xs3 = some r := hf
  unfold vs_LawReading_readSum_b8 at h
  refine lv_iload_n hx hb dX4_readSum_8 rfl (lv_at hl 3 rfl) ?_
  refine lv_sipush (v := 200) hx hb dX4_readSum_9 (by decide) ?_
  refine lv_icmp_ge (tgt := 75) hx hb dX4_readSum_12 (by decide) (fun hc3 => ?_) (fun hc3 => ?_)
  · replace h := if_p hc3 h
    obtain rfl := k2 _ (Option.some.inj h).symm
    exact kx0 _ _ _ (lv_sub hl [2] rfl) hW
  · replace h := if_n hc3 h
    refine lv_iload_n hx hb dX4_readSum_15 rfl (lv_at hl 2 rfl) ?_
    refine lv_if_eq (tgt := 75) hx hb dX4_readSum_16 (by decide) (fun hc4 => ?_) (fun hc4 => ?_)
    · replace h := if_p hc4 h
      obtain rfl := k2 _ (Option.some.inj h).symm
      exact kx0 _ _ _ (lv_sub hl [2] rfl) hW
    · replace h := if_n hc4 h
      refine lv_aload_n hx hb dX4_readSum_19 rfl (lv_at hl 0 rfl) ?_
      obtain ⟨x5, hx5, h⟩ := mbv_some h
      refine kr_ci hC hW (kr_runV hC hW hl.1 (t_vs_LawReading_sign hx5) cw_X4_43 (wy_77 g μ) rfl rfl rfl (Nat.le_of_ble_eq_true rfl) dX4_readSum_20 (by omega)) (fun H locs hW => ?_)
      refine lv_bipush (v := 43) hx hb dX4_readSum_23 (by decide) ?_
      refine lv_icmp_eq (tgt := 37) hx hb dX4_readSum_25 (by decide) (fun hc6 => ?_) (fun hc6 => ?_)
      · replace h := if_p hc6 h
        exact tj_vs_LawReading_readSum_37 hdd hrc a1 xs3 hC k1 k2 kx0 (lv_sub hl [0, 1, 3] rfl) hW h
      · replace h := if_n hc6 h
        refine lv_aload_n hx hb dX4_readSum_28 rfl (lv_at hl 0 rfl) ?_
        obtain ⟨x13, hx13, h⟩ := mbv_some h
        refine kr_ci hC hW (kr_runV hC hW hl.1 (t_vs_LawReading_sign hx13) cw_X4_43 (wy_77 g μ) rfl rfl rfl (Nat.le_of_ble_eq_true rfl) dX4_readSum_29 (by omega)) (fun H locs hW => ?_)
        refine lv_bipush (v := 45) hx hb dX4_readSum_32 (by decide) ?_
        refine lv_icmp_ne (tgt := 75) hx hb dX4_readSum_34 (by decide) (fun hc14 => ?_) (fun hc14 => ?_)
        · replace h := if_n hc14 h
          obtain rfl := k2 _ (Option.some.inj h).symm
          exact kx0 _ _ _ (lv_sub hl [2] rfl) hW
        · replace h := if_p hc14 h
          exact tj_vs_LawReading_readSum_37 hdd hrc a1 xs3 hC k1 k2 kx0 (lv_sub hl [0, 1, 3] rfl) hW h
set_option maxHeartbeats 4000000 in
set_option maxRecDepth 100000 in
theorem t_vs_LawReading_readSum_r {l : Launch} {g : Gx} {A : Nat → Prop} {rc : Nat → Mm → Int32 → Option (Bool × Mm)} {dd : Nat} (hdd : 3 ≤ dd) (hrc : (∀ (μ : Mm) (a1 : Int32) (v : Bool) (u : Mm), rc 0 μ a1 = some (v, u) → Cti l g A wy yX4_readTest cX4_readTest 5 (some .boolean) dd [.ref (ad g 77), .int a1] μ (bI v) u) ∧ (∀ (μ : Mm) (a1 : Int32) (v : Bool) (u : Mm), rc 1 μ a1 = some (v, u) → Cti l g A wy yX4_readPart cX4_readPart 5 (some .boolean) dd [.ref (ad g 77), .int a1] μ (bI v) u) ∧ (∀ (μ : Mm) (a1 : Int32) (v : Bool) (u : Mm), rc 2 μ a1 = some (v, u) → Cti l g A wy yX4_readPiece cX4_readPiece 5 (some .boolean) dd [.ref (ad g 77), .int a1] μ (bI v) u) ∧ (∀ (μ : Mm) (a1 : Int32) (v : Bool) (u : Mm), rc 3 μ a1 = some (v, u) → Cti l g A wy yX4_readSum cX4_readSum 5 (some .boolean) dd [.ref (ad g 77), .int a1] μ (bI v) u) ∧ (∀ (μ : Mm) (a1 : Int32) (v : Bool) (u : Mm), rc 4 μ a1 = some (v, u) → Cti l g A wy yX4_readTerm cX4_readTerm 5 (some .boolean) dd [.ref (ad g 77), .int a1] μ (bI v) u) ∧ (∀ (μ : Mm) (a1 : Int32) (v : Bool) (u : Mm), rc 5 μ a1 = some (v, u) → Cti l g A wy yX4_readFactor cX4_readFactor 3 (some .boolean) dd [.ref (ad g 77), .int a1] μ (bI v) u)) {μ : Mm} {a1 : Int32} {v : Bool} {u : Mm} (h : vs_LawReading_readSum_r rc μ a1 = some (v, u)) : Cti l g A wy yX4_readSum cX4_readSum 5 (some .boolean) (dd + 1) [.ref (ad g 77), .int a1] μ (bI v) u := by
  refine ent (lv := [(0, .ref (ad g 77)), (1, .int a1)]) (by decide) (Nat.le_of_ble_eq_true rfl) rfl ?_
  intro p e s m args below meth c hC hr hlocks hnm hW ls hl
  replace hC : Cx g RX4 cX4_readSum 5 p s m args c := hC
  obtain ⟨hx, hb, hml, hown, hts, hK, hN⟩ := id hC
  unfold vs_LawReading_readSum_r at h
  refine lv_aload_n hx hb dX4_readSum_0 rfl (lv_at hl 0 rfl) ?_
  refine lv_iload_n hx hb dX4_readSum_1 rfl (lv_at hl 1 rfl) ?_
  obtain ⟨x1, μ2, hx1, h⟩ := mbm_some h
  refine kr_ci hC hW (kr_runV hC hW hl.1 (hrc.2.2.2.2.1 _ _ _ _ hx1) cw_X4_92 (wy_77 g μ) rfl rfl rfl (Nat.le_of_ble_eq_true rfl) dX4_readSum_2 (by omega)) (fun H locs hW => ?_)
  refine lv_istore_n (lv' := [(2, .int (bI x1)), (0, .ref (ad g 77)), (1, .int a1)]) hx hb dX4_readSum_5 rfl hl (by decide) rfl (fun ls hl => ?_)
  refine lv_iconst (v := 0) hx hb dX4_readSum_6 (by decide) ?_
  refine lv_istore_n (lv' := [(3, .int 0), (2, .int (bI x1)), (0, .ref (ad g 77)), (1, .int a1)]) hx hb dX4_readSum_7 rfl hl (by decide) rfl (fun ls hl => ?_)
  obtain ⟨e0, he18, h⟩ := mbv_some h
  obtain ⟨x15, μ16, ee, h9⟩ := un2_ex h
  clear h
  subst ee
  have h := h9
  clear h9
  refine tl_vs_LawReading_readSum_8 hdd hrc a1 hC (fun ls H locs hl hW => ?_) FU ((bI x1), 0, μ2) he18 _ _ _ (lv_sub hl [2, 3, 1, 0] rfl) hW
  refine lv_iload_n hx hb dX4_readSum_75 rfl (lv_at hl 0 rfl) ?_
  obtain ⟨b17, hv, h⟩ := mzr_some h
  cases h
  exact kr_zret hC hr hlocks _ hv hW dX4_readSum_76
set_option maxHeartbeats 4000000 in
set_option maxRecDepth 100000 in
theorem tj_vs_LawReading_readTerm_46 {rc : Nat → Mm → Int32 → Option (Bool × Mm)} {dd : Nat} (hdd : 3 ≤ dd) (hrc : (∀ (μ : Mm) (a1 : Int32) (v : Bool) (u : Mm), rc 0 μ a1 = some (v, u) → Cti l g A wy yX4_readTest cX4_readTest 5 (some .boolean) dd [.ref (ad g 77), .int a1] μ (bI v) u) ∧ (∀ (μ : Mm) (a1 : Int32) (v : Bool) (u : Mm), rc 1 μ a1 = some (v, u) → Cti l g A wy yX4_readPart cX4_readPart 5 (some .boolean) dd [.ref (ad g 77), .int a1] μ (bI v) u) ∧ (∀ (μ : Mm) (a1 : Int32) (v : Bool) (u : Mm), rc 2 μ a1 = some (v, u) → Cti l g A wy yX4_readPiece cX4_readPiece 5 (some .boolean) dd [.ref (ad g 77), .int a1] μ (bI v) u) ∧ (∀ (μ : Mm) (a1 : Int32) (v : Bool) (u : Mm), rc 3 μ a1 = some (v, u) → Cti l g A wy yX4_readSum cX4_readSum 5 (some .boolean) dd [.ref (ad g 77), .int a1] μ (bI v) u) ∧ (∀ (μ : Mm) (a1 : Int32) (v : Bool) (u : Mm), rc 4 μ a1 = some (v, u) → Cti l g A wy yX4_readTerm cX4_readTerm 5 (some .boolean) dd [.ref (ad g 77), .int a1] μ (bI v) u) ∧ (∀ (μ : Mm) (a1 : Int32) (v : Bool) (u : Mm), rc 5 μ a1 = some (v, u) → Cti l g A wy yX4_readFactor cX4_readFactor 3 (some .boolean) dd [.ref (ad g 77), .int a1] μ (bI v) u)) {μ : Mm} (a1 : Int32) (a3 : Int32) (hC : Cx g RX4 cX4_readTerm 5 p s m args c) {e0 : (Int32 × Mm)} {r : (Int32 × Int32 × Mm) ⊕ (Int32 × Mm)} (k1 : ∀ q, r = .inl q → ∀ (ls : Array Slot) (H : Heap) (locs : List Loc), lv_has ls 5 [(0, .ref (ad g 77)), (1, .int a1), (2, .int q.1), (3, .int q.2.1)] → wP g wy A s.heap q.2.2 H locs → W p l e (rmD (dd + 1)) s m args below meth c H locs 0 0 Q (F0 m 8 ls [])) (k2 : ∀ e', r = .inr e' → e' = e0) (kx0 : ∀ (ls : Array Slot) (H : Heap) (locs : List Loc), lv_has ls 5 [(2, .int e0.1)] → wP g wy A s.heap e0.2 H locs → W p l e (rmD (dd + 1)) s m args below meth c H locs 0 0 Q (F0 m 84 ls []))  (hl : lv_has ls 5 [(0, .ref (ad g 77)), (1, .int a1), (3, .int a3)]) (hW : wP g wy A s.heap μ H locs) (h : vs_LawReading_readTerm_j46 rc μ a1 a3 = some r) : W p l e (rmD (dd + 1)) s m args below meth c H locs 0 0 Q (F0 m 46 ls []) := by
  obtain ⟨hx, hb, hml, hown, hts, hK, hN⟩ := id hC
  unfold vs_LawReading_readTerm_j46 at h
  refine lv_aload_n hx hb dX4_readTerm_46 rfl (lv_at hl 0 rfl) ?_
  obtain ⟨x7, hx7, h⟩ := mbv_some h
  refine kr_ci hC hW (kr_runV hC hW hl.1 (t_vs_LawReading_sign hx7) cw_X4_43 (wy_77 g μ) rfl rfl rfl (Nat.le_of_ble_eq_true rfl) dX4_readTerm_47 (by omega)) (fun H locs hW => ?_)
  refine lv_istore (lv' := [(4, .int x7), (0, .ref (ad g 77)), (1, .int a1), (3, .int a3)]) hx hb dX4_readTerm_50 hl (by decide) rfl (fun ls hl => ?_)
  refine lv_aload_n hx hb dX4_readTerm_52 rfl (lv_at hl 1 rfl) ?_
  refine lv_dup hx hb dX4_readTerm_53 rfl ?_
  refine gf_X4_33_y77 hC hW dX4_readTerm_54 ?_
  refine lv_iconst (v := 1) hx hb dX4_readTerm_57 (by decide) ?_
  refine lv_iadd hx hb dX4_readTerm_58 ?_
  obtain ⟨μ8, eμ8, h⟩ := mst_some h
  refine pf_X4_33_y77 hC hW eμ8 dX4_readTerm_59 (fun H locs hW => ?_)
  refine lv_aload_n hx hb dX4_readTerm_62 rfl (lv_at hl 1 rfl) ?_
  refine lv_iload_n hx hb dX4_readTerm_63 rfl (lv_at hl 2 rfl) ?_
  obtain ⟨x9, μ10, hx9, h⟩ := mbm_some h
  refine kr_ci hC hW (kr_runV hC hW hl.1 (hrc.2.2.2.2.2 _ _ _ _ hx9) cw_X4_95 (wy_77 g μ8) rfl rfl rfl (Nat.le_of_ble_eq_true rfl) dX4_readTerm_64 (by omega)) (fun H locs hW => ?_)
  refine lv_istore_n (lv' := [(2, .int (bI x9)), (4, .int x7), (0, .ref (ad g 77)), (1, .int a1), (3, .int a3)]) hx hb dX4_readTerm_67 rfl hl (by decide) rfl (fun ls hl => ?_)
  refine lv_aload_n hx hb dX4_readTerm_68 rfl (lv_at hl 2 rfl) ?_
  refine gf_X4_25_y77 hC hW dX4_readTerm_69 ?_
  refine lv_iload hx hb dX4_readTerm_72 (lv_at hl 1 rfl) ?_
  refine lv_iconst (v := 0) hx hb dX4_readTerm_74 (by decide) ?_
  obtain ⟨μ12, hxμ12, h⟩ := mbv_some h
  refine kr_cv hC hW (kr_runV hC hW hl.1 (t_vs_Law_emit_sp hxμ12) cw_X4_78 (wy_11 g μ10) rfl rfl rfl (Nat.le_of_ble_eq_true rfl) dX4_readTerm_75 (by omega)) (fun H locs hW => ?_)
  refine lv_iinc (v := (a3 + 1)) (lv' := [(3, .int (a3 + 1)), (2, .int (bI x9)), (4, .int x7), (0, .ref (ad g 77)), (1, .int a1)]) hx hb dX4_readTerm_78 hl (k := 4) rfl (by rw [oi_1]) (by decide) rfl (fun ls hl => ?_)
  refine lv_goto (tgt := 8) hx hb dX4_readTerm_81 (by decide) ?_
  exact k1 ((bI x9), (a3 + 1), μ12) (Option.some.inj h).symm _ _ _ (lv_sub hl [3, 4, 1, 0] rfl) hW
set_option maxHeartbeats 4000000 in
set_option maxRecDepth 100000 in
theorem tl_vs_LawReading_readTerm_8 {rc : Nat → Mm → Int32 → Option (Bool × Mm)} {dd : Nat} (hdd : 3 ≤ dd) (hrc : (∀ (μ : Mm) (a1 : Int32) (v : Bool) (u : Mm), rc 0 μ a1 = some (v, u) → Cti l g A wy yX4_readTest cX4_readTest 5 (some .boolean) dd [.ref (ad g 77), .int a1] μ (bI v) u) ∧ (∀ (μ : Mm) (a1 : Int32) (v : Bool) (u : Mm), rc 1 μ a1 = some (v, u) → Cti l g A wy yX4_readPart cX4_readPart 5 (some .boolean) dd [.ref (ad g 77), .int a1] μ (bI v) u) ∧ (∀ (μ : Mm) (a1 : Int32) (v : Bool) (u : Mm), rc 2 μ a1 = some (v, u) → Cti l g A wy yX4_readPiece cX4_readPiece 5 (some .boolean) dd [.ref (ad g 77), .int a1] μ (bI v) u) ∧ (∀ (μ : Mm) (a1 : Int32) (v : Bool) (u : Mm), rc 3 μ a1 = some (v, u) → Cti l g A wy yX4_readSum cX4_readSum 5 (some .boolean) dd [.ref (ad g 77), .int a1] μ (bI v) u) ∧ (∀ (μ : Mm) (a1 : Int32) (v : Bool) (u : Mm), rc 4 μ a1 = some (v, u) → Cti l g A wy yX4_readTerm cX4_readTerm 5 (some .boolean) dd [.ref (ad g 77), .int a1] μ (bI v) u) ∧ (∀ (μ : Mm) (a1 : Int32) (v : Bool) (u : Mm), rc 5 μ a1 = some (v, u) → Cti l g A wy yX4_readFactor cX4_readFactor 3 (some .boolean) dd [.ref (ad g 77), .int a1] μ (bI v) u)) (a1 : Int32) (hC : Cx g RX4 cX4_readTerm 5 p s m args c) {e0 : (Int32 × Mm)} (kx0 : ∀ (ls : Array Slot) (H : Heap) (locs : List Loc), lv_has ls 5 [(2, .int e0.1)] → wP g wy A s.heap e0.2 H locs → W p l e (rmD (dd + 1)) s m args below meth c H locs 0 0 Q (F0 m 84 ls [])) : ∀ (n : Nat) (q : Int32 × Int32 × Mm), miter (fun q => vs_LawReading_readTerm_b8 rc q.2.2 a1 q.1 q.2.1) n q = some e0 → ∀ (ls : Array Slot) (H : Heap) (locs : List Loc), lv_has ls 5 [(0, .ref (ad g 77)), (1, .int a1), (2, .int q.1), (3, .int q.2.1)] → wP g wy A s.heap q.2.2 H locs → W p l e (rmD (dd + 1)) s m args below meth c H locs 0 0 Q (F0 m 8 ls []) := by
  obtain ⟨hx, hb, hml, hown, hts, hK, hN⟩ := id hC
  refine miter_ind (fun q r hf k1 k2 => ?_)
  obtain ⟨xs2, xs3, μ⟩ := q
  intro ls H locs hl hW
  have h : vs_LawReading_readTerm_b8 rc μ a1 xs2 xs3 = some r := hf
  unfold vs_LawReading_readTerm_b8 at h
  refine lv_iload_n hx hb dX4_readTerm_8 rfl (lv_at hl 3 rfl) ?_
  refine lv_sipush (v := 200) hx hb dX4_readTerm_9 (by decide) ?_
  refine lv_icmp_ge (tgt := 84) hx hb dX4_readTerm_12 (by decide) (fun hc3 => ?_) (fun hc3 => ?_)
  · replace h := if_p hc3 h
    obtain rfl := k2 _ (Option.some.inj h).symm
    exact kx0 _ _ _ (lv_sub hl [2] rfl) hW
  · replace h := if_n hc3 h
    refine lv_iload_n hx hb dX4_readTerm_15 rfl (lv_at hl 2 rfl) ?_
    refine lv_if_eq (tgt := 84) hx hb dX4_readTerm_16 (by decide) (fun hc4 => ?_) (fun hc4 => ?_)
    · replace h := if_p hc4 h
      obtain rfl := k2 _ (Option.some.inj h).symm
      exact kx0 _ _ _ (lv_sub hl [2] rfl) hW
    · replace h := if_n hc4 h
      refine lv_aload_n hx hb dX4_readTerm_19 rfl (lv_at hl 0 rfl) ?_
      obtain ⟨x5, hx5, h⟩ := mbv_some h
      refine kr_ci hC hW (kr_runV hC hW hl.1 (t_vs_LawReading_sign hx5) cw_X4_43 (wy_77 g μ) rfl rfl rfl (Nat.le_of_ble_eq_true rfl) dX4_readTerm_20 (by omega)) (fun H locs hW => ?_)
      refine lv_bipush (v := 42) hx hb dX4_readTerm_23 (by decide) ?_
      refine lv_icmp_eq (tgt := 46) hx hb dX4_readTerm_25 (by decide) (fun hc6 => ?_) (fun hc6 => ?_)
      · replace h := if_p hc6 h
        exact tj_vs_LawReading_readTerm_46 hdd hrc a1 xs3 hC k1 k2 kx0 (lv_sub hl [0, 1, 3] rfl) hW h
      · replace h := if_n hc6 h
        refine lv_aload_n hx hb dX4_readTerm_28 rfl (lv_at hl 0 rfl) ?_
        obtain ⟨x13, hx13, h⟩ := mbv_some h
        refine kr_ci hC hW (kr_runV hC hW hl.1 (t_vs_LawReading_sign hx13) cw_X4_43 (wy_77 g μ) rfl rfl rfl (Nat.le_of_ble_eq_true rfl) dX4_readTerm_29 (by omega)) (fun H locs hW => ?_)
        refine lv_bipush (v := 47) hx hb dX4_readTerm_32 (by decide) ?_
        refine lv_icmp_eq (tgt := 46) hx hb dX4_readTerm_34 (by decide) (fun hc14 => ?_) (fun hc14 => ?_)
        · replace h := if_p hc14 h
          exact tj_vs_LawReading_readTerm_46 hdd hrc a1 xs3 hC k1 k2 kx0 (lv_sub hl [0, 1, 3] rfl) hW h
        · replace h := if_n hc14 h
          refine lv_aload_n hx hb dX4_readTerm_37 rfl (lv_at hl 0 rfl) ?_
          obtain ⟨x15, hx15, h⟩ := mbv_some h
          refine kr_ci hC hW (kr_runV hC hW hl.1 (t_vs_LawReading_sign hx15) cw_X4_43 (wy_77 g μ) rfl rfl rfl (Nat.le_of_ble_eq_true rfl) dX4_readTerm_38 (by omega)) (fun H locs hW => ?_)
          refine lv_bipush (v := 37) hx hb dX4_readTerm_41 (by decide) ?_
          refine lv_icmp_ne (tgt := 84) hx hb dX4_readTerm_43 (by decide) (fun hc16 => ?_) (fun hc16 => ?_)
          · replace h := if_n hc16 h
            obtain rfl := k2 _ (Option.some.inj h).symm
            exact kx0 _ _ _ (lv_sub hl [2] rfl) hW
          · replace h := if_p hc16 h
            exact tj_vs_LawReading_readTerm_46 hdd hrc a1 xs3 hC k1 k2 kx0 (lv_sub hl [0, 1, 3] rfl) hW h
set_option maxHeartbeats 4000000 in
set_option maxRecDepth 100000 in
theorem t_vs_LawReading_readTerm_r {l : Launch} {g : Gx} {A : Nat → Prop} {rc : Nat → Mm → Int32 → Option (Bool × Mm)} {dd : Nat} (hdd : 3 ≤ dd) (hrc : (∀ (μ : Mm) (a1 : Int32) (v : Bool) (u : Mm), rc 0 μ a1 = some (v, u) → Cti l g A wy yX4_readTest cX4_readTest 5 (some .boolean) dd [.ref (ad g 77), .int a1] μ (bI v) u) ∧ (∀ (μ : Mm) (a1 : Int32) (v : Bool) (u : Mm), rc 1 μ a1 = some (v, u) → Cti l g A wy yX4_readPart cX4_readPart 5 (some .boolean) dd [.ref (ad g 77), .int a1] μ (bI v) u) ∧ (∀ (μ : Mm) (a1 : Int32) (v : Bool) (u : Mm), rc 2 μ a1 = some (v, u) → Cti l g A wy yX4_readPiece cX4_readPiece 5 (some .boolean) dd [.ref (ad g 77), .int a1] μ (bI v) u) ∧ (∀ (μ : Mm) (a1 : Int32) (v : Bool) (u : Mm), rc 3 μ a1 = some (v, u) → Cti l g A wy yX4_readSum cX4_readSum 5 (some .boolean) dd [.ref (ad g 77), .int a1] μ (bI v) u) ∧ (∀ (μ : Mm) (a1 : Int32) (v : Bool) (u : Mm), rc 4 μ a1 = some (v, u) → Cti l g A wy yX4_readTerm cX4_readTerm 5 (some .boolean) dd [.ref (ad g 77), .int a1] μ (bI v) u) ∧ (∀ (μ : Mm) (a1 : Int32) (v : Bool) (u : Mm), rc 5 μ a1 = some (v, u) → Cti l g A wy yX4_readFactor cX4_readFactor 3 (some .boolean) dd [.ref (ad g 77), .int a1] μ (bI v) u)) {μ : Mm} {a1 : Int32} {v : Bool} {u : Mm} (h : vs_LawReading_readTerm_r rc μ a1 = some (v, u)) : Cti l g A wy yX4_readTerm cX4_readTerm 5 (some .boolean) (dd + 1) [.ref (ad g 77), .int a1] μ (bI v) u := by
  refine ent (lv := [(0, .ref (ad g 77)), (1, .int a1)]) (by decide) (Nat.le_of_ble_eq_true rfl) rfl ?_
  intro p e s m args below meth c hC hr hlocks hnm hW ls hl
  replace hC : Cx g RX4 cX4_readTerm 5 p s m args c := hC
  obtain ⟨hx, hb, hml, hown, hts, hK, hN⟩ := id hC
  unfold vs_LawReading_readTerm_r at h
  refine lv_aload_n hx hb dX4_readTerm_0 rfl (lv_at hl 0 rfl) ?_
  refine lv_iload_n hx hb dX4_readTerm_1 rfl (lv_at hl 1 rfl) ?_
  obtain ⟨x1, μ2, hx1, h⟩ := mbm_some h
  refine kr_ci hC hW (kr_runV hC hW hl.1 (hrc.2.2.2.2.2 _ _ _ _ hx1) cw_X4_95 (wy_77 g μ) rfl rfl rfl (Nat.le_of_ble_eq_true rfl) dX4_readTerm_2 (by omega)) (fun H locs hW => ?_)
  refine lv_istore_n (lv' := [(2, .int (bI x1)), (0, .ref (ad g 77)), (1, .int a1)]) hx hb dX4_readTerm_5 rfl hl (by decide) rfl (fun ls hl => ?_)
  refine lv_iconst (v := 0) hx hb dX4_readTerm_6 (by decide) ?_
  refine lv_istore_n (lv' := [(3, .int 0), (2, .int (bI x1)), (0, .ref (ad g 77)), (1, .int a1)]) hx hb dX4_readTerm_7 rfl hl (by decide) rfl (fun ls hl => ?_)
  obtain ⟨e0, he20, h⟩ := mbv_some h
  obtain ⟨x17, μ18, ee, h9⟩ := un2_ex h
  clear h
  subst ee
  have h := h9
  clear h9
  refine tl_vs_LawReading_readTerm_8 hdd hrc a1 hC (fun ls H locs hl hW => ?_) FU ((bI x1), 0, μ2) he20 _ _ _ (lv_sub hl [2, 3, 1, 0] rfl) hW
  refine lv_iload_n hx hb dX4_readTerm_84 rfl (lv_at hl 0 rfl) ?_
  obtain ⟨b19, hv, h⟩ := mzr_some h
  cases h
  exact kr_zret hC hr hlocks _ hv hW dX4_readTerm_85
set_option maxHeartbeats 4000000 in
set_option maxRecDepth 100000 in
theorem t_vs_LawReading_readFactor_r {l : Launch} {g : Gx} {A : Nat → Prop} {rc : Nat → Mm → Int32 → Option (Bool × Mm)} {dd : Nat} (hdd : 3 ≤ dd) (hrc : (∀ (μ : Mm) (a1 : Int32) (v : Bool) (u : Mm), rc 0 μ a1 = some (v, u) → Cti l g A wy yX4_readTest cX4_readTest 5 (some .boolean) dd [.ref (ad g 77), .int a1] μ (bI v) u) ∧ (∀ (μ : Mm) (a1 : Int32) (v : Bool) (u : Mm), rc 1 μ a1 = some (v, u) → Cti l g A wy yX4_readPart cX4_readPart 5 (some .boolean) dd [.ref (ad g 77), .int a1] μ (bI v) u) ∧ (∀ (μ : Mm) (a1 : Int32) (v : Bool) (u : Mm), rc 2 μ a1 = some (v, u) → Cti l g A wy yX4_readPiece cX4_readPiece 5 (some .boolean) dd [.ref (ad g 77), .int a1] μ (bI v) u) ∧ (∀ (μ : Mm) (a1 : Int32) (v : Bool) (u : Mm), rc 3 μ a1 = some (v, u) → Cti l g A wy yX4_readSum cX4_readSum 5 (some .boolean) dd [.ref (ad g 77), .int a1] μ (bI v) u) ∧ (∀ (μ : Mm) (a1 : Int32) (v : Bool) (u : Mm), rc 4 μ a1 = some (v, u) → Cti l g A wy yX4_readTerm cX4_readTerm 5 (some .boolean) dd [.ref (ad g 77), .int a1] μ (bI v) u) ∧ (∀ (μ : Mm) (a1 : Int32) (v : Bool) (u : Mm), rc 5 μ a1 = some (v, u) → Cti l g A wy yX4_readFactor cX4_readFactor 3 (some .boolean) dd [.ref (ad g 77), .int a1] μ (bI v) u)) {μ : Mm} {a1 : Int32} {v : Bool} {u : Mm} (h : vs_LawReading_readFactor_r rc μ a1 = some (v, u)) : Cti l g A wy yX4_readFactor cX4_readFactor 3 (some .boolean) (dd + 1) [.ref (ad g 77), .int a1] μ (bI v) u := by
  refine ent (lv := [(0, .ref (ad g 77)), (1, .int a1)]) (by decide) (Nat.le_of_ble_eq_true rfl) rfl ?_
  intro p e s m args below meth c hC hr hlocks hnm hW ls hl
  replace hC : Cx g RX4 cX4_readFactor 3 p s m args c := hC
  obtain ⟨hx, hb, hml, hown, hts, hK, hN⟩ := id hC
  unfold vs_LawReading_readFactor_r at h
  refine lv_aload_n hx hb dX4_readFactor_0 rfl (lv_at hl 0 rfl) ?_
  obtain ⟨x1, hx1, h⟩ := mbv_some h
  refine kr_ci hC hW (kr_runV hC hW hl.1 (t_vs_LawReading_sign hx1) cw_X4_43 (wy_77 g μ) rfl rfl rfl (Nat.le_of_ble_eq_true rfl) dX4_readFactor_1 (by omega)) (fun H locs hW => ?_)
  refine lv_istore_n (lv' := [(2, .int x1), (0, .ref (ad g 77)), (1, .int a1)]) hx hb dX4_readFactor_4 rfl hl (by decide) rfl (fun ls hl => ?_)
  refine lv_iload_n hx hb dX4_readFactor_5 rfl (lv_at hl 0 rfl) ?_
  refine lv_bipush (v := 91) hx hb dX4_readFactor_6 (by decide) ?_
  refine lv_icmp_ne (tgt := 44) hx hb dX4_readFactor_8 (by decide) (fun hc2 => ?_) (fun hc2 => ?_)
  · replace h := if_n hc2 h
    refine lv_iload_n hx hb dX4_readFactor_44 rfl (lv_at hl 0 rfl) ?_
    obtain ⟨x3, hx3, h⟩ := mbv_some h
    refine kr_ci hC hW (kr_runS hC hW hl.1 (t_vs_LawReading_isDigit hx3) cw_X4_98 rfl rfl (Nat.le_of_ble_eq_true rfl) dX4_readFactor_45 (by omega)) (fun H locs hW => ?_)
    refine lv_if_eq (tgt := 56) hx hb dX4_readFactor_48 (by decide) (fun hc4 => ?_) (fun hc4 => ?_)
    · replace h := if_p hc4 h
      refine lv_iload_n hx hb dX4_readFactor_56 rfl (lv_at hl 0 rfl) ?_
      obtain ⟨x5, hx5, h⟩ := mbv_some h
      refine kr_ci hC hW (kr_runS hC hW hl.1 (t_vs_LawReading_isFact hx5) cw_X4_104 rfl rfl (Nat.le_of_ble_eq_true rfl) dX4_readFactor_57 (by omega)) (fun H locs hW => ?_)
      refine lv_if_ne (tgt := 69) hx hb dX4_readFactor_60 (by decide) (fun hc6 => ?_) (fun hc6 => ?_)
      · replace h := if_n hc6 h
        refine lv_aload_n hx hb dX4_readFactor_69 rfl (lv_at hl 1 rfl) ?_
        refine lv_dup hx hb dX4_readFactor_70 rfl ?_
        refine gf_X4_33_y77 hC hW dX4_readFactor_71 ?_
        refine lv_iconst (v := 1) hx hb dX4_readFactor_74 (by decide) ?_
        refine lv_iadd hx hb dX4_readFactor_75 ?_
        obtain ⟨μ7, eμ7, h⟩ := mst_some h
        refine pf_X4_33_y77 hC hW eμ7 dX4_readFactor_76 (fun H locs hW => ?_)
        refine lv_aload_n hx hb dX4_readFactor_79 rfl (lv_at hl 1 rfl) ?_
        refine gf_X4_25_y77 hC hW dX4_readFactor_80 ?_
        refine lv_iconst (v := 1) hx hb dX4_readFactor_83 (by decide) ?_
        refine lv_iload_n hx hb dX4_readFactor_84 rfl (lv_at hl 0 rfl) ?_
        obtain ⟨μ9, hxμ9, h⟩ := mbv_some h
        refine kr_cv hC hW (kr_runV hC hW hl.1 (t_vs_Law_emit_sp hxμ9) cw_X4_78 (wy_11 g μ7) rfl rfl rfl (Nat.le_of_ble_eq_true rfl) dX4_readFactor_85 (by omega)) (fun H locs hW => ?_)
        refine lv_iconst (v := 1) hx hb dX4_readFactor_88 (by decide) ?_
        cases h
        exact kr_zret hC hr hlocks _ rfl hW dX4_readFactor_89
      · replace h := if_p hc6 h
        refine lv_aload_n hx hb dX4_readFactor_63 rfl (lv_at hl 1 rfl) ?_
        refine lv_iconst (v := 1) hx hb dX4_readFactor_64 (by decide) ?_
        obtain ⟨x10, μ11, hx10, h⟩ := mbm_some h
        refine kr_ci hC hW (kr_runV hC hW hl.1 (t_vs_LawReading_fail hx10) cw_X4_47 (wy_77 g μ) rfl rfl rfl (Nat.le_of_ble_eq_true rfl) dX4_readFactor_65 (by omega)) (fun H locs hW => ?_)
        cases h
        exact kr_zret hC hr hlocks _ rfl hW dX4_readFactor_68
    · replace h := if_n hc4 h
      refine lv_aload_n hx hb dX4_readFactor_51 rfl (lv_at hl 1 rfl) ?_
      obtain ⟨x12, μ13, hx12, h⟩ := mbm_some h
      refine kr_ci hC hW (kr_runV hC hW hl.1 (t_vs_LawReading_readNumber hx12) cw_X4_101 (wy_77 g μ) rfl rfl rfl (Nat.le_of_ble_eq_true rfl) dX4_readFactor_52 (by omega)) (fun H locs hW => ?_)
      cases h
      exact kr_zret hC hr hlocks _ rfl hW dX4_readFactor_55
  · replace h := if_p hc2 h
    refine lv_aload_n hx hb dX4_readFactor_11 rfl (lv_at hl 1 rfl) ?_
    refine lv_iload_n hx hb dX4_readFactor_12 rfl (lv_at hl 2 rfl) ?_
    obtain ⟨x14, μ15, hx14, h⟩ := mbm_some h
    refine kr_ci hC hW (kr_runV hC hW hl.1 (t_vs_LawReading_open hx14) cw_X4_89 (wy_77 g μ) rfl rfl rfl (Nat.le_of_ble_eq_true rfl) dX4_readFactor_13 (by omega)) (fun H locs hW => ?_)
    refine lv_if_eq (tgt := 42) hx hb dX4_readFactor_16 (by decide) (fun hc16 => ?_) (fun hc16 => ?_)
    · replace h := if_p hc16 h
      refine lv_iconst (v := 0) hx hb dX4_readFactor_42 (by decide) ?_
      cases h
      exact kr_zret hC hr hlocks _ rfl hW dX4_readFactor_43
    · replace h := if_n hc16 h
      refine lv_aload_n hx hb dX4_readFactor_19 rfl (lv_at hl 1 rfl) ?_
      refine lv_iload_n hx hb dX4_readFactor_20 rfl (lv_at hl 2 rfl) ?_
      refine lv_iconst (v := 1) hx hb dX4_readFactor_21 (by decide) ?_
      refine lv_iadd hx hb dX4_readFactor_22 ?_
      obtain ⟨x17, μ18, hx17, h⟩ := mbm_some h
      refine kr_ci hC hW (kr_runV hC hW hl.1 (hrc.2.2.2.1 _ _ _ _ hx17) cw_X4_64 (wy_77 g μ15) rfl rfl rfl (Nat.le_of_ble_eq_true rfl) dX4_readFactor_23 (by omega)) (fun H locs hW => ?_)
      refine lv_if_eq (tgt := 42) hx hb dX4_readFactor_26 (by decide) (fun hc19 => ?_) (fun hc19 => ?_)
      · replace h := if_p hc19 h
        refine lv_iconst (v := 0) hx hb dX4_readFactor_42 (by decide) ?_
        cases h
        exact kr_zret hC hr hlocks _ rfl hW dX4_readFactor_43
      · replace h := if_n hc19 h
        refine lv_aload_n hx hb dX4_readFactor_29 rfl (lv_at hl 1 rfl) ?_
        refine lv_bipush (v := 93) hx hb dX4_readFactor_30 (by decide) ?_
        obtain ⟨x20, μ21, hx20, h⟩ := mbm_some h
        refine kr_ci hC hW (kr_runV hC hW hl.1 (t_vs_LawReading_expect hx20) cw_X4_36 (wy_77 g μ18) rfl rfl rfl (Nat.le_of_ble_eq_true rfl) dX4_readFactor_32 (by omega)) (fun H locs hW => ?_)
        refine lv_if_eq (tgt := 42) hx hb dX4_readFactor_35 (by decide) (fun hc22 => ?_) (fun hc22 => ?_)
        · replace h := if_p hc22 h
          refine lv_iconst (v := 0) hx hb dX4_readFactor_42 (by decide) ?_
          cases h
          exact kr_zret hC hr hlocks _ rfl hW dX4_readFactor_43
        · replace h := if_n hc22 h
          refine lv_iconst (v := 1) hx hb dX4_readFactor_38 (by decide) ?_
          refine lv_goto (tgt := 43) hx hb dX4_readFactor_39 (by decide) ?_
          cases h
          exact kr_zret hC hr hlocks _ rfl hW dX4_readFactor_43
set_option maxHeartbeats 4000000 in
set_option maxRecDepth 100000 in
theorem t_vs_LawReading_rec {l : Launch} {g : Gx} {A : Nat → Prop} : ∀ n : Nat, (∀ (μ : Mm) (a1 : Int32) (v : Bool) (u : Mm), vs_LawReading_rec n 0 μ a1 = some (v, u) → Cti l g A wy yX4_readTest cX4_readTest 5 (some .boolean) (3 + n) [.ref (ad g 77), .int a1] μ (bI v) u) ∧ (∀ (μ : Mm) (a1 : Int32) (v : Bool) (u : Mm), vs_LawReading_rec n 1 μ a1 = some (v, u) → Cti l g A wy yX4_readPart cX4_readPart 5 (some .boolean) (3 + n) [.ref (ad g 77), .int a1] μ (bI v) u) ∧ (∀ (μ : Mm) (a1 : Int32) (v : Bool) (u : Mm), vs_LawReading_rec n 2 μ a1 = some (v, u) → Cti l g A wy yX4_readPiece cX4_readPiece 5 (some .boolean) (3 + n) [.ref (ad g 77), .int a1] μ (bI v) u) ∧ (∀ (μ : Mm) (a1 : Int32) (v : Bool) (u : Mm), vs_LawReading_rec n 3 μ a1 = some (v, u) → Cti l g A wy yX4_readSum cX4_readSum 5 (some .boolean) (3 + n) [.ref (ad g 77), .int a1] μ (bI v) u) ∧ (∀ (μ : Mm) (a1 : Int32) (v : Bool) (u : Mm), vs_LawReading_rec n 4 μ a1 = some (v, u) → Cti l g A wy yX4_readTerm cX4_readTerm 5 (some .boolean) (3 + n) [.ref (ad g 77), .int a1] μ (bI v) u) ∧ (∀ (μ : Mm) (a1 : Int32) (v : Bool) (u : Mm), vs_LawReading_rec n 5 μ a1 = some (v, u) → Cti l g A wy yX4_readFactor cX4_readFactor 3 (some .boolean) (3 + n) [.ref (ad g 77), .int a1] μ (bI v) u)
  | 0 => by refine ⟨fun _ _ _ _ h => (nomatch (show (none : Option (Bool × Mm)) = some _ from h)), fun _ _ _ _ h => (nomatch (show (none : Option (Bool × Mm)) = some _ from h)), fun _ _ _ _ h => (nomatch (show (none : Option (Bool × Mm)) = some _ from h)), fun _ _ _ _ h => (nomatch (show (none : Option (Bool × Mm)) = some _ from h)), fun _ _ _ _ h => (nomatch (show (none : Option (Bool × Mm)) = some _ from h)), fun _ _ _ _ h => (nomatch (show (none : Option (Bool × Mm)) = some _ from h))⟩
  | n + 1 => by exact ⟨fun _ _ _ _ h => t_vs_LawReading_readTest_r (dd := 3 + n) (by omega) (t_vs_LawReading_rec n) h, fun _ _ _ _ h => t_vs_LawReading_readPart_r (dd := 3 + n) (by omega) (t_vs_LawReading_rec n) h, fun _ _ _ _ h => t_vs_LawReading_readPiece_r (dd := 3 + n) (by omega) (t_vs_LawReading_rec n) h, fun _ _ _ _ h => t_vs_LawReading_readSum_r (dd := 3 + n) (by omega) (t_vs_LawReading_rec n) h, fun _ _ _ _ h => t_vs_LawReading_readTerm_r (dd := 3 + n) (by omega) (t_vs_LawReading_rec n) h, fun _ _ _ _ h => t_vs_LawReading_readFactor_r (dd := 3 + n) (by omega) (t_vs_LawReading_rec n) h⟩
theorem t_vs_LawReading_rec_readTest {l : Launch} {g : Gx} {A : Nat → Prop} {μ : Mm} {a1 : Int32} {v : Bool} {u : Mm} (h : vs_LawReading_rec RF 0 μ a1 = some (v, u)) : Cti l g A wy yX4_readTest cX4_readTest 5 (some .boolean) 43 [.ref (ad g 77), .int a1] μ (bI v) u := ((t_vs_LawReading_rec RF).1) _ _ _ _ h
theorem t_vs_LawReading_rec_readPart {l : Launch} {g : Gx} {A : Nat → Prop} {μ : Mm} {a1 : Int32} {v : Bool} {u : Mm} (h : vs_LawReading_rec RF 1 μ a1 = some (v, u)) : Cti l g A wy yX4_readPart cX4_readPart 5 (some .boolean) 43 [.ref (ad g 77), .int a1] μ (bI v) u := ((t_vs_LawReading_rec RF).2.1) _ _ _ _ h
theorem t_vs_LawReading_rec_readPiece {l : Launch} {g : Gx} {A : Nat → Prop} {μ : Mm} {a1 : Int32} {v : Bool} {u : Mm} (h : vs_LawReading_rec RF 2 μ a1 = some (v, u)) : Cti l g A wy yX4_readPiece cX4_readPiece 5 (some .boolean) 43 [.ref (ad g 77), .int a1] μ (bI v) u := ((t_vs_LawReading_rec RF).2.2.1) _ _ _ _ h
theorem t_vs_LawReading_rec_readSum {l : Launch} {g : Gx} {A : Nat → Prop} {μ : Mm} {a1 : Int32} {v : Bool} {u : Mm} (h : vs_LawReading_rec RF 3 μ a1 = some (v, u)) : Cti l g A wy yX4_readSum cX4_readSum 5 (some .boolean) 43 [.ref (ad g 77), .int a1] μ (bI v) u := ((t_vs_LawReading_rec RF).2.2.2.1) _ _ _ _ h
theorem t_vs_LawReading_rec_readTerm {l : Launch} {g : Gx} {A : Nat → Prop} {μ : Mm} {a1 : Int32} {v : Bool} {u : Mm} (h : vs_LawReading_rec RF 4 μ a1 = some (v, u)) : Cti l g A wy yX4_readTerm cX4_readTerm 5 (some .boolean) 43 [.ref (ad g 77), .int a1] μ (bI v) u := ((t_vs_LawReading_rec RF).2.2.2.2.1) _ _ _ _ h
theorem t_vs_LawReading_rec_readFactor {l : Launch} {g : Gx} {A : Nat → Prop} {μ : Mm} {a1 : Int32} {v : Bool} {u : Mm} (h : vs_LawReading_rec RF 5 μ a1 = some (v, u)) : Cti l g A wy yX4_readFactor cX4_readFactor 3 (some .boolean) 43 [.ref (ad g 77), .int a1] μ (bI v) u := ((t_vs_LawReading_rec RF).2.2.2.2.2) _ _ _ _ h
set_option maxHeartbeats 4000000 in
set_option maxRecDepth 100000 in
theorem tj_vs_LawReading_readClause_29 {μ : Mm} (a1 : Int32) (hC : Cx g RX4 cX4_readClause 3 p s m args c) (hr : meth.sig.returnType = some .boolean) (hlocks : meth.locks = false) {v : Bool} {u : Mm} (hl : lv_has ls 3 [(0, .ref (ad g 77)), (1, .int a1)]) (hW : wP g wy A s.heap μ H locs) (h : vs_LawReading_readClause_j29 μ a1 = some (v, u)) : W p l e (rmD 44) s m args below meth c H locs 0 0 (MQ below (Qi g A wy (bI v) u) args s 0 0 A) (F0 m 29 ls []) := by
  obtain ⟨hx, hb, hml, hown, hts, hK, hN⟩ := id hC
  unfold vs_LawReading_readClause_j29 at h
  refine lv_aload_n hx hb dX4_readClause_29 rfl (lv_at hl 0 rfl) ?_
  refine gf_X4_25_y77 hC hW dX4_readClause_30 ?_
  refine gf_X4_50_y11 hC hW dX4_readClause_33 ?_
  refine lv_istore_n (lv' := [(2, .int (μ 11 8)), (0, .ref (ad g 77)), (1, .int a1)]) hx hb dX4_readClause_36 rfl hl (by decide) rfl (fun ls hl => ?_)
  refine lv_iload_n hx hb dX4_readClause_37 rfl (lv_at hl 0 rfl) ?_
  refine lv_bipush (v := 14) hx hb dX4_readClause_38 (by decide) ?_
  refine lv_icmp_lt (tgt := 49) hx hb dX4_readClause_40 (by decide) (fun hc3 => ?_) (fun hc3 => ?_)
  · replace h := if_p hc3 h
    refine lv_aload_n hx hb dX4_readClause_49 rfl (lv_at hl 1 rfl) ?_
    refine lv_dup hx hb dX4_readClause_50 rfl ?_
    refine gf_X4_33_y77 hC hW dX4_readClause_51 ?_
    refine lv_iconst (v := 1) hx hb dX4_readClause_54 (by decide) ?_
    refine lv_iadd hx hb dX4_readClause_55 ?_
    obtain ⟨μ4, eμ4, h⟩ := mst_some h
    refine pf_X4_33_y77 hC hW eμ4 dX4_readClause_56 (fun H locs hW => ?_)
    refine lv_aload_n hx hb dX4_readClause_59 rfl (lv_at hl 1 rfl) ?_
    refine gf_X4_25_y77 hC hW dX4_readClause_60 ?_
    refine gf_X4_55_y11 hC hW dX4_readClause_63 ?_
    refine lv_iload_n hx hb dX4_readClause_66 rfl (lv_at hl 0 rfl) ?_
    refine lv_iload_n hx hb dX4_readClause_67 rfl (lv_at hl 2 rfl) ?_
    obtain ⟨μ5, eμ5, hin, h⟩ := mwr_ex h
    refine kr_iast hC hW (wy_72 g μ4) (wys_72 eμ5) hin dX4_readClause_68 (fun H locs hW => ?_)
    refine lv_aload_n hx hb dX4_readClause_69 rfl (lv_at hl 1 rfl) ?_
    refine gf_X4_25_y77 hC hW dX4_readClause_70 ?_
    refine gf_X4_58_y11 hC hW dX4_readClause_73 ?_
    refine lv_iload_n hx hb dX4_readClause_76 rfl (lv_at hl 0 rfl) ?_
    refine lv_aload_n hx hb dX4_readClause_77 rfl (lv_at hl 1 rfl) ?_
    refine gf_X4_25_y77 hC hW dX4_readClause_78 ?_
    refine gf_X4_61_y11 hC hW dX4_readClause_81 ?_
    obtain ⟨μ6, eμ6, hin, h⟩ := mwr_ex h
    refine kr_iast hC hW (wy_73 g μ5) (wys_73 eμ6) hin dX4_readClause_84 (fun H locs hW => ?_)
    refine lv_aload_n hx hb dX4_readClause_85 rfl (lv_at hl 1 rfl) ?_
    refine lv_iconst (v := 0) hx hb dX4_readClause_86 (by decide) ?_
    obtain ⟨x7, μ8, hx7, h⟩ := mbm_some h
    refine kr_ci hC hW (kr_runV hC hW hl.1 (t_vs_LawReading_rec_readSum hx7) cw_X4_64 (wy_77 g μ6) rfl rfl rfl (Nat.le_of_ble_eq_true rfl) dX4_readClause_87 (by decide)) (fun H locs hW => ?_)
    refine lv_if_ne (tgt := 95) hx hb dX4_readClause_90 (by decide) (fun hc9 => ?_) (fun hc9 => ?_)
    · replace h := if_n hc9 h
      refine lv_aload_n hx hb dX4_readClause_95 rfl (lv_at hl 1 rfl) ?_
      refine gf_X4_25_y77 hC hW dX4_readClause_96 ?_
      refine gf_X4_67_y11 hC hW dX4_readClause_99 ?_
      refine lv_iload_n hx hb dX4_readClause_102 rfl (lv_at hl 0 rfl) ?_
      refine lv_aload_n hx hb dX4_readClause_103 rfl (lv_at hl 1 rfl) ?_
      refine gf_X4_25_y77 hC hW dX4_readClause_104 ?_
      refine gf_X4_61_y11 hC hW dX4_readClause_107 ?_
      obtain ⟨μ10, eμ10, hin, h⟩ := mwr_ex h
      refine kr_iast hC hW (wy_74 g μ8) (wys_74 eμ10) hin dX4_readClause_110 (fun H locs hW => ?_)
      refine lv_aload_n hx hb dX4_readClause_111 rfl (lv_at hl 1 rfl) ?_
      refine lv_bipush (v := 40) hx hb dX4_readClause_112 (by decide) ?_
      obtain ⟨x11, μ12, hx11, h⟩ := mbm_some h
      refine kr_ci hC hW (kr_runV hC hW hl.1 (t_vs_LawReading_expect hx11) cw_X4_36 (wy_77 g μ10) rfl rfl rfl (Nat.le_of_ble_eq_true rfl) dX4_readClause_114 (by decide)) (fun H locs hW => ?_)
      refine lv_if_eq (tgt := 137) hx hb dX4_readClause_117 (by decide) (fun hc13 => ?_) (fun hc13 => ?_)
      · replace h := if_p hc13 h
        refine lv_iconst (v := 0) hx hb dX4_readClause_137 (by decide) ?_
        cases h
        exact kr_zret hC hr hlocks _ rfl hW dX4_readClause_138
      · replace h := if_n hc13 h
        refine lv_aload_n hx hb dX4_readClause_120 rfl (lv_at hl 1 rfl) ?_
        refine lv_iconst (v := 1) hx hb dX4_readClause_121 (by decide) ?_
        obtain ⟨x14, μ15, hx14, h⟩ := mbm_some h
        refine kr_ci hC hW (kr_runV hC hW hl.1 (t_vs_LawReading_rec_readTest hx14) cw_X4_70 (wy_77 g μ12) rfl rfl rfl (Nat.le_of_ble_eq_true rfl) dX4_readClause_122 (by decide)) (fun H locs hW => ?_)
        refine lv_if_eq (tgt := 137) hx hb dX4_readClause_125 (by decide) (fun hc16 => ?_) (fun hc16 => ?_)
        · replace h := if_p hc16 h
          refine lv_iconst (v := 0) hx hb dX4_readClause_137 (by decide) ?_
          cases h
          exact kr_zret hC hr hlocks _ rfl hW dX4_readClause_138
        · replace h := if_n hc16 h
          refine lv_aload_n hx hb dX4_readClause_128 rfl (lv_at hl 1 rfl) ?_
          refine lv_bipush (v := 41) hx hb dX4_readClause_129 (by decide) ?_
          obtain ⟨x17, μ18, hx17, h⟩ := mbm_some h
          refine kr_ci hC hW (kr_runV hC hW hl.1 (t_vs_LawReading_expect hx17) cw_X4_36 (wy_77 g μ15) rfl rfl rfl (Nat.le_of_ble_eq_true rfl) dX4_readClause_131 (by decide)) (fun H locs hW => ?_)
          refine lv_if_ne (tgt := 139) hx hb dX4_readClause_134 (by decide) (fun hc19 => ?_) (fun hc19 => ?_)
          · replace h := if_n hc19 h
            refine lv_aload_n hx hb dX4_readClause_139 rfl (lv_at hl 1 rfl) ?_
            refine gf_X4_25_y77 hC hW dX4_readClause_140 ?_
            refine gf_X4_73_y11 hC hW dX4_readClause_143 ?_
            refine lv_iload_n hx hb dX4_readClause_146 rfl (lv_at hl 0 rfl) ?_
            refine lv_aload_n hx hb dX4_readClause_147 rfl (lv_at hl 1 rfl) ?_
            refine gf_X4_25_y77 hC hW dX4_readClause_148 ?_
            refine gf_X4_61_y11 hC hW dX4_readClause_151 ?_
            obtain ⟨μ20, eμ20, hin, h⟩ := mwr_ex h
            refine kr_iast hC hW (wy_75 g μ18) (wys_75 eμ20) hin dX4_readClause_154 (fun H locs hW => ?_)
            refine lv_aload_n hx hb dX4_readClause_155 rfl (lv_at hl 1 rfl) ?_
            refine gf_X4_25_y77 hC hW dX4_readClause_156 ?_
            refine lv_dup hx hb dX4_readClause_159 rfl ?_
            refine gf_X4_50_y11 hC hW dX4_readClause_160 ?_
            refine lv_iconst (v := 1) hx hb dX4_readClause_163 (by decide) ?_
            refine lv_iadd hx hb dX4_readClause_164 ?_
            obtain ⟨μ21, eμ21, h⟩ := mst_some h
            refine pf_X4_50_y11 hC hW eμ21 dX4_readClause_165 (fun H locs hW => ?_)
            refine lv_iconst (v := 1) hx hb dX4_readClause_168 (by decide) ?_
            cases h
            exact kr_zret hC hr hlocks _ rfl hW dX4_readClause_169
          · replace h := if_p hc19 h
            refine lv_iconst (v := 0) hx hb dX4_readClause_137 (by decide) ?_
            cases h
            exact kr_zret hC hr hlocks _ rfl hW dX4_readClause_138
    · replace h := if_p hc9 h
      refine lv_iconst (v := 0) hx hb dX4_readClause_93 (by decide) ?_
      cases h
      exact kr_zret hC hr hlocks _ rfl hW dX4_readClause_94
  · replace h := if_n hc3 h
    refine lv_aload_n hx hb dX4_readClause_43 rfl (lv_at hl 1 rfl) ?_
    refine lv_iconst (v := 4) hx hb dX4_readClause_44 (by decide) ?_
    obtain ⟨x22, μ23, hx22, h⟩ := mbm_some h
    refine kr_ci hC hW (kr_runV hC hW hl.1 (t_vs_LawReading_fail hx22) cw_X4_47 (wy_77 g μ) rfl rfl rfl (Nat.le_of_ble_eq_true rfl) dX4_readClause_45 (by decide)) (fun H locs hW => ?_)
    cases h
    exact kr_zret hC hr hlocks _ rfl hW dX4_readClause_48
set_option maxHeartbeats 4000000 in
set_option maxRecDepth 100000 in
theorem t_vs_LawReading_readClause {l : Launch} {g : Gx} {A : Nat → Prop} {μ : Mm} {v : Bool} {u : Mm} (h : vs_LawReading_readClause μ = some (v, u)) : Cti l g A wy yX4_readClause cX4_readClause 3 (some .boolean) 44 [.ref (ad g 77)] μ (bI v) u := by
  refine ent (lv := [(0, .ref (ad g 77))]) (by decide) (Nat.le_of_ble_eq_true rfl) rfl ?_
  intro p e s m args below meth c hC hr hlocks hnm hW ls hl
  replace hC : Cx g RX4 cX4_readClause 3 p s m args c := hC
  obtain ⟨hx, hb, hml, hown, hts, hK, hN⟩ := id hC
  unfold vs_LawReading_readClause at h
  refine lv_aload_n hx hb dX4_readClause_0 rfl (lv_at hl 0 rfl) ?_
  obtain ⟨x1, hx1, h⟩ := mbv_some h
  refine kr_ci hC hW (kr_runV hC hW hl.1 (t_vs_LawReading_sign hx1) cw_X4_43 (wy_77 g μ) rfl rfl rfl (Nat.le_of_ble_eq_true rfl) dX4_readClause_1 (by decide)) (fun H locs hW => ?_)
  refine lv_istore_n (lv' := [(1, .int x1), (0, .ref (ad g 77))]) hx hb dX4_readClause_4 rfl hl (by decide) rfl (fun ls hl => ?_)
  refine lv_iload_n hx hb dX4_readClause_5 rfl (lv_at hl 0 rfl) ?_
  refine lv_bipush (v := 119) hx hb dX4_readClause_6 (by decide) ?_
  refine lv_icmp_eq (tgt := 29) hx hb dX4_readClause_8 (by decide) (fun hc2 => ?_) (fun hc2 => ?_)
  · replace h := if_p hc2 h
    exact tj_vs_LawReading_readClause_29 x1 hC hr hlocks (lv_sub hl [1, 0] rfl) hW h
  · replace h := if_n hc2 h
    refine lv_iload_n hx hb dX4_readClause_11 rfl (lv_at hl 0 rfl) ?_
    refine lv_bipush (v := 100) hx hb dX4_readClause_12 (by decide) ?_
    refine lv_icmp_eq (tgt := 29) hx hb dX4_readClause_14 (by decide) (fun hc24 => ?_) (fun hc24 => ?_)
    · replace h := if_p hc24 h
      exact tj_vs_LawReading_readClause_29 x1 hC hr hlocks (lv_sub hl [1, 0] rfl) hW h
    · replace h := if_n hc24 h
      refine lv_iload_n hx hb dX4_readClause_17 rfl (lv_at hl 0 rfl) ?_
      refine lv_bipush (v := 102) hx hb dX4_readClause_18 (by decide) ?_
      refine lv_icmp_eq (tgt := 29) hx hb dX4_readClause_20 (by decide) (fun hc25 => ?_) (fun hc25 => ?_)
      · replace h := if_p hc25 h
        exact tj_vs_LawReading_readClause_29 x1 hC hr hlocks (lv_sub hl [1, 0] rfl) hW h
      · replace h := if_n hc25 h
        refine lv_aload_n hx hb dX4_readClause_23 rfl (lv_at hl 1 rfl) ?_
        refine lv_iconst (v := 1) hx hb dX4_readClause_24 (by decide) ?_
        obtain ⟨x26, μ27, hx26, h⟩ := mbm_some h
        refine kr_ci hC hW (kr_runV hC hW hl.1 (t_vs_LawReading_fail hx26) cw_X4_47 (wy_77 g μ) rfl rfl rfl (Nat.le_of_ble_eq_true rfl) dX4_readClause_25 (by decide)) (fun H locs hW => ?_)
        cases h
        exact kr_zret hC hr hlocks _ rfl hW dX4_readClause_28
set_option maxHeartbeats 4000000 in
set_option maxRecDepth 100000 in
theorem tl_vs_LawReading_read_7 (hC : Cx g RX4 cX4_read 3 p s m args c) {e0 : (Mm)} (kx0 : ∀ (ls : Array Slot) (H : Heap) (locs : List Loc), lv_has ls 3 [(0, .ref (ad g 77))] → wP g wy A s.heap e0 H locs → W p l e (rmD 45) s m args below meth c H locs 0 0 Q (F0 m 57 ls [])) : ∀ (n : Nat) (q : Int32 × Int32 × Mm), miter (fun q => vs_LawReading_read_b7 q.2.2 q.1 q.2.1) n q = some e0 → ∀ (ls : Array Slot) (H : Heap) (locs : List Loc), lv_has ls 3 [(0, .ref (ad g 77)), (1, .int q.1), (2, .int q.2.1)] → wP g wy A s.heap q.2.2 H locs → W p l e (rmD 45) s m args below meth c H locs 0 0 Q (F0 m 7 ls []) := by
  obtain ⟨hx, hb, hml, hown, hts, hK, hN⟩ := id hC
  refine miter_ind (fun q r hf k1 k2 => ?_)
  obtain ⟨xs1, xs2, μ⟩ := q
  intro ls H locs hl hW
  have h : vs_LawReading_read_b7 μ xs1 xs2 = some r := hf
  unfold vs_LawReading_read_b7 at h
  refine lv_iload_n hx hb dX4_read_7 rfl (lv_at hl 2 rfl) ?_
  refine lv_sipush (v := 200) hx hb dX4_read_8 (by decide) ?_
  refine lv_icmp_ge (tgt := 57) hx hb dX4_read_11 (by decide) (fun hc3 => ?_) (fun hc3 => ?_)
  · replace h := if_p hc3 h
    obtain rfl := k2 _ (Option.some.inj h).symm
    exact kx0 _ _ _ (lv_sub hl [0] rfl) hW
  · replace h := if_n hc3 h
    refine lv_iload_n hx hb dX4_read_14 rfl (lv_at hl 1 rfl) ?_
    refine lv_if_eq (tgt := 57) hx hb dX4_read_15 (by decide) (fun hc4 => ?_) (fun hc4 => ?_)
    · replace h := if_p hc4 h
      obtain rfl := k2 _ (Option.some.inj h).symm
      exact kx0 _ _ _ (lv_sub hl [0] rfl) hW
    · replace h := if_n hc4 h
      refine lv_aload_n hx hb dX4_read_18 rfl (lv_at hl 0 rfl) ?_
      refine gf_X4_33_y77 hC hW dX4_read_19 ?_
      refine lv_aload_n hx hb dX4_read_22 rfl (lv_at hl 0 rfl) ?_
      refine gf_X4_21_y77 hC hW dX4_read_23 ?_
      refine lv_icmp_ge (tgt := 57) hx hb dX4_read_26 (by decide) (fun hc5 => ?_) (fun hc5 => ?_)
      · replace h := if_p hc5 h
        obtain rfl := k2 _ (Option.some.inj h).symm
        exact kx0 _ _ _ (lv_sub hl [0] rfl) hW
      · replace h := if_n hc5 h
        refine lv_aload_n hx hb dX4_read_29 rfl (lv_at hl 0 rfl) ?_
        refine lv_bipush (v := 59) hx hb dX4_read_30 (by decide) ?_
        obtain ⟨x6, μ7, hx6, h⟩ := mbm_some h
        refine kr_ci hC hW (kr_runV hC hW hl.1 (t_vs_LawReading_expect hx6) cw_X4_36 (wy_77 g μ) rfl rfl rfl (Nat.le_of_ble_eq_true rfl) dX4_read_32 (by decide)) (fun H locs hW => ?_)
        refine lv_if_eq (tgt := 49) hx hb dX4_read_35 (by decide) (fun hc8 => ?_) (fun hc8 => ?_)
        · replace h := if_p hc8 h
          refine lv_iconst (v := 0) hx hb dX4_read_49 (by decide) ?_
          refine lv_istore_n (lv' := [(1, .int 0), (0, .ref (ad g 77)), (2, .int xs2)]) hx hb dX4_read_50 rfl hl (by decide) rfl (fun ls hl => ?_)
          refine lv_iinc (v := (xs2 + 1)) (lv' := [(2, .int (xs2 + 1)), (1, .int 0), (0, .ref (ad g 77))]) hx hb dX4_read_51 hl (k := 2) rfl (by rw [oi_1]) (by decide) rfl (fun ls hl => ?_)
          refine lv_goto (tgt := 7) hx hb dX4_read_54 (by decide) ?_
          exact k1 (0, (xs2 + 1), μ7) (Option.some.inj h).symm _ _ _ (lv_sub hl [2, 1, 0] rfl) hW
        · replace h := if_n hc8 h
          refine lv_aload_n hx hb dX4_read_38 rfl (lv_at hl 0 rfl) ?_
          obtain ⟨x9, μ10, hx9, h⟩ := mbm_some h
          refine kr_ci hC hW (kr_runV hC hW hl.1 (t_vs_LawReading_readClause hx9) cw_X4_29 (wy_77 g μ7) rfl rfl rfl (Nat.le_of_ble_eq_true rfl) dX4_read_39 (by decide)) (fun H locs hW => ?_)
          refine lv_if_eq (tgt := 49) hx hb dX4_read_42 (by decide) (fun hc11 => ?_) (fun hc11 => ?_)
          · replace h := if_p hc11 h
            refine lv_iconst (v := 0) hx hb dX4_read_49 (by decide) ?_
            refine lv_istore_n (lv' := [(1, .int 0), (0, .ref (ad g 77)), (2, .int xs2)]) hx hb dX4_read_50 rfl hl (by decide) rfl (fun ls hl => ?_)
            refine lv_iinc (v := (xs2 + 1)) (lv' := [(2, .int (xs2 + 1)), (1, .int 0), (0, .ref (ad g 77))]) hx hb dX4_read_51 hl (k := 2) rfl (by rw [oi_1]) (by decide) rfl (fun ls hl => ?_)
            refine lv_goto (tgt := 7) hx hb dX4_read_54 (by decide) ?_
            exact k1 (0, (xs2 + 1), μ10) (Option.some.inj h).symm _ _ _ (lv_sub hl [2, 1, 0] rfl) hW
          · replace h := if_n hc11 h
            refine lv_iconst (v := 1) hx hb dX4_read_45 (by decide) ?_
            refine lv_goto (tgt := 50) hx hb dX4_read_46 (by decide) ?_
            refine lv_istore_n (lv' := [(1, .int 1), (0, .ref (ad g 77)), (2, .int xs2)]) hx hb dX4_read_50 rfl hl (by decide) rfl (fun ls hl => ?_)
            refine lv_iinc (v := (xs2 + 1)) (lv' := [(2, .int (xs2 + 1)), (1, .int 1), (0, .ref (ad g 77))]) hx hb dX4_read_51 hl (k := 2) rfl (by rw [oi_1]) (by decide) rfl (fun ls hl => ?_)
            refine lv_goto (tgt := 7) hx hb dX4_read_54 (by decide) ?_
            exact k1 (1, (xs2 + 1), μ10) (Option.some.inj h).symm _ _ _ (lv_sub hl [2, 1, 0] rfl) hW
set_option maxHeartbeats 4000000 in
set_option maxRecDepth 100000 in
theorem t_vs_LawReading_read {l : Launch} {g : Gx} {A : Nat → Prop} {μ : Mm} {v : Int32} {u : Mm} (h : vs_LawReading_read μ = some (v, u)) : Cti l g A wy yX4_read cX4_read 3 (some .int) 45 [.ref (ad g 77)] μ v u := by
  refine ent (lv := [(0, .ref (ad g 77))]) (by decide) (Nat.le_of_ble_eq_true rfl) rfl ?_
  intro p e s m args below meth c hC hr hlocks hnm hW ls hl
  replace hC : Cx g RX4 cX4_read 3 p s m args c := hC
  obtain ⟨hx, hb, hml, hown, hts, hK, hN⟩ := id hC
  unfold vs_LawReading_read at h
  refine lv_aload_n hx hb dX4_read_0 rfl (lv_at hl 0 rfl) ?_
  obtain ⟨x1, μ2, hx1, h⟩ := mbm_some h
  refine kr_ci hC hW (kr_runV hC hW hl.1 (t_vs_LawReading_readClause hx1) cw_X4_29 (wy_77 g μ) rfl rfl rfl (Nat.le_of_ble_eq_true rfl) dX4_read_1 (by decide)) (fun H locs hW => ?_)
  refine lv_istore_n (lv' := [(1, .int (bI x1)), (0, .ref (ad g 77))]) hx hb dX4_read_4 rfl hl (by decide) rfl (fun ls hl => ?_)
  refine lv_iconst (v := 0) hx hb dX4_read_5 (by decide) ?_
  refine lv_istore_n (lv' := [(2, .int 0), (1, .int (bI x1)), (0, .ref (ad g 77))]) hx hb dX4_read_6 rfl hl (by decide) rfl (fun ls hl => ?_)
  obtain ⟨μ12, he13, h⟩ := mbv_some h
  refine tl_vs_LawReading_read_7 hC (fun ls H locs hl hW => ?_) FU ((bI x1), 0, μ2) he13 _ _ _ (lv_sub hl [2, 1, 0] rfl) hW
  refine lv_aload_n hx hb dX4_read_57 rfl (lv_at hl 0 rfl) ?_
  refine gf_X4_40_y77 hC hW dX4_read_58 ?_
  cases h
  exact kr_iret hC hr hlocks hW dX4_read_61
set_option maxHeartbeats 4000000 in
set_option maxRecDepth 100000 in
theorem t_md_in {l : Launch} {g : Gx} {A : Nat → Prop} {Wd : Gx → Mm → va_W} {μ : Mm} {a0 : Int32} {a1 : Int32} {a2 : Int32} {v : Bool} (h : md_in a0 a1 a2 = some v) : Cti l g A Wd yX12_in cX12_in 3 (some .boolean) 0 [.int a0, .int a1, .int a2] μ (bI v) μ := by
  refine ent (lv := [(0, .int a0), (1, .int a1), (2, .int a2)]) (by decide) (Nat.le_of_ble_eq_true rfl) rfl ?_
  intro p e s m args below meth c hC hr hlocks hnm hW ls hl
  replace hC : Cx g RX12 cX12_in 3 p s m args c := hC
  obtain ⟨hx, hb, hml, hown, hts, hK, hN⟩ := id hC
  unfold md_in at h
  refine lv_iload_n hx hb dX12_in_0 rfl (lv_at hl 0 rfl) ?_
  refine lv_iload_n hx hb dX12_in_1 rfl (lv_at hl 1 rfl) ?_
  refine lv_icmp_lt (tgt := 14) hx hb dX12_in_2 (by decide) (fun hc1 => ?_) (fun hc1 => ?_)
  · replace h := if_p hc1 h
    refine lv_iconst (v := 0) hx hb dX12_in_14 (by decide) ?_
    cases h
    exact kr_zret hC hr hlocks _ rfl hW dX12_in_15
  · replace h := if_n hc1 h
    refine lv_iload_n hx hb dX12_in_5 rfl (lv_at hl 0 rfl) ?_
    refine lv_iload_n hx hb dX12_in_6 rfl (lv_at hl 2 rfl) ?_
    refine lv_icmp_gt (tgt := 14) hx hb dX12_in_7 (by decide) (fun hc2 => ?_) (fun hc2 => ?_)
    · replace h := if_p hc2 h
      refine lv_iconst (v := 0) hx hb dX12_in_14 (by decide) ?_
      cases h
      exact kr_zret hC hr hlocks _ rfl hW dX12_in_15
    · replace h := if_n hc2 h
      refine lv_iconst (v := 1) hx hb dX12_in_10 (by decide) ?_
      refine lv_goto (tgt := 15) hx hb dX12_in_11 (by decide) ?_
      cases h
      exact kr_zret hC hr hlocks _ rfl hW dX12_in_15
set_option maxHeartbeats 4000000 in
set_option maxRecDepth 100000 in
theorem t_md_isBook {l : Launch} {g : Gx} {A : Nat → Prop} {μ : Mm} {a1 : Int32} {v : Bool} (h : md_isBook μ a1 = some v) : Cti l g A wm yX12_isBook cX12_isBook 2 (some .boolean) 0 [.ref (ad g 0), .int a1] μ (bI v) μ := by
  refine ent (lv := [(0, .ref (ad g 0)), (1, .int a1)]) (by decide) (Nat.le_of_ble_eq_true rfl) rfl ?_
  intro p e s m args below meth c hC hr hlocks hnm hW ls hl
  replace hC : Cx g RX12 cX12_isBook 2 p s m args c := hC
  obtain ⟨hx, hb, hml, hown, hts, hK, hN⟩ := id hC
  unfold md_isBook at h
  refine lv_iload_n hx hb dX12_isBook_0 rfl (lv_at hl 1 rfl) ?_
  refine lv_if_lt (tgt := 16) hx hb dX12_isBook_1 (by decide) (fun hc1 => ?_) (fun hc1 => ?_)
  · replace h := if_p hc1 h
    refine lv_iconst (v := 0) hx hb dX12_isBook_16 (by decide) ?_
    cases h
    exact kr_zret hC hr hlocks _ rfl hW dX12_isBook_17
  · replace h := if_n hc1 h
    refine lv_iload_n hx hb dX12_isBook_4 rfl (lv_at hl 1 rfl) ?_
    refine lv_aload_n hx hb dX12_isBook_5 rfl (lv_at hl 0 rfl) ?_
    refine gf_X12_187_m0 hC hW dX12_isBook_6 ?_
    refine lv_icmp_ge (tgt := 16) hx hb dX12_isBook_9 (by decide) (fun hc2 => ?_) (fun hc2 => ?_)
    · replace h := if_p hc2 h
      refine lv_iconst (v := 0) hx hb dX12_isBook_16 (by decide) ?_
      cases h
      exact kr_zret hC hr hlocks _ rfl hW dX12_isBook_17
    · replace h := if_n hc2 h
      refine lv_iconst (v := 1) hx hb dX12_isBook_12 (by decide) ?_
      refine lv_goto (tgt := 17) hx hb dX12_isBook_13 (by decide) ?_
      cases h
      exact kr_zret hC hr hlocks _ rfl hW dX12_isBook_17
set_option maxHeartbeats 4000000 in
set_option maxRecDepth 100000 in
theorem t_md_isStop {l : Launch} {g : Gx} {A : Nat → Prop} {μ : Mm} {a1 : Int32} {v : Bool} (h : md_isStop μ a1 = some v) : Cti l g A wm yX12_isStop cX12_isStop 2 (some .boolean) 0 [.ref (ad g 0), .int a1] μ (bI v) μ := by
  refine ent (lv := [(0, .ref (ad g 0)), (1, .int a1)]) (by decide) (Nat.le_of_ble_eq_true rfl) rfl ?_
  intro p e s m args below meth c hC hr hlocks hnm hW ls hl
  replace hC : Cx g RX12 cX12_isStop 2 p s m args c := hC
  obtain ⟨hx, hb, hml, hown, hts, hK, hN⟩ := id hC
  unfold md_isStop at h
  refine lv_iload_n hx hb dX12_isStop_0 rfl (lv_at hl 1 rfl) ?_
  refine lv_if_lt (tgt := 16) hx hb dX12_isStop_1 (by decide) (fun hc1 => ?_) (fun hc1 => ?_)
  · replace h := if_p hc1 h
    refine lv_iconst (v := 0) hx hb dX12_isStop_16 (by decide) ?_
    cases h
    exact kr_zret hC hr hlocks _ rfl hW dX12_isStop_17
  · replace h := if_n hc1 h
    refine lv_iload_n hx hb dX12_isStop_4 rfl (lv_at hl 1 rfl) ?_
    refine lv_aload_n hx hb dX12_isStop_5 rfl (lv_at hl 0 rfl) ?_
    refine gf_X12_190_m0 hC hW dX12_isStop_6 ?_
    refine lv_icmp_ge (tgt := 16) hx hb dX12_isStop_9 (by decide) (fun hc2 => ?_) (fun hc2 => ?_)
    · replace h := if_p hc2 h
      refine lv_iconst (v := 0) hx hb dX12_isStop_16 (by decide) ?_
      cases h
      exact kr_zret hC hr hlocks _ rfl hW dX12_isStop_17
    · replace h := if_n hc2 h
      refine lv_iconst (v := 1) hx hb dX12_isStop_12 (by decide) ?_
      refine lv_goto (tgt := 17) hx hb dX12_isStop_13 (by decide) ?_
      cases h
      exact kr_zret hC hr hlocks _ rfl hW dX12_isStop_17
set_option maxHeartbeats 4000000 in
set_option maxRecDepth 100000 in
theorem t_md_isReader {l : Launch} {g : Gx} {A : Nat → Prop} {μ : Mm} {a1 : Int32} {v : Bool} (h : md_isReader μ a1 = some v) : Cti l g A wm yX12_isReader cX12_isReader 2 (some .boolean) 0 [.ref (ad g 0), .int a1] μ (bI v) μ := by
  refine ent (lv := [(0, .ref (ad g 0)), (1, .int a1)]) (by decide) (Nat.le_of_ble_eq_true rfl) rfl ?_
  intro p e s m args below meth c hC hr hlocks hnm hW ls hl
  replace hC : Cx g RX12 cX12_isReader 2 p s m args c := hC
  obtain ⟨hx, hb, hml, hown, hts, hK, hN⟩ := id hC
  unfold md_isReader at h
  refine lv_iload_n hx hb dX12_isReader_0 rfl (lv_at hl 1 rfl) ?_
  refine lv_if_lt (tgt := 16) hx hb dX12_isReader_1 (by decide) (fun hc1 => ?_) (fun hc1 => ?_)
  · replace h := if_p hc1 h
    refine lv_iconst (v := 0) hx hb dX12_isReader_16 (by decide) ?_
    cases h
    exact kr_zret hC hr hlocks _ rfl hW dX12_isReader_17
  · replace h := if_n hc1 h
    refine lv_iload_n hx hb dX12_isReader_4 rfl (lv_at hl 1 rfl) ?_
    refine lv_aload_n hx hb dX12_isReader_5 rfl (lv_at hl 0 rfl) ?_
    refine gf_X12_193_m0 hC hW dX12_isReader_6 ?_
    refine lv_icmp_ge (tgt := 16) hx hb dX12_isReader_9 (by decide) (fun hc2 => ?_) (fun hc2 => ?_)
    · replace h := if_p hc2 h
      refine lv_iconst (v := 0) hx hb dX12_isReader_16 (by decide) ?_
      cases h
      exact kr_zret hC hr hlocks _ rfl hW dX12_isReader_17
    · replace h := if_n hc2 h
      refine lv_iconst (v := 1) hx hb dX12_isReader_12 (by decide) ?_
      refine lv_goto (tgt := 17) hx hb dX12_isReader_13 (by decide) ?_
      cases h
      exact kr_zret hC hr hlocks _ rfl hW dX12_isReader_17
set_option maxHeartbeats 4000000 in
set_option maxRecDepth 100000 in
theorem t_md_isVan {l : Launch} {g : Gx} {A : Nat → Prop} {Wd : Gx → Mm → va_W} {μ : Mm} {a0 : Int32} {v : Bool} (h : md_isVan a0 = some v) : Cti l g A Wd yX12_isVan cX12_isVan 1 (some .boolean) 0 [.int a0] μ (bI v) μ := by
  refine ent (lv := [(0, .int a0)]) (by decide) (Nat.le_of_ble_eq_true rfl) rfl ?_
  intro p e s m args below meth c hC hr hlocks hnm hW ls hl
  replace hC : Cx g RX12 cX12_isVan 1 p s m args c := hC
  obtain ⟨hx, hb, hml, hown, hts, hK, hN⟩ := id hC
  unfold md_isVan at h
  refine lv_iload_n hx hb dX12_isVan_0 rfl (lv_at hl 0 rfl) ?_
  refine lv_if_lt (tgt := 13) hx hb dX12_isVan_1 (by decide) (fun hc1 => ?_) (fun hc1 => ?_)
  · replace h := if_p hc1 h
    refine lv_iconst (v := 0) hx hb dX12_isVan_13 (by decide) ?_
    cases h
    exact kr_zret hC hr hlocks _ rfl hW dX12_isVan_14
  · replace h := if_n hc1 h
    refine lv_iload_n hx hb dX12_isVan_4 rfl (lv_at hl 0 rfl) ?_
    refine lv_iconst (v := 3) hx hb dX12_isVan_5 (by decide) ?_
    refine lv_icmp_ge (tgt := 13) hx hb dX12_isVan_6 (by decide) (fun hc2 => ?_) (fun hc2 => ?_)
    · replace h := if_p hc2 h
      refine lv_iconst (v := 0) hx hb dX12_isVan_13 (by decide) ?_
      cases h
      exact kr_zret hC hr hlocks _ rfl hW dX12_isVan_14
    · replace h := if_n hc2 h
      refine lv_iconst (v := 1) hx hb dX12_isVan_9 (by decide) ?_
      refine lv_goto (tgt := 14) hx hb dX12_isVan_10 (by decide) ?_
      cases h
      exact kr_zret hC hr hlocks _ rfl hW dX12_isVan_14
set_option maxHeartbeats 4000000 in
set_option maxRecDepth 100000 in
theorem t_md_isDay {l : Launch} {g : Gx} {A : Nat → Prop} {Wd : Gx → Mm → va_W} {μ : Mm} {a0 : Int32} {v : Bool} (h : md_isDay a0 = some v) : Cti l g A Wd yX12_isDay cX12_isDay 1 (some .boolean) 0 [.int a0] μ (bI v) μ := by
  refine ent (lv := [(0, .int a0)]) (by decide) (Nat.le_of_ble_eq_true rfl) rfl ?_
  intro p e s m args below meth c hC hr hlocks hnm hW ls hl
  replace hC : Cx g RX12 cX12_isDay 1 p s m args c := hC
  obtain ⟨hx, hb, hml, hown, hts, hK, hN⟩ := id hC
  unfold md_isDay at h
  refine lv_iload_n hx hb dX12_isDay_0 rfl (lv_at hl 0 rfl) ?_
  refine lv_if_lt (tgt := 15) hx hb dX12_isDay_1 (by decide) (fun hc1 => ?_) (fun hc1 => ?_)
  · replace h := if_p hc1 h
    refine lv_iconst (v := 0) hx hb dX12_isDay_15 (by decide) ?_
    cases h
    exact kr_zret hC hr hlocks _ rfl hW dX12_isDay_16
  · replace h := if_n hc1 h
    refine lv_iload_n hx hb dX12_isDay_4 rfl (lv_at hl 0 rfl) ?_
    refine lv_sipush (v := 199) hx hb dX12_isDay_5 (by decide) ?_
    refine lv_icmp_gt (tgt := 15) hx hb dX12_isDay_8 (by decide) (fun hc2 => ?_) (fun hc2 => ?_)
    · replace h := if_p hc2 h
      refine lv_iconst (v := 0) hx hb dX12_isDay_15 (by decide) ?_
      cases h
      exact kr_zret hC hr hlocks _ rfl hW dX12_isDay_16
    · replace h := if_n hc2 h
      refine lv_iconst (v := 1) hx hb dX12_isDay_11 (by decide) ?_
      refine lv_goto (tgt := 16) hx hb dX12_isDay_12 (by decide) ?_
      cases h
      exact kr_zret hC hr hlocks _ rfl hW dX12_isDay_16
set_option maxHeartbeats 4000000 in
set_option maxRecDepth 100000 in
theorem t_md_now {l : Launch} {g : Gx} {A : Nat → Prop} {μ : Mm} {a1 : Int32} {v : Bool} {u : Mm} (h : md_now μ a1 = some (v, u)) : Cti l g A wm yX12_now cX12_now 2 (some .boolean) 1 [.ref (ad g 0), .int a1] μ (bI v) u := by
  refine ent (lv := [(0, .ref (ad g 0)), (1, .int a1)]) (by decide) (Nat.le_of_ble_eq_true rfl) rfl ?_
  intro p e s m args below meth c hC hr hlocks hnm hW ls hl
  replace hC : Cx g RX12 cX12_now 2 p s m args c := hC
  obtain ⟨hx, hb, hml, hown, hts, hK, hN⟩ := id hC
  unfold md_now at h
  refine lv_iload_n hx hb dX12_now_0 rfl (lv_at hl 1 rfl) ?_
  refine lv_aload_n hx hb dX12_now_1 rfl (lv_at hl 0 rfl) ?_
  refine gf_X12_196_m0 hC hW dX12_now_2 ?_
  refine lv_sipush (v := 199) hx hb dX12_now_5 (by decide) ?_
  obtain ⟨x1, hx1, h⟩ := mbv_some h
  refine kr_ci hC hW (kr_runS hC hW hl.1 (t_md_in hx1) cw_X12_199 rfl rfl (Nat.le_of_ble_eq_true rfl) dX12_now_8 (by decide)) (fun H locs hW => ?_)
  refine lv_if_ne (tgt := 16) hx hb dX12_now_11 (by decide) (fun hc2 => ?_) (fun hc2 => ?_)
  · replace h := if_n hc2 h
    refine lv_aload_n hx hb dX12_now_16 rfl (lv_at hl 0 rfl) ?_
    refine lv_iload_n hx hb dX12_now_17 rfl (lv_at hl 1 rfl) ?_
    obtain ⟨μ3, eμ3, h⟩ := mst_some h
    refine pf_X12_196_m0 hC hW eμ3 dX12_now_18 (fun H locs hW => ?_)
    refine lv_iconst (v := 1) hx hb dX12_now_21 (by decide) ?_
    cases h
    exact kr_zret hC hr hlocks _ rfl hW dX12_now_22
  · replace h := if_p hc2 h
    refine lv_iconst (v := 0) hx hb dX12_now_14 (by decide) ?_
    cases h
    exact kr_zret hC hr hlocks _ rfl hW dX12_now_15
set_option maxHeartbeats 4000000 in
set_option maxRecDepth 100000 in
theorem t_md_book {l : Launch} {g : Gx} {A : Nat → Prop} {μ : Mm} {a1 : Int32} {a2 : Int32} {a3 : Int32} {a4 : Int32} {v : Int32} {u : Mm} (h : md_book μ a1 a2 a3 a4 = some (v, u)) : Cti l g A wm yX12_book cX12_book 5 (some .int) 1 [.ref (ad g 0), .int a1, .int a2, .int a3, .int a4] μ v u := by
  refine ent (lv := [(0, .ref (ad g 0)), (1, .int a1), (2, .int a2), (3, .int a3), (4, .int a4)]) (by decide) (Nat.le_of_ble_eq_true rfl) rfl ?_
  intro p e s m args below meth c hC hr hlocks hnm hW ls hl
  replace hC : Cx g RX12 cX12_book 5 p s m args c := hC
  obtain ⟨hx, hb, hml, hown, hts, hK, hN⟩ := id hC
  unfold md_book at h
  refine lv_iload_n hx hb dX12_book_0 rfl (lv_at hl 1 rfl) ?_
  refine lv_iconst (v := 0) hx hb dX12_book_1 (by decide) ?_
  refine lv_bipush (v := 7) hx hb dX12_book_2 (by decide) ?_
  obtain ⟨x1, hx1, h⟩ := mbv_some h
  refine kr_ci hC hW (kr_runS hC hW hl.1 (t_md_in hx1) cw_X12_199 rfl rfl (Nat.le_of_ble_eq_true rfl) dX12_book_4 (by decide)) (fun H locs hW => ?_)
  refine lv_if_eq (tgt := 50) hx hb dX12_book_7 (by decide) (fun hc2 => ?_) (fun hc2 => ?_)
  · replace h := if_p hc2 h
    refine lv_iconst (v := (-1)) hx hb dX12_book_50 (by decide) ?_
    cases h
    exact kr_iret hC hr hlocks hW dX12_book_51
  · replace h := if_n hc2 h
    refine lv_iload_n hx hb dX12_book_10 rfl (lv_at hl 2 rfl) ?_
    refine lv_iconst (v := 1) hx hb dX12_book_11 (by decide) ?_
    refine lv_bipush (v := 9) hx hb dX12_book_12 (by decide) ?_
    obtain ⟨x3, hx3, h⟩ := mbv_some h
    refine kr_ci hC hW (kr_runS hC hW hl.1 (t_md_in hx3) cw_X12_199 rfl rfl (Nat.le_of_ble_eq_true rfl) dX12_book_14 (by decide)) (fun H locs hW => ?_)
    refine lv_if_eq (tgt := 50) hx hb dX12_book_17 (by decide) (fun hc4 => ?_) (fun hc4 => ?_)
    · replace h := if_p hc4 h
      refine lv_iconst (v := (-1)) hx hb dX12_book_50 (by decide) ?_
      cases h
      exact kr_iret hC hr hlocks hW dX12_book_51
    · replace h := if_n hc4 h
      refine lv_iload_n hx hb dX12_book_20 rfl (lv_at hl 3 rfl) ?_
      refine lv_iconst (v := 0) hx hb dX12_book_21 (by decide) ?_
      refine lv_iconst (v := 2) hx hb dX12_book_22 (by decide) ?_
      obtain ⟨x5, hx5, h⟩ := mbv_some h
      refine kr_ci hC hW (kr_runS hC hW hl.1 (t_md_in hx5) cw_X12_199 rfl rfl (Nat.le_of_ble_eq_true rfl) dX12_book_23 (by decide)) (fun H locs hW => ?_)
      refine lv_if_eq (tgt := 50) hx hb dX12_book_26 (by decide) (fun hc6 => ?_) (fun hc6 => ?_)
      · replace h := if_p hc6 h
        refine lv_iconst (v := (-1)) hx hb dX12_book_50 (by decide) ?_
        cases h
        exact kr_iret hC hr hlocks hW dX12_book_51
      · replace h := if_n hc6 h
        refine lv_iload hx hb dX12_book_29 (lv_at hl 4 rfl) ?_
        refine lv_iconst (v := 0) hx hb dX12_book_31 (by decide) ?_
        refine lv_sipush (v := 1000) hx hb dX12_book_32 (by decide) ?_
        obtain ⟨x7, hx7, h⟩ := mbv_some h
        refine kr_ci hC hW (kr_runS hC hW hl.1 (t_md_in hx7) cw_X12_199 rfl rfl (Nat.le_of_ble_eq_true rfl) dX12_book_35 (by decide)) (fun H locs hW => ?_)
        refine lv_if_eq (tgt := 50) hx hb dX12_book_38 (by decide) (fun hc8 => ?_) (fun hc8 => ?_)
        · replace h := if_p hc8 h
          refine lv_iconst (v := (-1)) hx hb dX12_book_50 (by decide) ?_
          cases h
          exact kr_iret hC hr hlocks hW dX12_book_51
        · replace h := if_n hc8 h
          refine lv_aload_n hx hb dX12_book_41 rfl (lv_at hl 0 rfl) ?_
          refine gf_X12_187_m0 hC hW dX12_book_42 ?_
          refine lv_bipush (v := 32) hx hb dX12_book_45 (by decide) ?_
          refine lv_icmp_ne (tgt := 52) hx hb dX12_book_47 (by decide) (fun hc9 => ?_) (fun hc9 => ?_)
          · replace h := if_n hc9 h
            refine lv_aload_n hx hb dX12_book_52 rfl (lv_at hl 0 rfl) ?_
            refine gf_X12_7_m0 hC hW dX12_book_53 ?_
            refine lv_aload_n hx hb dX12_book_56 rfl (lv_at hl 0 rfl) ?_
            refine gf_X12_187_m0 hC hW dX12_book_57 ?_
            refine lv_iload_n hx hb dX12_book_60 rfl (lv_at hl 1 rfl) ?_
            obtain ⟨μ10, eμ10, hin, h⟩ := mwr_ex h
            refine kr_iast hC hW (wm_1 g μ) (wms_1 eμ10) hin dX12_book_61 (fun H locs hW => ?_)
            refine lv_aload_n hx hb dX12_book_62 rfl (lv_at hl 0 rfl) ?_
            refine gf_X12_13_m0 hC hW dX12_book_63 ?_
            refine lv_aload_n hx hb dX12_book_66 rfl (lv_at hl 0 rfl) ?_
            refine gf_X12_187_m0 hC hW dX12_book_67 ?_
            refine lv_iload_n hx hb dX12_book_70 rfl (lv_at hl 2 rfl) ?_
            obtain ⟨μ11, eμ11, hin, h⟩ := mwr_ex h
            refine kr_iast hC hW (wm_2 g μ10) (wms_2 eμ11) hin dX12_book_71 (fun H locs hW => ?_)
            refine lv_aload_n hx hb dX12_book_72 rfl (lv_at hl 0 rfl) ?_
            refine gf_X12_16_m0 hC hW dX12_book_73 ?_
            refine lv_aload_n hx hb dX12_book_76 rfl (lv_at hl 0 rfl) ?_
            refine gf_X12_187_m0 hC hW dX12_book_77 ?_
            refine lv_iload_n hx hb dX12_book_80 rfl (lv_at hl 3 rfl) ?_
            obtain ⟨μ12, eμ12, hin, h⟩ := mwr_ex h
            refine kr_iast hC hW (wm_3 g μ11) (wms_3 eμ12) hin dX12_book_81 (fun H locs hW => ?_)
            refine lv_aload_n hx hb dX12_book_82 rfl (lv_at hl 0 rfl) ?_
            refine gf_X12_19_m0 hC hW dX12_book_83 ?_
            refine lv_aload_n hx hb dX12_book_86 rfl (lv_at hl 0 rfl) ?_
            refine gf_X12_187_m0 hC hW dX12_book_87 ?_
            refine lv_iload hx hb dX12_book_90 (lv_at hl 4 rfl) ?_
            obtain ⟨μ13, eμ13, hin, h⟩ := mwr_ex h
            refine kr_iast hC hW (wm_4 g μ12) (wms_4 eμ13) hin dX12_book_92 (fun H locs hW => ?_)
            refine lv_aload_n hx hb dX12_book_93 rfl (lv_at hl 0 rfl) ?_
            refine gf_X12_22_m0 hC hW dX12_book_94 ?_
            refine lv_aload_n hx hb dX12_book_97 rfl (lv_at hl 0 rfl) ?_
            refine gf_X12_187_m0 hC hW dX12_book_98 ?_
            refine lv_iconst (v := 0) hx hb dX12_book_101 (by decide) ?_
            obtain ⟨μ14, eμ14, hin, h⟩ := mwr_ex h
            refine kr_iast hC hW (wm_5 g μ13) (wms_5 eμ14) hin dX12_book_102 (fun H locs hW => ?_)
            refine lv_aload_n hx hb dX12_book_103 rfl (lv_at hl 0 rfl) ?_
            refine gf_X12_25_m0 hC hW dX12_book_104 ?_
            refine lv_aload_n hx hb dX12_book_107 rfl (lv_at hl 0 rfl) ?_
            refine gf_X12_187_m0 hC hW dX12_book_108 ?_
            refine lv_iconst (v := (-1)) hx hb dX12_book_111 (by decide) ?_
            obtain ⟨μ15, eμ15, hin, h⟩ := mwr_ex h
            refine kr_iast hC hW (wm_6 g μ14) (wms_6 eμ15) hin dX12_book_112 (fun H locs hW => ?_)
            refine lv_aload_n hx hb dX12_book_113 rfl (lv_at hl 0 rfl) ?_
            refine lv_aload_n hx hb dX12_book_114 rfl (lv_at hl 0 rfl) ?_
            refine gf_X12_187_m0 hC hW dX12_book_115 ?_
            refine lv_iconst (v := 1) hx hb dX12_book_118 (by decide) ?_
            refine lv_iadd hx hb dX12_book_119 ?_
            obtain ⟨μ16, eμ16, h⟩ := mst_some h
            refine pf_X12_187_m0 hC hW eμ16 dX12_book_120 (fun H locs hW => ?_)
            refine lv_aload_n hx hb dX12_book_123 rfl (lv_at hl 0 rfl) ?_
            refine gf_X12_187_m0 hC hW dX12_book_124 ?_
            refine lv_iconst (v := 1) hx hb dX12_book_127 (by decide) ?_
            refine lv_isub hx hb dX12_book_128 ?_
            cases h
            exact kr_iret hC hr hlocks hW dX12_book_129
          · replace h := if_p hc9 h
            refine lv_iconst (v := (-1)) hx hb dX12_book_50 (by decide) ?_
            cases h
            exact kr_iret hC hr hlocks hW dX12_book_51
end
