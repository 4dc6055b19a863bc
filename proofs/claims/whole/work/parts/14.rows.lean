section
variable {p : Program} {l : Launch} {e : Env} {s : State} {m : MethodId} {args : Array Value} {below : List Frame} {meth : Method} {c : Code} {H : Heap} {locs : List Loc} {Q : State → Prop} {g : Gx} {A : Nat → Prop} {ls : Array Slot} {Wd : Gx → Mm → va_W}
set_option maxHeartbeats 4000000 in
set_option maxRecDepth 100000 in
theorem tl_md_lengthOn_4 (μ : Mm) (a1 : Int32) (hC : Cx g RX12 cX12_lengthOn 4 p s m args c) {e0 : (Int32)} (kx0 : ∀ (ls : Array Slot) (H : Heap) (locs : List Loc), lv_has ls 4 [(2, .int e0)] → wP g wm A s.heap μ H locs → W p l e (rmD 0) s m args below meth c H locs 0 0 Q (F0 m 43 ls [])) : ∀ (n : Nat) (q : Int32 × Int32), miter (fun q => md_lengthOn_b4 μ a1 q.1 q.2) n q = some e0 → ∀ (ls : Array Slot) (H : Heap) (locs : List Loc), lv_has ls 4 [(0, .ref (ad g 0)), (1, .int a1), (2, .int q.1), (3, .int q.2)] → wP g wm A s.heap μ H locs → W p l e (rmD 0) s m args below meth c H locs 0 0 Q (F0 m 4 ls []) := by
  obtain ⟨hx, hb, hml, hown, hts, hK, hN⟩ := id hC
  refine miter_ind (fun q r hf k1 k2 => ?_)
  obtain ⟨xs2, xs3⟩ := q
  intro ls H locs hl hW
  have h : md_lengthOn_b4 μ a1 xs2 xs3 = some r := hf
  unfold md_lengthOn_b4 at h
  refine lv_iload_n hx hb dX12_lengthOn_4 rfl (lv_at hl 3 rfl) ?_
  refine lv_aload_n hx hb dX12_lengthOn_5 rfl (lv_at hl 0 rfl) ?_
  refine gf_X12_187_m0 hC hW dX12_lengthOn_6 ?_
  refine lv_icmp_ge (tgt := 43) hx hb dX12_lengthOn_9 (by decide) (fun hc1 => ?_) (fun hc1 => ?_)
  · replace h := if_p hc1 h
    obtain rfl := k2 _ (Option.some.inj h).symm
    exact kx0 _ _ _ (lv_sub hl [2] rfl) hW
  · replace h := if_n hc1 h
    refine lv_iload_n hx hb dX12_lengthOn_12 rfl (lv_at hl 2 rfl) ?_
    refine lv_aload_n hx hb dX12_lengthOn_13 rfl (lv_at hl 0 rfl) ?_
    refine gf_X12_22_m0 hC hW dX12_lengthOn_14 ?_
    refine lv_iload_n hx hb dX12_lengthOn_17 rfl (lv_at hl 3 rfl) ?_
    obtain ⟨x2, ex2, hin, h⟩ := mrd_ex h
    refine kr_iald hC hW (wm_5 g μ) hin ex2 dX12_lengthOn_18 ?_
    refine lv_iconst (v := 1) hx hb dX12_lengthOn_19 (by decide) ?_
    refine lv_iload_n hx hb dX12_lengthOn_20 rfl (lv_at hl 1 rfl) ?_
    refine lv_iadd hx hb dX12_lengthOn_21 ?_
    refine lv_icmp_ne (tgt := 34) hx hb dX12_lengthOn_22 (by decide) (fun hc3 => ?_) (fun hc3 => ?_)
    · replace h := if_n hc3 h
      refine lv_iconst (v := 0) hx hb dX12_lengthOn_34 (by decide) ?_
      refine lv_iadd hx hb dX12_lengthOn_35 ?_
      refine lv_istore_n (lv' := [(2, .int (xs2 + 0)), (0, .ref (ad g 0)), (1, .int a1), (3, .int xs3)]) hx hb dX12_lengthOn_36 rfl hl (by decide) rfl (fun ls hl => ?_)
      refine lv_iinc (v := (xs3 + 1)) (lv' := [(3, .int (xs3 + 1)), (2, .int (xs2 + 0)), (0, .ref (ad g 0)), (1, .int a1)]) hx hb dX12_lengthOn_37 hl (k := 3) rfl (by rw [oi_1]) (by decide) rfl (fun ls hl => ?_)
      refine lv_goto (tgt := 4) hx hb dX12_lengthOn_40 (by decide) ?_
      exact k1 ((xs2 + 0), (xs3 + 1)) (Option.some.inj h).symm _ _ _ (lv_sub hl [2, 3, 1, 0] rfl) hW
    · replace h := if_p hc3 h
      refine lv_aload_n hx hb dX12_lengthOn_25 rfl (lv_at hl 0 rfl) ?_
      refine gf_X12_13_m0 hC hW dX12_lengthOn_26 ?_
      refine lv_iload_n hx hb dX12_lengthOn_29 rfl (lv_at hl 3 rfl) ?_
      obtain ⟨x4, ex4, hin, h⟩ := mrd_ex h
      refine kr_iald hC hW (wm_2 g μ) hin ex4 dX12_lengthOn_30 ?_
      refine lv_goto (tgt := 35) hx hb dX12_lengthOn_31 (by decide) ?_
      refine lv_iadd hx hb dX12_lengthOn_35 ?_
      refine lv_istore_n (lv' := [(2, .int (xs2 + x4)), (0, .ref (ad g 0)), (1, .int a1), (3, .int xs3)]) hx hb dX12_lengthOn_36 rfl hl (by decide) rfl (fun ls hl => ?_)
      refine lv_iinc (v := (xs3 + 1)) (lv' := [(3, .int (xs3 + 1)), (2, .int (xs2 + x4)), (0, .ref (ad g 0)), (1, .int a1)]) hx hb dX12_lengthOn_37 hl (k := 3) rfl (by rw [oi_1]) (by decide) rfl (fun ls hl => ?_)
      refine lv_goto (tgt := 4) hx hb dX12_lengthOn_40 (by decide) ?_
      exact k1 ((xs2 + x4), (xs3 + 1)) (Option.some.inj h).symm _ _ _ (lv_sub hl [2, 3, 1, 0] rfl) hW
set_option maxHeartbeats 4000000 in
set_option maxRecDepth 100000 in
theorem t_md_lengthOn {l : Launch} {g : Gx} {A : Nat → Prop} {μ : Mm} {a1 : Int32} {v : Int32} (h : md_lengthOn μ a1 = some v) : Cti l g A wm yX12_lengthOn cX12_lengthOn 4 (some .int) 0 [.ref (ad g 0), .int a1] μ v μ := by
  refine ent (lv := [(0, .ref (ad g 0)), (1, .int a1)]) (by decide) (Nat.le_of_ble_eq_true rfl) rfl ?_
  intro p e s m args below meth c hC hr hlocks hnm hW ls hl
  replace hC : Cx g RX12 cX12_lengthOn 4 p s m args c := hC
  obtain ⟨hx, hb, hml, hown, hts, hK, hN⟩ := id hC
  unfold md_lengthOn at h
  refine lv_iconst (v := 0) hx hb dX12_lengthOn_0 (by decide) ?_
  refine lv_istore_n (lv' := [(2, .int 0), (0, .ref (ad g 0)), (1, .int a1)]) hx hb dX12_lengthOn_1 rfl hl (by decide) rfl (fun ls hl => ?_)
  refine lv_iconst (v := 0) hx hb dX12_lengthOn_2 (by decide) ?_
  refine lv_istore_n (lv' := [(3, .int 0), (2, .int 0), (0, .ref (ad g 0)), (1, .int a1)]) hx hb dX12_lengthOn_3 rfl hl (by decide) rfl (fun ls hl => ?_)
  obtain ⟨x5, he6, h⟩ := mbv_some h
  refine tl_md_lengthOn_4 μ a1 hC (fun ls H locs hl hW => ?_) FU (0, 0) he6 _ _ _ (lv_sub hl [2, 3, 1, 0] rfl) hW
  refine lv_iload_n hx hb dX12_lengthOn_43 rfl (lv_at hl 0 rfl) ?_
  cases h
  exact kr_iret hC hr hlocks hW dX12_lengthOn_44
set_option maxHeartbeats 4000000 in
set_option maxRecDepth 100000 in
theorem t_md_shelf {l : Launch} {g : Gx} {A : Nat → Prop} {μ : Mm} {a1 : Int32} {a2 : Int32} {v : Bool} {u : Mm} (h : md_shelf μ a1 a2 = some (v, u)) : Cti l g A wm yX12_shelf cX12_shelf 3 (some .boolean) 1 [.ref (ad g 0), .int a1, .int a2] μ (bI v) u := by
  refine ent (lv := [(0, .ref (ad g 0)), (1, .int a1), (2, .int a2)]) (by decide) (Nat.le_of_ble_eq_true rfl) rfl ?_
  intro p e s m args below meth c hC hr hlocks hnm hW ls hl
  replace hC : Cx g RX12 cX12_shelf 3 p s m args c := hC
  obtain ⟨hx, hb, hml, hown, hts, hK, hN⟩ := id hC
  unfold md_shelf at h
  refine lv_iload_n hx hb dX12_shelf_0 rfl (lv_at hl 1 rfl) ?_
  obtain ⟨x1, hx1, h⟩ := mbv_some h
  refine kr_ci hC hW (kr_runS hC hW hl.1 (t_md_isVan hx1) cw_X12_203 rfl rfl (Nat.le_of_ble_eq_true rfl) dX12_shelf_1 (by decide)) (fun H locs hW => ?_)
  refine lv_if_eq (tgt := 26) hx hb dX12_shelf_4 (by decide) (fun hc2 => ?_) (fun hc2 => ?_)
  · replace h := if_p hc2 h
    refine lv_iconst (v := 0) hx hb dX12_shelf_26 (by decide) ?_
    cases h
    exact kr_zret hC hr hlocks _ rfl hW dX12_shelf_27
  · replace h := if_n hc2 h
    refine lv_iload_n hx hb dX12_shelf_7 rfl (lv_at hl 2 rfl) ?_
    refine lv_iconst (v := 0) hx hb dX12_shelf_8 (by decide) ?_
    refine lv_bipush (v := 99) hx hb dX12_shelf_9 (by decide) ?_
    obtain ⟨x3, hx3, h⟩ := mbv_some h
    refine kr_ci hC hW (kr_runS hC hW hl.1 (t_md_in hx3) cw_X12_199 rfl rfl (Nat.le_of_ble_eq_true rfl) dX12_shelf_11 (by decide)) (fun H locs hW => ?_)
    refine lv_if_eq (tgt := 26) hx hb dX12_shelf_14 (by decide) (fun hc4 => ?_) (fun hc4 => ?_)
    · replace h := if_p hc4 h
      refine lv_iconst (v := 0) hx hb dX12_shelf_26 (by decide) ?_
      cases h
      exact kr_zret hC hr hlocks _ rfl hW dX12_shelf_27
    · replace h := if_n hc4 h
      refine lv_aload_n hx hb dX12_shelf_17 rfl (lv_at hl 0 rfl) ?_
      refine lv_iload_n hx hb dX12_shelf_18 rfl (lv_at hl 1 rfl) ?_
      obtain ⟨x5, hx5, h⟩ := mbv_some h
      refine kr_ci hC hW (kr_runV hC hW hl.1 (t_md_lengthOn hx5) cw_X12_207 (wm_0 g μ) rfl rfl rfl (Nat.le_of_ble_eq_true rfl) dX12_shelf_19 (by decide)) (fun H locs hW => ?_)
      refine lv_iload_n hx hb dX12_shelf_22 rfl (lv_at hl 2 rfl) ?_
      refine lv_icmp_le (tgt := 28) hx hb dX12_shelf_23 (by decide) (fun hc6 => ?_) (fun hc6 => ?_)
      · replace h := if_p hc6 h
        refine lv_aload_n hx hb dX12_shelf_28 rfl (lv_at hl 0 rfl) ?_
        refine gf_X12_34_m0 hC hW dX12_shelf_29 ?_
        refine lv_iload_n hx hb dX12_shelf_32 rfl (lv_at hl 1 rfl) ?_
        refine lv_iload_n hx hb dX12_shelf_33 rfl (lv_at hl 2 rfl) ?_
        obtain ⟨μ7, eμ7, hin, h⟩ := mwr_ex h
        refine kr_iast hC hW (wm_9 g μ) (wms_9 eμ7) hin dX12_shelf_34 (fun H locs hW => ?_)
        refine lv_iconst (v := 1) hx hb dX12_shelf_35 (by decide) ?_
        cases h
        exact kr_zret hC hr hlocks _ rfl hW dX12_shelf_36
      · replace h := if_n hc6 h
        refine lv_iconst (v := 0) hx hb dX12_shelf_26 (by decide) ?_
        cases h
        exact kr_zret hC hr hlocks _ rfl hW dX12_shelf_27
set_option maxHeartbeats 4000000 in
set_option maxRecDepth 100000 in
theorem t_md_stop {l : Launch} {g : Gx} {A : Nat → Prop} {μ : Mm} {a1 : Int32} {a2 : Int32} {a3 : Int32} {v : Int32} {u : Mm} (h : md_stop μ a1 a2 a3 = some (v, u)) : Cti l g A wm yX12_stop cX12_stop 4 (some .int) 1 [.ref (ad g 0), .int a1, .int a2, .int a3] μ v u := by
  refine ent (lv := [(0, .ref (ad g 0)), (1, .int a1), (2, .int a2), (3, .int a3)]) (by decide) (Nat.le_of_ble_eq_true rfl) rfl ?_
  intro p e s m args below meth c hC hr hlocks hnm hW ls hl
  replace hC : Cx g RX12 cX12_stop 4 p s m args c := hC
  obtain ⟨hx, hb, hml, hown, hts, hK, hN⟩ := id hC
  unfold md_stop at h
  refine lv_iload_n hx hb dX12_stop_0 rfl (lv_at hl 1 rfl) ?_
  refine lv_iconst (v := 0) hx hb dX12_stop_1 (by decide) ?_
  refine lv_bipush (v := 99) hx hb dX12_stop_2 (by decide) ?_
  obtain ⟨x1, hx1, h⟩ := mbv_some h
  refine kr_ci hC hW (kr_runS hC hW hl.1 (t_md_in hx1) cw_X12_199 rfl rfl (Nat.le_of_ble_eq_true rfl) dX12_stop_4 (by decide)) (fun H locs hW => ?_)
  refine lv_if_eq (tgt := 40) hx hb dX12_stop_7 (by decide) (fun hc2 => ?_) (fun hc2 => ?_)
  · replace h := if_p hc2 h
    refine lv_iconst (v := (-1)) hx hb dX12_stop_40 (by decide) ?_
    cases h
    exact kr_iret hC hr hlocks hW dX12_stop_41
  · replace h := if_n hc2 h
    refine lv_iload_n hx hb dX12_stop_10 rfl (lv_at hl 2 rfl) ?_
    refine lv_iconst (v := 0) hx hb dX12_stop_11 (by decide) ?_
    refine lv_bipush (v := 99) hx hb dX12_stop_12 (by decide) ?_
    obtain ⟨x3, hx3, h⟩ := mbv_some h
    refine kr_ci hC hW (kr_runS hC hW hl.1 (t_md_in hx3) cw_X12_199 rfl rfl (Nat.le_of_ble_eq_true rfl) dX12_stop_14 (by decide)) (fun H locs hW => ?_)
    refine lv_if_eq (tgt := 40) hx hb dX12_stop_17 (by decide) (fun hc4 => ?_) (fun hc4 => ?_)
    · replace h := if_p hc4 h
      refine lv_iconst (v := (-1)) hx hb dX12_stop_40 (by decide) ?_
      cases h
      exact kr_iret hC hr hlocks hW dX12_stop_41
    · replace h := if_n hc4 h
      refine lv_iload_n hx hb dX12_stop_20 rfl (lv_at hl 3 rfl) ?_
      refine lv_iconst (v := 1) hx hb dX12_stop_21 (by decide) ?_
      refine lv_sipush (v := 200) hx hb dX12_stop_22 (by decide) ?_
      obtain ⟨x5, hx5, h⟩ := mbv_some h
      refine kr_ci hC hW (kr_runS hC hW hl.1 (t_md_in hx5) cw_X12_199 rfl rfl (Nat.le_of_ble_eq_true rfl) dX12_stop_25 (by decide)) (fun H locs hW => ?_)
      refine lv_if_eq (tgt := 40) hx hb dX12_stop_28 (by decide) (fun hc6 => ?_) (fun hc6 => ?_)
      · replace h := if_p hc6 h
        refine lv_iconst (v := (-1)) hx hb dX12_stop_40 (by decide) ?_
        cases h
        exact kr_iret hC hr hlocks hW dX12_stop_41
      · replace h := if_n hc6 h
        refine lv_aload_n hx hb dX12_stop_31 rfl (lv_at hl 0 rfl) ?_
        refine gf_X12_190_m0 hC hW dX12_stop_32 ?_
        refine lv_bipush (v := 10) hx hb dX12_stop_35 (by decide) ?_
        refine lv_icmp_ne (tgt := 42) hx hb dX12_stop_37 (by decide) (fun hc7 => ?_) (fun hc7 => ?_)
        · replace h := if_n hc7 h
          refine lv_aload_n hx hb dX12_stop_42 rfl (lv_at hl 0 rfl) ?_
          refine gf_X12_37_m0 hC hW dX12_stop_43 ?_
          refine lv_aload_n hx hb dX12_stop_46 rfl (lv_at hl 0 rfl) ?_
          refine gf_X12_190_m0 hC hW dX12_stop_47 ?_
          refine lv_iload_n hx hb dX12_stop_50 rfl (lv_at hl 1 rfl) ?_
          obtain ⟨μ8, eμ8, hin, h⟩ := mwr_ex h
          refine kr_iast hC hW (wm_10 g μ) (wms_10 eμ8) hin dX12_stop_51 (fun H locs hW => ?_)
          refine lv_aload_n hx hb dX12_stop_52 rfl (lv_at hl 0 rfl) ?_
          refine gf_X12_40_m0 hC hW dX12_stop_53 ?_
          refine lv_aload_n hx hb dX12_stop_56 rfl (lv_at hl 0 rfl) ?_
          refine gf_X12_190_m0 hC hW dX12_stop_57 ?_
          refine lv_iload_n hx hb dX12_stop_60 rfl (lv_at hl 2 rfl) ?_
          obtain ⟨μ9, eμ9, hin, h⟩ := mwr_ex h
          refine kr_iast hC hW (wm_11 g μ8) (wms_11 eμ9) hin dX12_stop_61 (fun H locs hW => ?_)
          refine lv_aload_n hx hb dX12_stop_62 rfl (lv_at hl 0 rfl) ?_
          refine gf_X12_43_m0 hC hW dX12_stop_63 ?_
          refine lv_aload_n hx hb dX12_stop_66 rfl (lv_at hl 0 rfl) ?_
          refine gf_X12_190_m0 hC hW dX12_stop_67 ?_
          refine lv_iload_n hx hb dX12_stop_70 rfl (lv_at hl 3 rfl) ?_
          obtain ⟨μ10, eμ10, hin, h⟩ := mwr_ex h
          refine kr_iast hC hW (wm_12 g μ9) (wms_12 eμ10) hin dX12_stop_71 (fun H locs hW => ?_)
          refine lv_aload_n hx hb dX12_stop_72 rfl (lv_at hl 0 rfl) ?_
          refine gf_X12_46_m0 hC hW dX12_stop_73 ?_
          refine lv_aload_n hx hb dX12_stop_76 rfl (lv_at hl 0 rfl) ?_
          refine gf_X12_190_m0 hC hW dX12_stop_77 ?_
          refine lv_iconst (v := (-1)) hx hb dX12_stop_80 (by decide) ?_
          obtain ⟨μ11, eμ11, hin, h⟩ := mwr_ex h
          refine kr_iast hC hW (wm_13 g μ10) (wms_13 eμ11) hin dX12_stop_81 (fun H locs hW => ?_)
          refine lv_aload_n hx hb dX12_stop_82 rfl (lv_at hl 0 rfl) ?_
          refine gf_X12_80_m0 hC hW dX12_stop_83 ?_
          refine lv_aload_n hx hb dX12_stop_86 rfl (lv_at hl 0 rfl) ?_
          refine gf_X12_190_m0 hC hW dX12_stop_87 ?_
          refine lv_iconst (v := (-1)) hx hb dX12_stop_90 (by decide) ?_
          obtain ⟨μ12, eμ12, hin, h⟩ := mwr_ex h
          refine kr_iast hC hW (wm_24 g μ11) (wms_24 eμ12) hin dX12_stop_91 (fun H locs hW => ?_)
          refine lv_aload_n hx hb dX12_stop_92 rfl (lv_at hl 0 rfl) ?_
          refine lv_aload_n hx hb dX12_stop_93 rfl (lv_at hl 0 rfl) ?_
          refine gf_X12_190_m0 hC hW dX12_stop_94 ?_
          refine lv_iconst (v := 1) hx hb dX12_stop_97 (by decide) ?_
          refine lv_iadd hx hb dX12_stop_98 ?_
          obtain ⟨μ13, eμ13, h⟩ := mst_some h
          refine pf_X12_190_m0 hC hW eμ13 dX12_stop_99 (fun H locs hW => ?_)
          refine lv_aload_n hx hb dX12_stop_102 rfl (lv_at hl 0 rfl) ?_
          refine gf_X12_190_m0 hC hW dX12_stop_103 ?_
          refine lv_iconst (v := 1) hx hb dX12_stop_106 (by decide) ?_
          refine lv_isub hx hb dX12_stop_107 ?_
          cases h
          exact kr_iret hC hr hlocks hW dX12_stop_108
        · replace h := if_p hc7 h
          refine lv_iconst (v := (-1)) hx hb dX12_stop_40 (by decide) ?_
          cases h
          exact kr_iret hC hr hlocks hW dX12_stop_41
set_option maxHeartbeats 4000000 in
set_option maxRecDepth 100000 in
theorem tj_md_visit_20 {μ : Mm} (a1 : Int32) (a2 : Int32) (a3 : Int32) (hC : Cx g RX12 cX12_visit 4 p s m args c) (hr : meth.sig.returnType = some .boolean) (hlocks : meth.locks = false) {v : Bool} {u : Mm} (hl : lv_has ls 4 [(0, .ref (ad g 0)), (1, .int a1), (2, .int a2), (3, .int a3)]) (hW : wP g wm A s.heap μ H locs) (h : md_visit_j20 μ a1 a2 a3 = some (v, u)) : W p l e (rmD 1) s m args below meth c H locs 0 0 (MQ below (Qi g A wm (bI v) u) args s 0 0 A) (F0 m 20 ls []) := by
  obtain ⟨hx, hb, hml, hown, hts, hK, hN⟩ := id hC
  unfold md_visit_j20 at h
  refine lv_iload_n hx hb dX12_visit_20 rfl (lv_at hl 3 rfl) ?_
  refine lv_iconst (v := 0) hx hb dX12_visit_21 (by decide) ?_
  refine lv_bipush (v := 13) hx hb dX12_visit_22 (by decide) ?_
  obtain ⟨x4, hx4, h⟩ := mbv_some h
  refine kr_ci hC hW (kr_runS hC hW hl.1 (t_md_in hx4) cw_X12_199 rfl rfl (Nat.le_of_ble_eq_true rfl) dX12_visit_24 (by decide)) (fun H locs hW => ?_)
  refine lv_if_ne (tgt := 32) hx hb dX12_visit_27 (by decide) (fun hc5 => ?_) (fun hc5 => ?_)
  · replace h := if_n hc5 h
    refine lv_aload_n hx hb dX12_visit_32 rfl (lv_at hl 0 rfl) ?_
    refine gf_X12_46_m0 hC hW dX12_visit_33 ?_
    refine lv_iload_n hx hb dX12_visit_36 rfl (lv_at hl 1 rfl) ?_
    refine lv_iload_n hx hb dX12_visit_37 rfl (lv_at hl 2 rfl) ?_
    obtain ⟨μ6, eμ6, hin, h⟩ := mwr_ex h
    refine kr_iast hC hW (wm_13 g μ) (wms_13 eμ6) hin dX12_visit_38 (fun H locs hW => ?_)
    refine lv_aload_n hx hb dX12_visit_39 rfl (lv_at hl 0 rfl) ?_
    refine gf_X12_49_m0 hC hW dX12_visit_40 ?_
    refine lv_iload_n hx hb dX12_visit_43 rfl (lv_at hl 1 rfl) ?_
    refine lv_iload_n hx hb dX12_visit_44 rfl (lv_at hl 3 rfl) ?_
    obtain ⟨μ7, eμ7, hin, h⟩ := mwr_ex h
    refine kr_iast hC hW (wm_14 g μ6) (wms_14 eμ7) hin dX12_visit_45 (fun H locs hW => ?_)
    refine lv_iconst (v := 1) hx hb dX12_visit_46 (by decide) ?_
    cases h
    exact kr_zret hC hr hlocks _ rfl hW dX12_visit_47
  · replace h := if_p hc5 h
    refine lv_iconst (v := 0) hx hb dX12_visit_30 (by decide) ?_
    cases h
    exact kr_zret hC hr hlocks _ rfl hW dX12_visit_31
set_option maxHeartbeats 4000000 in
set_option maxRecDepth 100000 in
theorem t_md_visit {l : Launch} {g : Gx} {A : Nat → Prop} {μ : Mm} {a1 : Int32} {a2 : Int32} {a3 : Int32} {v : Bool} {u : Mm} (h : md_visit μ a1 a2 a3 = some (v, u)) : Cti l g A wm yX12_visit cX12_visit 4 (some .boolean) 1 [.ref (ad g 0), .int a1, .int a2, .int a3] μ (bI v) u := by
  refine ent (lv := [(0, .ref (ad g 0)), (1, .int a1), (2, .int a2), (3, .int a3)]) (by decide) (Nat.le_of_ble_eq_true rfl) rfl ?_
  intro p e s m args below meth c hC hr hlocks hnm hW ls hl
  replace hC : Cx g RX12 cX12_visit 4 p s m args c := hC
  obtain ⟨hx, hb, hml, hown, hts, hK, hN⟩ := id hC
  unfold md_visit at h
  refine lv_aload_n hx hb dX12_visit_0 rfl (lv_at hl 0 rfl) ?_
  refine lv_iload_n hx hb dX12_visit_1 rfl (lv_at hl 1 rfl) ?_
  obtain ⟨x1, hx1, h⟩ := mbv_some h
  refine kr_ci hC hW (kr_runV hC hW hl.1 (t_md_isStop hx1) cw_X12_211 (wm_0 g μ) rfl rfl rfl (Nat.le_of_ble_eq_true rfl) dX12_visit_2 (by decide)) (fun H locs hW => ?_)
  refine lv_if_eq (tgt := 30) hx hb dX12_visit_5 (by decide) (fun hc2 => ?_) (fun hc2 => ?_)
  · replace h := if_p hc2 h
    refine lv_iconst (v := 0) hx hb dX12_visit_30 (by decide) ?_
    cases h
    exact kr_zret hC hr hlocks _ rfl hW dX12_visit_31
  · replace h := if_n hc2 h
    refine lv_iload_n hx hb dX12_visit_8 rfl (lv_at hl 2 rfl) ?_
    refine lv_iconst (v := (-1)) hx hb dX12_visit_9 (by decide) ?_
    refine lv_icmp_eq (tgt := 20) hx hb dX12_visit_10 (by decide) (fun hc3 => ?_) (fun hc3 => ?_)
    · replace h := if_p hc3 h
      exact tj_md_visit_20 a1 a2 a3 hC hr hlocks (lv_sub hl [0, 1, 2, 3] rfl) hW h
    · replace h := if_n hc3 h
      refine lv_iload_n hx hb dX12_visit_13 rfl (lv_at hl 2 rfl) ?_
      obtain ⟨x8, hx8, h⟩ := mbv_some h
      refine kr_ci hC hW (kr_runS hC hW hl.1 (t_md_isVan hx8) cw_X12_203 rfl rfl (Nat.le_of_ble_eq_true rfl) dX12_visit_14 (by decide)) (fun H locs hW => ?_)
      refine lv_if_eq (tgt := 30) hx hb dX12_visit_17 (by decide) (fun hc9 => ?_) (fun hc9 => ?_)
      · replace h := if_p hc9 h
        refine lv_iconst (v := 0) hx hb dX12_visit_30 (by decide) ?_
        cases h
        exact kr_zret hC hr hlocks _ rfl hW dX12_visit_31
      · replace h := if_n hc9 h
        exact tj_md_visit_20 a1 a2 a3 hC hr hlocks (lv_sub hl [0, 1, 2, 3] rfl) hW h
set_option maxHeartbeats 4000000 in
set_option maxRecDepth 100000 in
theorem tl_md_reader_50 (hC : Cx g RX12 cX12_reader 4 p s m args c) {e0 : (Mm)} (kx0 : ∀ (ls : Array Slot) (H : Heap) (locs : List Loc), lv_has ls 4 [(0, .ref (ad g 0))] → wP g wm A s.heap e0 H locs → W p l e (rmD 1) s m args below meth c H locs 0 0 Q (F0 m 77 ls [])) : ∀ (n : Nat) (q : Int32 × Mm), miter (fun q => md_reader_b50 q.2 q.1) n q = some e0 → ∀ (ls : Array Slot) (H : Heap) (locs : List Loc), lv_has ls 4 [(0, .ref (ad g 0)), (3, .int q.1)] → wP g wm A s.heap q.2 H locs → W p l e (rmD 1) s m args below meth c H locs 0 0 Q (F0 m 50 ls []) := by
  obtain ⟨hx, hb, hml, hown, hts, hK, hN⟩ := id hC
  refine miter_ind (fun q r hf k1 k2 => ?_)
  obtain ⟨xs3, μ⟩ := q
  intro ls H locs hl hW
  have h : md_reader_b50 μ xs3 = some r := hf
  unfold md_reader_b50 at h
  refine lv_iload_n hx hb dX12_reader_50 rfl (lv_at hl 1 rfl) ?_
  refine lv_bipush (v := 32) hx hb dX12_reader_51 (by decide) ?_
  refine lv_icmp_ge (tgt := 77) hx hb dX12_reader_53 (by decide) (fun hc8 => ?_) (fun hc8 => ?_)
  · replace h := if_p hc8 h
    obtain rfl := k2 _ (Option.some.inj h).symm
    exact kx0 _ _ _ (lv_sub hl [0] rfl) hW
  · replace h := if_n hc8 h
    refine lv_aload_n hx hb dX12_reader_56 rfl (lv_at hl 0 rfl) ?_
    refine gf_X12_67_m0 hC hW dX12_reader_57 ?_
    refine lv_bipush (v := 32) hx hb dX12_reader_60 (by decide) ?_
    refine lv_aload_n hx hb dX12_reader_62 rfl (lv_at hl 0 rfl) ?_
    refine gf_X12_193_m0 hC hW dX12_reader_63 ?_
    refine lv_imul hx hb dX12_reader_66 ?_
    refine lv_iload_n hx hb dX12_reader_67 rfl (lv_at hl 1 rfl) ?_
    refine lv_iadd hx hb dX12_reader_68 ?_
    refine lv_iconst (v := (-1)) hx hb dX12_reader_69 (by decide) ?_
    obtain ⟨μ9, eμ9, hin, h⟩ := mwr_ex h
    refine kr_iast hC hW (wm_20 g μ) (wms_20 eμ9) hin dX12_reader_70 (fun H locs hW => ?_)
    refine lv_iinc (v := (xs3 + 1)) (lv' := [(3, .int (xs3 + 1)), (0, .ref (ad g 0))]) hx hb dX12_reader_71 hl (k := 1) rfl (by rw [oi_1]) (by decide) rfl (fun ls hl => ?_)
    refine lv_goto (tgt := 50) hx hb dX12_reader_74 (by decide) ?_
    exact k1 ((xs3 + 1), μ9) (Option.some.inj h).symm _ _ _ (lv_sub hl [1, 0] rfl) hW
set_option maxHeartbeats 4000000 in
set_option maxRecDepth 100000 in
theorem t_md_reader {l : Launch} {g : Gx} {A : Nat → Prop} {μ : Mm} {a1 : Int32} {a2 : Int32} {v : Int32} {u : Mm} (h : md_reader μ a1 a2 = some (v, u)) : Cti l g A wm yX12_reader cX12_reader 4 (some .int) 1 [.ref (ad g 0), .int a1, .int a2] μ v u := by
  refine ent (lv := [(0, .ref (ad g 0)), (1, .int a1), (2, .int a2)]) (by decide) (Nat.le_of_ble_eq_true rfl) rfl ?_
  intro p e s m args below meth c hC hr hlocks hnm hW ls hl
  replace hC : Cx g RX12 cX12_reader 4 p s m args c := hC
  obtain ⟨hx, hb, hml, hown, hts, hK, hN⟩ := id hC
  unfold md_reader at h
  refine lv_aload_n hx hb dX12_reader_0 rfl (lv_at hl 0 rfl) ?_
  refine lv_iload_n hx hb dX12_reader_1 rfl (lv_at hl 1 rfl) ?_
  obtain ⟨x1, hx1, h⟩ := mbv_some h
  refine kr_ci hC hW (kr_runV hC hW hl.1 (t_md_isStop hx1) cw_X12_211 (wm_0 g μ) rfl rfl rfl (Nat.le_of_ble_eq_true rfl) dX12_reader_2 (by decide)) (fun H locs hW => ?_)
  refine lv_if_eq (tgt := 26) hx hb dX12_reader_5 (by decide) (fun hc2 => ?_) (fun hc2 => ?_)
  · replace h := if_p hc2 h
    refine lv_iconst (v := (-1)) hx hb dX12_reader_26 (by decide) ?_
    cases h
    exact kr_iret hC hr hlocks hW dX12_reader_27
  · replace h := if_n hc2 h
    refine lv_iload_n hx hb dX12_reader_8 rfl (lv_at hl 2 rfl) ?_
    refine lv_iconst (v := 0) hx hb dX12_reader_9 (by decide) ?_
    refine lv_iconst (v := 2) hx hb dX12_reader_10 (by decide) ?_
    obtain ⟨x3, hx3, h⟩ := mbv_some h
    refine kr_ci hC hW (kr_runS hC hW hl.1 (t_md_in hx3) cw_X12_199 rfl rfl (Nat.le_of_ble_eq_true rfl) dX12_reader_11 (by decide)) (fun H locs hW => ?_)
    refine lv_if_eq (tgt := 26) hx hb dX12_reader_14 (by decide) (fun hc4 => ?_) (fun hc4 => ?_)
    · replace h := if_p hc4 h
      refine lv_iconst (v := (-1)) hx hb dX12_reader_26 (by decide) ?_
      cases h
      exact kr_iret hC hr hlocks hW dX12_reader_27
    · replace h := if_n hc4 h
      refine lv_aload_n hx hb dX12_reader_17 rfl (lv_at hl 0 rfl) ?_
      refine gf_X12_193_m0 hC hW dX12_reader_18 ?_
      refine lv_bipush (v := 16) hx hb dX12_reader_21 (by decide) ?_
      refine lv_icmp_ne (tgt := 28) hx hb dX12_reader_23 (by decide) (fun hc5 => ?_) (fun hc5 => ?_)
      · replace h := if_n hc5 h
        refine lv_aload_n hx hb dX12_reader_28 rfl (lv_at hl 0 rfl) ?_
        refine gf_X12_52_m0 hC hW dX12_reader_29 ?_
        refine lv_aload_n hx hb dX12_reader_32 rfl (lv_at hl 0 rfl) ?_
        refine gf_X12_193_m0 hC hW dX12_reader_33 ?_
        refine lv_iload_n hx hb dX12_reader_36 rfl (lv_at hl 1 rfl) ?_
        obtain ⟨μ6, eμ6, hin, h⟩ := mwr_ex h
        refine kr_iast hC hW (wm_15 g μ) (wms_15 eμ6) hin dX12_reader_37 (fun H locs hW => ?_)
        refine lv_aload_n hx hb dX12_reader_38 rfl (lv_at hl 0 rfl) ?_
        refine gf_X12_55_m0 hC hW dX12_reader_39 ?_
        refine lv_aload_n hx hb dX12_reader_42 rfl (lv_at hl 0 rfl) ?_
        refine gf_X12_193_m0 hC hW dX12_reader_43 ?_
        refine lv_iload_n hx hb dX12_reader_46 rfl (lv_at hl 2 rfl) ?_
        obtain ⟨μ7, eμ7, hin, h⟩ := mwr_ex h
        refine kr_iast hC hW (wm_16 g μ6) (wms_16 eμ7) hin dX12_reader_47 (fun H locs hW => ?_)
        refine lv_iconst (v := 0) hx hb dX12_reader_48 (by decide) ?_
        refine lv_istore_n (lv' := [(3, .int 0), (0, .ref (ad g 0)), (1, .int a1), (2, .int a2)]) hx hb dX12_reader_49 rfl hl (by decide) rfl (fun ls hl => ?_)
        obtain ⟨μ10, he12, h⟩ := mbv_some h
        refine tl_md_reader_50 hC (fun ls H locs hl hW => ?_) FU (0, μ7) he12 _ _ _ (lv_sub hl [1, 0] rfl) hW
        refine lv_aload_n hx hb dX12_reader_77 rfl (lv_at hl 0 rfl) ?_
        refine lv_aload_n hx hb dX12_reader_78 rfl (lv_at hl 0 rfl) ?_
        refine gf_X12_193_m0 hC hW dX12_reader_79 ?_
        refine lv_iconst (v := 1) hx hb dX12_reader_82 (by decide) ?_
        refine lv_iadd hx hb dX12_reader_83 ?_
        obtain ⟨μ11, eμ11, h⟩ := mst_some h
        refine pf_X12_193_m0 hC hW eμ11 dX12_reader_84 (fun H locs hW => ?_)
        refine lv_aload_n hx hb dX12_reader_87 rfl (lv_at hl 0 rfl) ?_
        refine gf_X12_193_m0 hC hW dX12_reader_88 ?_
        refine lv_iconst (v := 1) hx hb dX12_reader_91 (by decide) ?_
        refine lv_isub hx hb dX12_reader_92 ?_
        cases h
        exact kr_iret hC hr hlocks hW dX12_reader_93
      · replace h := if_p hc5 h
        refine lv_iconst (v := (-1)) hx hb dX12_reader_26 (by decide) ?_
        cases h
        exact kr_iret hC hr hlocks hW dX12_reader_27
set_option maxHeartbeats 4000000 in
set_option maxRecDepth 100000 in
theorem t_md_taste {l : Launch} {g : Gx} {A : Nat → Prop} {μ : Mm} {a1 : Int32} {a2 : Int32} {a3 : Int32} {v : Bool} {u : Mm} (h : md_taste μ a1 a2 a3 = some (v, u)) : Cti l g A wm yX12_taste cX12_taste 4 (some .boolean) 1 [.ref (ad g 0), .int a1, .int a2, .int a3] μ (bI v) u := by
  refine ent (lv := [(0, .ref (ad g 0)), (1, .int a1), (2, .int a2), (3, .int a3)]) (by decide) (Nat.le_of_ble_eq_true rfl) rfl ?_
  intro p e s m args below meth c hC hr hlocks hnm hW ls hl
  replace hC : Cx g RX12 cX12_taste 4 p s m args c := hC
  obtain ⟨hx, hb, hml, hown, hts, hK, hN⟩ := id hC
  unfold md_taste at h
  refine lv_aload_n hx hb dX12_taste_0 rfl (lv_at hl 0 rfl) ?_
  refine lv_iload_n hx hb dX12_taste_1 rfl (lv_at hl 1 rfl) ?_
  obtain ⟨x1, hx1, h⟩ := mbv_some h
  refine kr_ci hC hW (kr_runV hC hW hl.1 (t_md_isReader hx1) cw_X12_214 (wm_0 g μ) rfl rfl rfl (Nat.le_of_ble_eq_true rfl) dX12_taste_2 (by decide)) (fun H locs hW => ?_)
  refine lv_if_eq (tgt := 28) hx hb dX12_taste_5 (by decide) (fun hc2 => ?_) (fun hc2 => ?_)
  · replace h := if_p hc2 h
    refine lv_iconst (v := 0) hx hb dX12_taste_28 (by decide) ?_
    cases h
    exact kr_zret hC hr hlocks _ rfl hW dX12_taste_29
  · replace h := if_n hc2 h
    refine lv_iload_n hx hb dX12_taste_8 rfl (lv_at hl 2 rfl) ?_
    refine lv_iconst (v := 0) hx hb dX12_taste_9 (by decide) ?_
    refine lv_bipush (v := 7) hx hb dX12_taste_10 (by decide) ?_
    obtain ⟨x3, hx3, h⟩ := mbv_some h
    refine kr_ci hC hW (kr_runS hC hW hl.1 (t_md_in hx3) cw_X12_199 rfl rfl (Nat.le_of_ble_eq_true rfl) dX12_taste_12 (by decide)) (fun H locs hW => ?_)
    refine lv_if_eq (tgt := 28) hx hb dX12_taste_15 (by decide) (fun hc4 => ?_) (fun hc4 => ?_)
    · replace h := if_p hc4 h
      refine lv_iconst (v := 0) hx hb dX12_taste_28 (by decide) ?_
      cases h
      exact kr_zret hC hr hlocks _ rfl hW dX12_taste_29
    · replace h := if_n hc4 h
      refine lv_iload_n hx hb dX12_taste_18 rfl (lv_at hl 3 rfl) ?_
      refine lv_iconst (v := 0) hx hb dX12_taste_19 (by decide) ?_
      refine lv_bipush (v := 9) hx hb dX12_taste_20 (by decide) ?_
      obtain ⟨x5, hx5, h⟩ := mbv_some h
      refine kr_ci hC hW (kr_runS hC hW hl.1 (t_md_in hx5) cw_X12_199 rfl rfl (Nat.le_of_ble_eq_true rfl) dX12_taste_22 (by decide)) (fun H locs hW => ?_)
      refine lv_if_ne (tgt := 30) hx hb dX12_taste_25 (by decide) (fun hc6 => ?_) (fun hc6 => ?_)
      · replace h := if_n hc6 h
        refine lv_aload_n hx hb dX12_taste_30 rfl (lv_at hl 0 rfl) ?_
        refine gf_X12_58_m0 hC hW dX12_taste_31 ?_
        refine lv_bipush (v := 8) hx hb dX12_taste_34 (by decide) ?_
        refine lv_iload_n hx hb dX12_taste_36 rfl (lv_at hl 1 rfl) ?_
        refine lv_imul hx hb dX12_taste_37 ?_
        refine lv_iload_n hx hb dX12_taste_38 rfl (lv_at hl 2 rfl) ?_
        refine lv_iadd hx hb dX12_taste_39 ?_
        refine lv_iload_n hx hb dX12_taste_40 rfl (lv_at hl 3 rfl) ?_
        obtain ⟨μ7, eμ7, hin, h⟩ := mwr_ex h
        refine kr_iast hC hW (wm_17 g μ) (wms_17 eμ7) hin dX12_taste_41 (fun H locs hW => ?_)
        refine lv_iconst (v := 1) hx hb dX12_taste_42 (by decide) ?_
        cases h
        exact kr_zret hC hr hlocks _ rfl hW dX12_taste_43
      · replace h := if_p hc6 h
        refine lv_iconst (v := 0) hx hb dX12_taste_28 (by decide) ?_
        cases h
        exact kr_zret hC hr hlocks _ rfl hW dX12_taste_29
set_option maxHeartbeats 4000000 in
set_option maxRecDepth 100000 in
theorem t_md_had {l : Launch} {g : Gx} {A : Nat → Prop} {μ : Mm} {a1 : Int32} {a2 : Int32} {v : Bool} {u : Mm} (h : md_had μ a1 a2 = some (v, u)) : Cti l g A wm yX12_had cX12_had 3 (some .boolean) 1 [.ref (ad g 0), .int a1, .int a2] μ (bI v) u := by
  refine ent (lv := [(0, .ref (ad g 0)), (1, .int a1), (2, .int a2)]) (by decide) (Nat.le_of_ble_eq_true rfl) rfl ?_
  intro p e s m args below meth c hC hr hlocks hnm hW ls hl
  replace hC : Cx g RX12 cX12_had 3 p s m args c := hC
  obtain ⟨hx, hb, hml, hown, hts, hK, hN⟩ := id hC
  unfold md_had at h
  refine lv_aload_n hx hb dX12_had_0 rfl (lv_at hl 0 rfl) ?_
  refine lv_iload_n hx hb dX12_had_1 rfl (lv_at hl 1 rfl) ?_
  obtain ⟨x1, hx1, h⟩ := mbv_some h
  refine kr_ci hC hW (kr_runV hC hW hl.1 (t_md_isReader hx1) cw_X12_214 (wm_0 g μ) rfl rfl rfl (Nat.le_of_ble_eq_true rfl) dX12_had_2 (by decide)) (fun H locs hW => ?_)
  refine lv_if_eq (tgt := 30) hx hb dX12_had_5 (by decide) (fun hc2 => ?_) (fun hc2 => ?_)
  · replace h := if_p hc2 h
    refine lv_iconst (v := 0) hx hb dX12_had_30 (by decide) ?_
    cases h
    exact kr_zret hC hr hlocks _ rfl hW dX12_had_31
  · replace h := if_n hc2 h
    refine lv_aload_n hx hb dX12_had_8 rfl (lv_at hl 0 rfl) ?_
    refine lv_iload_n hx hb dX12_had_9 rfl (lv_at hl 2 rfl) ?_
    obtain ⟨x3, hx3, h⟩ := mbv_some h
    refine kr_ci hC hW (kr_runV hC hW hl.1 (t_md_isBook hx3) cw_X12_217 (wm_0 g μ) rfl rfl rfl (Nat.le_of_ble_eq_true rfl) dX12_had_10 (by decide)) (fun H locs hW => ?_)
    refine lv_if_eq (tgt := 30) hx hb dX12_had_13 (by decide) (fun hc4 => ?_) (fun hc4 => ?_)
    · replace h := if_p hc4 h
      refine lv_iconst (v := 0) hx hb dX12_had_30 (by decide) ?_
      cases h
      exact kr_zret hC hr hlocks _ rfl hW dX12_had_31
    · replace h := if_n hc4 h
      refine lv_aload_n hx hb dX12_had_16 rfl (lv_at hl 0 rfl) ?_
      refine gf_X12_70_m0 hC hW dX12_had_17 ?_
      refine lv_bipush (v := 32) hx hb dX12_had_20 (by decide) ?_
      refine lv_iload_n hx hb dX12_had_22 rfl (lv_at hl 1 rfl) ?_
      refine lv_imul hx hb dX12_had_23 ?_
      refine lv_iload_n hx hb dX12_had_24 rfl (lv_at hl 2 rfl) ?_
      refine lv_iadd hx hb dX12_had_25 ?_
      obtain ⟨x5, ex5, hin, h⟩ := mrd_ex h
      refine kr_zald hC hW (wm_21 g μ) hin ex5 dX12_had_26 ?_
      refine lv_if_eq (tgt := 32) hx hb dX12_had_27 (by decide) (fun hc6 => ?_) (fun hc6 => ?_)
      · replace h := if_p hc6 h
        refine lv_aload_n hx hb dX12_had_32 rfl (lv_at hl 0 rfl) ?_
        refine gf_X12_70_m0 hC hW dX12_had_33 ?_
        refine lv_bipush (v := 32) hx hb dX12_had_36 (by decide) ?_
        refine lv_iload_n hx hb dX12_had_38 rfl (lv_at hl 1 rfl) ?_
        refine lv_imul hx hb dX12_had_39 ?_
        refine lv_iload_n hx hb dX12_had_40 rfl (lv_at hl 2 rfl) ?_
        refine lv_iadd hx hb dX12_had_41 ?_
        refine lv_iconst (v := 1) hx hb dX12_had_42 (by decide) ?_
        obtain ⟨μ7, eμ7, hin, h⟩ := mwr_ex h
        refine kr_zast hC hW (wm_21 g μ) (wms_21 eμ7) hin dX12_had_43 (fun H locs hW => ?_)
        refine lv_iconst (v := 1) hx hb dX12_had_44 (by decide) ?_
        cases h
        exact kr_zret hC hr hlocks _ rfl hW dX12_had_45
      · replace h := if_n hc6 h
        refine lv_iconst (v := 0) hx hb dX12_had_30 (by decide) ?_
        cases h
        exact kr_zret hC hr hlocks _ rfl hW dX12_had_31
set_option maxHeartbeats 4000000 in
set_option maxRecDepth 100000 in
theorem tl_md_types_2 (a1 : Int32) (hC : Cx g RX12 cX12_types 3 p s m args c) {e0 : (Mm)} (kx0 : ∀ (ls : Array Slot) (H : Heap) (locs : List Loc), lv_has ls 3 [] → wP g wm A s.heap e0 H locs → W p l e (rmD 0) s m args below meth c H locs 0 0 Q (F0 m 38 ls [])) : ∀ (n : Nat) (q : Int32 × Mm), miter (fun q => md_types_b2 q.2 a1 q.1) n q = some e0 → ∀ (ls : Array Slot) (H : Heap) (locs : List Loc), lv_has ls 3 [(0, .ref (ad g 0)), (1, .int a1), (2, .int q.1)] → wP g wm A s.heap q.2 H locs → W p l e (rmD 0) s m args below meth c H locs 0 0 Q (F0 m 2 ls []) := by
  obtain ⟨hx, hb, hml, hown, hts, hK, hN⟩ := id hC
  refine miter_ind (fun q r hf k1 k2 => ?_)
  obtain ⟨xs2, μ⟩ := q
  intro ls H locs hl hW
  have h : md_types_b2 μ a1 xs2 = some r := hf
  unfold md_types_b2 at h
  refine lv_iload_n hx hb dX12_types_2 rfl (lv_at hl 2 rfl) ?_
  refine lv_if_lt (tgt := 38) hx hb dX12_types_3 (by decide) (fun hc1 => ?_) (fun hc1 => ?_)
  · replace h := if_p hc1 h
    obtain rfl := k2 _ (Option.some.inj h).symm
    exact kx0 _ _ _ (lv_sub hl [] rfl) hW
  · replace h := if_n hc1 h
    refine lv_aload_n hx hb dX12_types_6 rfl (lv_at hl 0 rfl) ?_
    refine gf_X12_98_m0 hC hW dX12_types_7 ?_
    refine lv_aload_n hx hb dX12_types_10 rfl (lv_at hl 0 rfl) ?_
    refine gf_X12_220_m0 hC hW dX12_types_11 ?_
    refine lv_iload_n hx hb dX12_types_14 rfl (lv_at hl 1 rfl) ?_
    refine lv_bipush (v := 8) hx hb dX12_types_15 (by decide) ?_
    refine lv_iload_n hx hb dX12_types_17 rfl (lv_at hl 2 rfl) ?_
    refine lv_imul hx hb dX12_types_18 ?_
    refine lv_ishr hx hb dX12_types_19 ?_
    refine lv_i2b (v := ((a1 >>> ((8 * xs2) &&& 31))).toInt8.toInt32) hx hb dX12_types_20 rfl ?_
    obtain ⟨μ2, eμ2, hin, h⟩ := mwr_ex h
    refine kr_bast hC hW (wm_30 g μ) (wms_30 eμ2) hin dX12_types_21 (fun H locs hW => ?_)
    refine lv_aload_n hx hb dX12_types_22 rfl (lv_at hl 0 rfl) ?_
    refine lv_aload_n hx hb dX12_types_23 rfl (lv_at hl 0 rfl) ?_
    refine gf_X12_220_m0 hC hW dX12_types_24 ?_
    refine lv_iconst (v := 1) hx hb dX12_types_27 (by decide) ?_
    refine lv_iadd hx hb dX12_types_28 ?_
    obtain ⟨μ3, eμ3, h⟩ := mst_some h
    refine pf_X12_220_m0 hC hW eμ3 dX12_types_29 (fun H locs hW => ?_)
    refine lv_iinc (v := (xs2 + (-1))) (lv' := [(2, .int (xs2 + (-1))), (0, .ref (ad g 0)), (1, .int a1)]) hx hb dX12_types_32 hl (k := 2) rfl (by rw [oi_m1]) (by decide) rfl (fun ls hl => ?_)
    refine lv_goto (tgt := 2) hx hb dX12_types_35 (by decide) ?_
    exact k1 ((xs2 + (-1)), μ3) (Option.some.inj h).symm _ _ _ (lv_sub hl [1, 2, 0] rfl) hW
set_option maxHeartbeats 4000000 in
set_option maxRecDepth 100000 in
theorem t_md_types {l : Launch} {g : Gx} {A : Nat → Prop} {μ : Mm} {a1 : Int32} {u : Mm} (h : md_types μ a1 = some u) : Ctv l g A wm yX12_types cX12_types 3 none 0 [.ref (ad g 0), .int a1] μ u := by
  refine ent (lv := [(0, .ref (ad g 0)), (1, .int a1)]) (by decide) (Nat.le_of_ble_eq_true rfl) rfl ?_
  intro p e s m args below meth c hC hr hlocks hnm hW ls hl
  replace hC : Cx g RX12 cX12_types 3 p s m args c := hC
  obtain ⟨hx, hb, hml, hown, hts, hK, hN⟩ := id hC
  unfold md_types at h
  refine lv_iconst (v := 3) hx hb dX12_types_0 (by decide) ?_
  refine lv_istore_n (lv' := [(2, .int 3), (0, .ref (ad g 0)), (1, .int a1)]) hx hb dX12_types_1 rfl hl (by decide) rfl (fun ls hl => ?_)
  obtain ⟨μ4, he5, h⟩ := mbv_some h
  refine tl_md_types_2 a1 hC (fun ls H locs hl hW => ?_) FU (3, μ) he5 _ _ _ (lv_sub hl [1, 2, 0] rfl) hW
  cases h
  exact kr_vret hC hr hlocks hW dX12_types_38
set_option maxHeartbeats 4000000 in
set_option maxRecDepth 100000 in
theorem t_md_feed {l : Launch} {g : Gx} {A : Nat → Prop} {μ : Mm} {a1 : Int32} {a2 : Int32} {a3 : Int32} {a4 : Int32} {a5 : Int32} {v : Int32} {u : Mm} (h : md_feed μ a1 a2 a3 a4 a5 = some (v, u)) : Cti l g A wm yX12_feed cX12_feed 6 (some .int) 1 [.ref (ad g 0), .int a1, .int a2, .int a3, .int a4, .int a5] μ v u := by
  refine ent (lv := [(0, .ref (ad g 0)), (1, .int a1), (2, .int a2), (3, .int a3), (4, .int a4), (5, .int a5)]) (by decide) (Nat.le_of_ble_eq_true rfl) rfl ?_
  intro p e s m args below meth c hC hr hlocks hnm hW ls hl
  replace hC : Cx g RX12 cX12_feed 6 p s m args c := hC
  obtain ⟨hx, hb, hml, hown, hts, hK, hN⟩ := id hC
  unfold md_feed at h
  refine lv_aload_n hx hb dX12_feed_0 rfl (lv_at hl 0 rfl) ?_
  refine gf_X12_220_m0 hC hW dX12_feed_1 ?_
  refine lv_bipush (v := 20) hx hb dX12_feed_4 (by decide) ?_
  refine lv_iadd hx hb dX12_feed_6 ?_
  refine lv_sipush (v := 400) hx hb dX12_feed_7 (by decide) ?_
  refine lv_icmp_le (tgt := 15) hx hb dX12_feed_10 (by decide) (fun hc1 => ?_) (fun hc1 => ?_)
  · replace h := if_p hc1 h
    refine lv_aload_n hx hb dX12_feed_15 rfl (lv_at hl 0 rfl) ?_
    refine lv_iload_n hx hb dX12_feed_16 rfl (lv_at hl 1 rfl) ?_
    obtain ⟨μ3, hxμ3, h⟩ := mbv_some h
    refine kr_cv hC hW (kr_runV hC hW hl.1 (t_md_types hxμ3) cw_X12_223 (wm_0 g μ) rfl rfl rfl (Nat.le_of_ble_eq_true rfl) dX12_feed_17 (by decide)) (fun H locs hW => ?_)
    refine lv_aload_n hx hb dX12_feed_20 rfl (lv_at hl 0 rfl) ?_
    refine lv_iload_n hx hb dX12_feed_21 rfl (lv_at hl 2 rfl) ?_
    obtain ⟨μ5, hxμ5, h⟩ := mbv_some h
    refine kr_cv hC hW (kr_runV hC hW hl.1 (t_md_types hxμ5) cw_X12_223 (wm_0 g μ3) rfl rfl rfl (Nat.le_of_ble_eq_true rfl) dX12_feed_22 (by decide)) (fun H locs hW => ?_)
    refine lv_aload_n hx hb dX12_feed_25 rfl (lv_at hl 0 rfl) ?_
    refine lv_iload_n hx hb dX12_feed_26 rfl (lv_at hl 3 rfl) ?_
    obtain ⟨μ7, hxμ7, h⟩ := mbv_some h
    refine kr_cv hC hW (kr_runV hC hW hl.1 (t_md_types hxμ7) cw_X12_223 (wm_0 g μ5) rfl rfl rfl (Nat.le_of_ble_eq_true rfl) dX12_feed_27 (by decide)) (fun H locs hW => ?_)
    refine lv_aload_n hx hb dX12_feed_30 rfl (lv_at hl 0 rfl) ?_
    refine lv_iload hx hb dX12_feed_31 (lv_at hl 4 rfl) ?_
    obtain ⟨μ9, hxμ9, h⟩ := mbv_some h
    refine kr_cv hC hW (kr_runV hC hW hl.1 (t_md_types hxμ9) cw_X12_223 (wm_0 g μ7) rfl rfl rfl (Nat.le_of_ble_eq_true rfl) dX12_feed_33 (by decide)) (fun H locs hW => ?_)
    refine lv_aload_n hx hb dX12_feed_36 rfl (lv_at hl 0 rfl) ?_
    refine lv_iload hx hb dX12_feed_37 (lv_at hl 5 rfl) ?_
    obtain ⟨μ11, hxμ11, h⟩ := mbv_some h
    refine kr_cv hC hW (kr_runV hC hW hl.1 (t_md_types hxμ11) cw_X12_223 (wm_0 g μ9) rfl rfl rfl (Nat.le_of_ble_eq_true rfl) dX12_feed_39 (by decide)) (fun H locs hW => ?_)
    refine lv_aload_n hx hb dX12_feed_42 rfl (lv_at hl 0 rfl) ?_
    refine gf_X12_220_m0 hC hW dX12_feed_43 ?_
    cases h
    exact kr_iret hC hr hlocks hW dX12_feed_46
  · replace h := if_n hc1 h
    refine lv_iconst (v := (-1)) hx hb dX12_feed_13 (by decide) ?_
    cases h
    exact kr_iret hC hr hlocks hW dX12_feed_14
set_option maxHeartbeats 4000000 in
set_option maxRecDepth 100000 in
theorem t_md_here {l : Launch} {g : Gx} {A : Nat → Prop} {μ : Mm} {v : Int32} (h : md_here μ = some v) : Cti l g A wm yX12_here cX12_here 1 (some .int) 0 [.ref (ad g 0)] μ v μ := by
  refine ent (lv := [(0, .ref (ad g 0))]) (by decide) (Nat.le_of_ble_eq_true rfl) rfl ?_
  intro p e s m args below meth c hC hr hlocks hnm hW ls hl
  replace hC : Cx g RX12 cX12_here 1 p s m args c := hC
  obtain ⟨hx, hb, hml, hown, hts, hK, hN⟩ := id hC
  unfold md_here at h
  refine lv_aload_n hx hb dX12_here_0 rfl (lv_at hl 0 rfl) ?_
  refine gf_X12_227_m0 hC hW dX12_here_1 ?_
  refine lv_aload_n hx hb dX12_here_4 rfl (lv_at hl 0 rfl) ?_
  refine gf_X12_230_m0 hC hW dX12_here_5 ?_
  refine lv_icmp_ge (tgt := 27) hx hb dX12_here_8 (by decide) (fun hc1 => ?_) (fun hc1 => ?_)
  · replace h := if_p hc1 h
    refine lv_iconst (v := (-1)) hx hb dX12_here_27 (by decide) ?_
    cases h
    exact kr_iret hC hr hlocks hW dX12_here_28
  · replace h := if_n hc1 h
    refine lv_aload_n hx hb dX12_here_11 rfl (lv_at hl 0 rfl) ?_
    refine gf_X12_98_m0 hC hW dX12_here_12 ?_
    refine lv_aload_n hx hb dX12_here_15 rfl (lv_at hl 0 rfl) ?_
    refine gf_X12_227_m0 hC hW dX12_here_16 ?_
    obtain ⟨x2, ex2, hin, h⟩ := mrd_ex h
    refine kr_bald hC hW (wm_30 g μ) hin ex2 dX12_here_19 ?_
    refine lv_sipush (v := 255) hx hb dX12_here_20 (by decide) ?_
    refine lv_iand hx hb dX12_here_23 ?_
    refine lv_goto (tgt := 28) hx hb dX12_here_24 (by decide) ?_
    cases h
    exact kr_iret hC hr hlocks hW dX12_here_28
set_option maxHeartbeats 4000000 in
set_option maxRecDepth 100000 in
theorem t_md_isDigit {l : Launch} {g : Gx} {A : Nat → Prop} {μ : Mm} {v : Bool} (h : md_isDigit μ = some v) : Cti l g A wm yX12_isDigit cX12_isDigit 1 (some .boolean) 1 [.ref (ad g 0)] μ (bI v) μ := by
  refine ent (lv := [(0, .ref (ad g 0))]) (by decide) (Nat.le_of_ble_eq_true rfl) rfl ?_
  intro p e s m args below meth c hC hr hlocks hnm hW ls hl
  replace hC : Cx g RX12 cX12_isDigit 1 p s m args c := hC
  obtain ⟨hx, hb, hml, hown, hts, hK, hN⟩ := id hC
  unfold md_isDigit at h
  refine lv_aload_n hx hb dX12_isDigit_0 rfl (lv_at hl 0 rfl) ?_
  obtain ⟨x1, hx1, h⟩ := mbv_some h
  refine kr_ci hC hW (kr_runV hC hW hl.1 (t_md_here hx1) cw_X12_233 (wm_0 g μ) rfl rfl rfl (Nat.le_of_ble_eq_true rfl) dX12_isDigit_1 (by decide)) (fun H locs hW => ?_)
  refine lv_bipush (v := 48) hx hb dX12_isDigit_4 (by decide) ?_
  refine lv_icmp_lt (tgt := 22) hx hb dX12_isDigit_6 (by decide) (fun hc2 => ?_) (fun hc2 => ?_)
  · replace h := if_p hc2 h
    refine lv_iconst (v := 0) hx hb dX12_isDigit_22 (by decide) ?_
    cases h
    exact kr_zret hC hr hlocks _ rfl hW dX12_isDigit_23
  · replace h := if_n hc2 h
    refine lv_aload_n hx hb dX12_isDigit_9 rfl (lv_at hl 0 rfl) ?_
    obtain ⟨x3, hx3, h⟩ := mbv_some h
    refine kr_ci hC hW (kr_runV hC hW hl.1 (t_md_here hx3) cw_X12_233 (wm_0 g μ) rfl rfl rfl (Nat.le_of_ble_eq_true rfl) dX12_isDigit_10 (by decide)) (fun H locs hW => ?_)
    refine lv_bipush (v := 57) hx hb dX12_isDigit_13 (by decide) ?_
    refine lv_icmp_gt (tgt := 22) hx hb dX12_isDigit_15 (by decide) (fun hc4 => ?_) (fun hc4 => ?_)
    · replace h := if_p hc4 h
      refine lv_iconst (v := 0) hx hb dX12_isDigit_22 (by decide) ?_
      cases h
      exact kr_zret hC hr hlocks _ rfl hW dX12_isDigit_23
    · replace h := if_n hc4 h
      refine lv_iconst (v := 1) hx hb dX12_isDigit_18 (by decide) ?_
      refine lv_goto (tgt := 23) hx hb dX12_isDigit_19 (by decide) ?_
      cases h
      exact kr_zret hC hr hlocks _ rfl hW dX12_isDigit_23
set_option maxHeartbeats 4000000 in
set_option maxRecDepth 100000 in
theorem t_md_wrong {l : Launch} {g : Gx} {A : Nat → Prop} {μ : Mm} {a1 : Int32} {a2 : Int32} {v : Bool} {u : Mm} (h : md_wrong μ a1 a2 = some (v, u)) : Cti l g A wm yX12_wrong cX12_wrong 3 (some .boolean) 0 [.ref (ad g 0), .int a1, .int a2] μ (bI v) u := by
  refine ent (lv := [(0, .ref (ad g 0)), (1, .int a1), (2, .int a2)]) (by decide) (Nat.le_of_ble_eq_true rfl) rfl ?_
  intro p e s m args below meth c hC hr hlocks hnm hW ls hl
  replace hC : Cx g RX12 cX12_wrong 3 p s m args c := hC
  obtain ⟨hx, hb, hml, hown, hts, hK, hN⟩ := id hC
  unfold md_wrong at h
  refine lv_aload_n hx hb dX12_wrong_0 rfl (lv_at hl 0 rfl) ?_
  refine lv_sipush (v := (-1000)) hx hb dX12_wrong_1 (by decide) ?_
  refine lv_iload_n hx hb dX12_wrong_4 rfl (lv_at hl 1 rfl) ?_
  refine lv_imul hx hb dX12_wrong_5 ?_
  refine lv_iload_n hx hb dX12_wrong_6 rfl (lv_at hl 2 rfl) ?_
  refine lv_isub hx hb dX12_wrong_7 ?_
  obtain ⟨μ1, eμ1, h⟩ := mst_some h
  refine pf_X12_237_m0 hC hW eμ1 dX12_wrong_8 (fun H locs hW => ?_)
  refine lv_iconst (v := 0) hx hb dX12_wrong_11 (by decide) ?_
  cases h
  exact kr_zret hC hr hlocks _ rfl hW dX12_wrong_12
set_option maxHeartbeats 4000000 in
set_option maxRecDepth 100000 in
theorem t_md_takes {l : Launch} {g : Gx} {A : Nat → Prop} {μ : Mm} {a1 : Int32} {v : Bool} {u : Mm} (h : md_takes μ a1 = some (v, u)) : Cti l g A wm yX12_takes cX12_takes 2 (some .boolean) 1 [.ref (ad g 0), .int a1] μ (bI v) u := by
  refine ent (lv := [(0, .ref (ad g 0)), (1, .int a1)]) (by decide) (Nat.le_of_ble_eq_true rfl) rfl ?_
  intro p e s m args below meth c hC hr hlocks hnm hW ls hl
  replace hC : Cx g RX12 cX12_takes 2 p s m args c := hC
  obtain ⟨hx, hb, hml, hown, hts, hK, hN⟩ := id hC
  unfold md_takes at h
  refine lv_aload_n hx hb dX12_takes_0 rfl (lv_at hl 0 rfl) ?_
  obtain ⟨x1, hx1, h⟩ := mbv_some h
  refine kr_ci hC hW (kr_runV hC hW hl.1 (t_md_here hx1) cw_X12_233 (wm_0 g μ) rfl rfl rfl (Nat.le_of_ble_eq_true rfl) dX12_takes_1 (by decide)) (fun H locs hW => ?_)
  refine lv_iload_n hx hb dX12_takes_4 rfl (lv_at hl 1 rfl) ?_
  refine lv_icmp_eq (tgt := 18) hx hb dX12_takes_5 (by decide) (fun hc2 => ?_) (fun hc2 => ?_)
  · replace h := if_p hc2 h
    refine lv_aload_n hx hb dX12_takes_18 rfl (lv_at hl 0 rfl) ?_
    refine lv_aload_n hx hb dX12_takes_19 rfl (lv_at hl 0 rfl) ?_
    refine gf_X12_227_m0 hC hW dX12_takes_20 ?_
    refine lv_iconst (v := 1) hx hb dX12_takes_23 (by decide) ?_
    refine lv_iadd hx hb dX12_takes_24 ?_
    obtain ⟨μ3, eμ3, h⟩ := mst_some h
    refine pf_X12_227_m0 hC hW eμ3 dX12_takes_25 (fun H locs hW => ?_)
    refine lv_iconst (v := 1) hx hb dX12_takes_28 (by decide) ?_
    cases h
    exact kr_zret hC hr hlocks _ rfl hW dX12_takes_29
  · replace h := if_n hc2 h
    refine lv_aload_n hx hb dX12_takes_8 rfl (lv_at hl 0 rfl) ?_
    refine lv_iconst (v := 1) hx hb dX12_takes_9 (by decide) ?_
    refine lv_aload_n hx hb dX12_takes_10 rfl (lv_at hl 0 rfl) ?_
    refine gf_X12_227_m0 hC hW dX12_takes_11 ?_
    obtain ⟨x4, μ5, hx4, h⟩ := mbm_some h
    refine kr_ci hC hW (kr_runV hC hW hl.1 (t_md_wrong hx4) cw_X12_240 (wm_0 g μ) rfl rfl rfl (Nat.le_of_ble_eq_true rfl) dX12_takes_14 (by decide)) (fun H locs hW => ?_)
    cases h
    exact kr_zret hC hr hlocks _ rfl hW dX12_takes_17
set_option maxHeartbeats 4000000 in
set_option maxRecDepth 100000 in
theorem tl_md_readsNumber_10 (a1 : Int32) (hC : Cx g RX12 cX12_readsNumber 2 p s m args c) {e0 : (Mm) ⊕ (Mm)} (kx0 : (Sum.elim (fun a => ∀ (ls : Array Slot) (H : Heap) (locs : List Loc), lv_has ls 2 [(0, .ref (ad g 0))] → wP g wm A s.heap a H locs → W p l e (rmD 2) s m args below meth c H locs 0 0 Q (F0 m 27 ls [])) (fun _ => True)) e0) (kx1 : (Sum.elim (fun _ => True) (fun a => ∀ (ls : Array Slot) (H : Heap) (locs : List Loc), lv_has ls 2 [] → wP g wm A s.heap a H locs → W p l e (rmD 2) s m args below meth c H locs 0 0 Q (F0 m 69 ls []))) e0) : ∀ (n : Nat) (q : Mm), miter (fun q => md_readsNumber_b10 q a1) n q = some e0 → ∀ (ls : Array Slot) (H : Heap) (locs : List Loc), lv_has ls 2 [(0, .ref (ad g 0)), (1, .int a1)] → wP g wm A s.heap q H locs → W p l e (rmD 2) s m args below meth c H locs 0 0 Q (F0 m 10 ls []) := by
  obtain ⟨hx, hb, hml, hown, hts, hK, hN⟩ := id hC
  refine miter_ind (fun q r hf k1 k2 => ?_)
  obtain ⟨μ, rfl⟩ : ∃ z, z = q := ⟨_, rfl⟩
  intro ls H locs hl hW
  have h : md_readsNumber_b10 μ a1 = some r := hf
  unfold md_readsNumber_b10 at h
  refine lv_aload_n hx hb dX12_readsNumber_10 rfl (lv_at hl 0 rfl) ?_
  obtain ⟨x2, hx2, h⟩ := mbv_some h
  refine kr_ci hC hW (kr_runV hC hW hl.1 (t_md_isDigit hx2) cw_X12_247 (wm_0 g μ) rfl rfl rfl (Nat.le_of_ble_eq_true rfl) dX12_readsNumber_11 (by decide)) (fun H locs hW => ?_)
  refine lv_if_eq (tgt := 69) hx hb dX12_readsNumber_14 (by decide) (fun hc3 => ?_) (fun hc3 => ?_)
  · replace h := if_p hc3 h
    obtain rfl := k2 _ (Option.some.inj h).symm
    exact kx1 _ _ _ (lv_sub hl [] rfl) hW
  · replace h := if_n hc3 h
    refine lv_aload_n hx hb dX12_readsNumber_17 rfl (lv_at hl 0 rfl) ?_
    refine gf_X12_227_m0 hC hW dX12_readsNumber_18 ?_
    refine lv_iload_n hx hb dX12_readsNumber_21 rfl (lv_at hl 1 rfl) ?_
    refine lv_iconst (v := 5) hx hb dX12_readsNumber_22 (by decide) ?_
    refine lv_iadd hx hb dX12_readsNumber_23 ?_
    refine lv_icmp_ne (tgt := 37) hx hb dX12_readsNumber_24 (by decide) (fun hc4 => ?_) (fun hc4 => ?_)
    · replace h := if_n hc4 h
      refine lv_aload_n hx hb dX12_readsNumber_37 rfl (lv_at hl 0 rfl) ?_
      refine lv_bipush (v := 10) hx hb dX12_readsNumber_38 (by decide) ?_
      refine lv_aload_n hx hb dX12_readsNumber_40 rfl (lv_at hl 0 rfl) ?_
      refine gf_X12_244_m0 hC hW dX12_readsNumber_41 ?_
      refine lv_imul hx hb dX12_readsNumber_44 ?_
      refine lv_aload_n hx hb dX12_readsNumber_45 rfl (lv_at hl 0 rfl) ?_
      obtain ⟨x5, hx5, h⟩ := mbv_some h
      refine kr_ci hC hW (kr_runV hC hW hl.1 (t_md_here hx5) cw_X12_233 (wm_0 g μ) rfl rfl rfl (Nat.le_of_ble_eq_true rfl) dX12_readsNumber_46 (by decide)) (fun H locs hW => ?_)
      refine lv_iadd hx hb dX12_readsNumber_49 ?_
      refine lv_bipush (v := 48) hx hb dX12_readsNumber_50 (by decide) ?_
      refine lv_isub hx hb dX12_readsNumber_52 ?_
      obtain ⟨μ6, eμ6, h⟩ := mst_some h
      refine pf_X12_244_m0 hC hW eμ6 dX12_readsNumber_53 (fun H locs hW => ?_)
      refine lv_aload_n hx hb dX12_readsNumber_56 rfl (lv_at hl 0 rfl) ?_
      refine lv_aload_n hx hb dX12_readsNumber_57 rfl (lv_at hl 0 rfl) ?_
      refine gf_X12_227_m0 hC hW dX12_readsNumber_58 ?_
      refine lv_iconst (v := 1) hx hb dX12_readsNumber_61 (by decide) ?_
      refine lv_iadd hx hb dX12_readsNumber_62 ?_
      obtain ⟨μ7, eμ7, h⟩ := mst_some h
      refine pf_X12_227_m0 hC hW eμ7 dX12_readsNumber_63 (fun H locs hW => ?_)
      refine lv_goto (tgt := 10) hx hb dX12_readsNumber_66 (by decide) ?_
      exact k1 μ7 (Option.some.inj h).symm _ _ _ (lv_sub hl [0, 1] rfl) hW
    · replace h := if_p hc4 h
      obtain rfl := k2 _ (Option.some.inj h).symm
      exact kx0 _ _ _ (lv_sub hl [0] rfl) hW
set_option maxHeartbeats 4000000 in
set_option maxRecDepth 100000 in
theorem t_md_readsNumber {l : Launch} {g : Gx} {A : Nat → Prop} {μ : Mm} {v : Bool} {u : Mm} (h : md_readsNumber μ = some (v, u)) : Cti l g A wm yX12_readsNumber cX12_readsNumber 2 (some .boolean) 2 [.ref (ad g 0)] μ (bI v) u := by
  refine ent (lv := [(0, .ref (ad g 0))]) (by decide) (Nat.le_of_ble_eq_true rfl) rfl ?_
  intro p e s m args below meth c hC hr hlocks hnm hW ls hl
  replace hC : Cx g RX12 cX12_readsNumber 2 p s m args c := hC
  obtain ⟨hx, hb, hml, hown, hts, hK, hN⟩ := id hC
  unfold md_readsNumber at h
  refine lv_aload_n hx hb dX12_readsNumber_0 rfl (lv_at hl 0 rfl) ?_
  refine gf_X12_227_m0 hC hW dX12_readsNumber_1 ?_
  refine lv_istore_n (lv' := [(1, .int (μ 0 39)), (0, .ref (ad g 0))]) hx hb dX12_readsNumber_4 rfl hl (by decide) rfl (fun ls hl => ?_)
  refine lv_aload_n hx hb dX12_readsNumber_5 rfl (lv_at hl 1 rfl) ?_
  refine lv_iconst (v := 0) hx hb dX12_readsNumber_6 (by decide) ?_
  obtain ⟨μ1, eμ1, h⟩ := mst_some h
  refine pf_X12_244_m0 hC hW eμ1 dX12_readsNumber_7 (fun H locs hW => ?_)
  rcases msum2_ex h with ⟨μ9, he8, h⟩ | ⟨μ12, he8, h⟩
  · refine tl_md_readsNumber_10 (μ 0 39) hC (e0 := (.inl μ9)) (fun ls H locs hl hW => ?_) trivial FU μ1 he8 _ _ _ (lv_sub hl [1, 0] rfl) hW
    refine lv_aload_n hx hb dX12_readsNumber_27 rfl (lv_at hl 0 rfl) ?_
    refine lv_iconst (v := 2) hx hb dX12_readsNumber_28 (by decide) ?_
    refine lv_aload_n hx hb dX12_readsNumber_29 rfl (lv_at hl 0 rfl) ?_
    refine gf_X12_227_m0 hC hW dX12_readsNumber_30 ?_
    obtain ⟨x10, μ11, hx10, h⟩ := mbm_some h
    refine kr_ci hC hW (kr_runV hC hW hl.1 (t_md_wrong hx10) cw_X12_240 (wm_0 g μ9) rfl rfl rfl (Nat.le_of_ble_eq_true rfl) dX12_readsNumber_33 (by decide)) (fun H locs hW => ?_)
    cases h
    exact kr_zret hC hr hlocks _ rfl hW dX12_readsNumber_36
  · refine tl_md_readsNumber_10 (μ 0 39) hC (e0 := (.inr μ12)) trivial (fun ls H locs hl hW => ?_) FU μ1 he8 _ _ _ (lv_sub hl [1, 0] rfl) hW
    refine lv_iconst (v := 1) hx hb dX12_readsNumber_69 (by decide) ?_
    cases h
    exact kr_zret hC hr hlocks _ rfl hW dX12_readsNumber_70
set_option maxHeartbeats 4000000 in
set_option maxRecDepth 100000 in
theorem t_md_says {l : Launch} {g : Gx} {A : Nat → Prop} {μ : Mm} {a1 : Int32} {a2 : Int32} {u : Mm} (h : md_says μ a1 a2 = some u) : Ctv l g A wm yX12_says cX12_says 3 none 0 [.ref (ad g 0), .int a1, .int a2] μ u := by
  refine ent (lv := [(0, .ref (ad g 0)), (1, .int a1), (2, .int a2)]) (by decide) (Nat.le_of_ble_eq_true rfl) rfl ?_
  intro p e s m args below meth c hC hr hlocks hnm hW ls hl
  replace hC : Cx g RX12 cX12_says 3 p s m args c := hC
  obtain ⟨hx, hb, hml, hown, hts, hK, hN⟩ := id hC
  unfold md_says at h
  refine lv_aload_n hx hb dX12_says_0 rfl (lv_at hl 0 rfl) ?_
  refine gf_X12_102_m0 hC hW dX12_says_1 ?_
  refine lv_aload_n hx hb dX12_says_4 rfl (lv_at hl 0 rfl) ?_
  refine gf_X12_251_m0 hC hW dX12_says_5 ?_
  refine lv_ldc hx hb hown (hts _ tw_1487) dX12_says_8 ?_
  refine lv_iload_n hx hb dX12_says_10 rfl (lv_at hl 1 rfl) ?_
  refine lv_imul hx hb dX12_says_11 ?_
  refine lv_iload_n hx hb dX12_says_12 rfl (lv_at hl 2 rfl) ?_
  refine lv_iadd hx hb dX12_says_13 ?_
  obtain ⟨μ1, eμ1, hin, h⟩ := mwr_ex h
  refine kr_iast hC hW (wm_31 g μ) (wms_31 eμ1) hin dX12_says_14 (fun H locs hW => ?_)
  refine lv_aload_n hx hb dX12_says_15 rfl (lv_at hl 0 rfl) ?_
  refine lv_aload_n hx hb dX12_says_16 rfl (lv_at hl 0 rfl) ?_
  refine gf_X12_251_m0 hC hW dX12_says_17 ?_
  refine lv_iconst (v := 1) hx hb dX12_says_20 (by decide) ?_
  refine lv_iadd hx hb dX12_says_21 ?_
  obtain ⟨μ2, eμ2, h⟩ := mst_some h
  refine pf_X12_251_m0 hC hW eμ2 dX12_says_22 (fun H locs hW => ?_)
  cases h
  exact kr_vret hC hr hlocks hW dX12_says_25
set_option maxHeartbeats 4000000 in
set_option maxRecDepth 100000 in
theorem t_md_opens {l : Launch} {g : Gx} {A : Nat → Prop} {μ : Mm} {a1 : Int32} {v : Bool} {u : Mm} (h : md_opens μ a1 = some (v, u)) : Cti l g A wm yX12_opens cX12_opens 2 (some .boolean) 1 [.ref (ad g 0), .int a1] μ (bI v) u := by
  refine ent (lv := [(0, .ref (ad g 0)), (1, .int a1)]) (by decide) (Nat.le_of_ble_eq_true rfl) rfl ?_
  intro p e s m args below meth c hC hr hlocks hnm hW ls hl
  replace hC : Cx g RX12 cX12_opens 2 p s m args c := hC
  obtain ⟨hx, hb, hml, hown, hts, hK, hN⟩ := id hC
  unfold md_opens at h
  refine lv_aload_n hx hb dX12_opens_0 rfl (lv_at hl 0 rfl) ?_
  refine gf_X12_255_m0 hC hW dX12_opens_1 ?_
  refine lv_bipush (v := 6) hx hb dX12_opens_4 (by decide) ?_
  refine lv_icmp_ne (tgt := 19) hx hb dX12_opens_6 (by decide) (fun hc1 => ?_) (fun hc1 => ?_)
  · replace h := if_n hc1 h
    refine lv_aload_n hx hb dX12_opens_19 rfl (lv_at hl 0 rfl) ?_
    refine lv_aload_n hx hb dX12_opens_20 rfl (lv_at hl 0 rfl) ?_
    refine gf_X12_255_m0 hC hW dX12_opens_21 ?_
    refine lv_iconst (v := 1) hx hb dX12_opens_24 (by decide) ?_
    refine lv_iadd hx hb dX12_opens_25 ?_
    obtain ⟨μ2, eμ2, h⟩ := mst_some h
    refine pf_X12_255_m0 hC hW eμ2 dX12_opens_26 (fun H locs hW => ?_)
    refine lv_aload_n hx hb dX12_opens_29 rfl (lv_at hl 0 rfl) ?_
    refine gf_X12_105_m0 hC hW dX12_opens_30 ?_
    refine lv_aload_n hx hb dX12_opens_33 rfl (lv_at hl 0 rfl) ?_
    refine gf_X12_258_m0 hC hW dX12_opens_34 ?_
    refine lv_ldc hx hb hown (hts _ tw_1487) dX12_opens_37 ?_
    refine lv_iload_n hx hb dX12_opens_39 rfl (lv_at hl 1 rfl) ?_
    refine lv_imul hx hb dX12_opens_40 ?_
    obtain ⟨μ3, eμ3, hin, h⟩ := mwr_ex h
    refine kr_iast hC hW (wm_32 g μ2) (wms_32 eμ3) hin dX12_opens_41 (fun H locs hW => ?_)
    refine lv_aload_n hx hb dX12_opens_42 rfl (lv_at hl 0 rfl) ?_
    refine lv_aload_n hx hb dX12_opens_43 rfl (lv_at hl 0 rfl) ?_
    refine gf_X12_258_m0 hC hW dX12_opens_44 ?_
    refine lv_iconst (v := 1) hx hb dX12_opens_47 (by decide) ?_
    refine lv_iadd hx hb dX12_opens_48 ?_
    obtain ⟨μ4, eμ4, h⟩ := mst_some h
    refine pf_X12_258_m0 hC hW eμ4 dX12_opens_49 (fun H locs hW => ?_)
    refine lv_aload_n hx hb dX12_opens_52 rfl (lv_at hl 0 rfl) ?_
    refine lv_aload_n hx hb dX12_opens_53 rfl (lv_at hl 0 rfl) ?_
    refine gf_X12_227_m0 hC hW dX12_opens_54 ?_
    refine lv_iconst (v := 1) hx hb dX12_opens_57 (by decide) ?_
    refine lv_iadd hx hb dX12_opens_58 ?_
    obtain ⟨μ5, eμ5, h⟩ := mst_some h
    refine pf_X12_227_m0 hC hW eμ5 dX12_opens_59 (fun H locs hW => ?_)
    refine lv_iconst (v := 1) hx hb dX12_opens_62 (by decide) ?_
    cases h
    exact kr_zret hC hr hlocks _ rfl hW dX12_opens_63
  · replace h := if_p hc1 h
    refine lv_aload_n hx hb dX12_opens_9 rfl (lv_at hl 0 rfl) ?_
    refine lv_iconst (v := 5) hx hb dX12_opens_10 (by decide) ?_
    refine lv_aload_n hx hb dX12_opens_11 rfl (lv_at hl 0 rfl) ?_
    refine gf_X12_227_m0 hC hW dX12_opens_12 ?_
    obtain ⟨x6, μ7, hx6, h⟩ := mbm_some h
    refine kr_ci hC hW (kr_runV hC hW hl.1 (t_md_wrong hx6) cw_X12_240 (wm_0 g μ) rfl rfl rfl (Nat.le_of_ble_eq_true rfl) dX12_opens_15 (by decide)) (fun H locs hW => ?_)
    cases h
    exact kr_zret hC hr hlocks _ rfl hW dX12_opens_18
set_option maxHeartbeats 4000000 in
set_option maxRecDepth 100000 in
theorem t_md_top {l : Launch} {g : Gx} {A : Nat → Prop} {μ : Mm} {v : Int32} (h : md_top μ = some v) : Cti l g A wm yX12_top cX12_top 1 (some .int) 0 [.ref (ad g 0)] μ v μ := by
  refine ent (lv := [(0, .ref (ad g 0))]) (by decide) (Nat.le_of_ble_eq_true rfl) rfl ?_
  intro p e s m args below meth c hC hr hlocks hnm hW ls hl
  replace hC : Cx g RX12 cX12_top 1 p s m args c := hC
  obtain ⟨hx, hb, hml, hown, hts, hK, hN⟩ := id hC
  unfold md_top at h
  refine lv_aload_n hx hb dX12_top_0 rfl (lv_at hl 0 rfl) ?_
  refine gf_X12_258_m0 hC hW dX12_top_1 ?_
  refine lv_if_ne (tgt := 11) hx hb dX12_top_4 (by decide) (fun hc1 => ?_) (fun hc1 => ?_)
  · replace h := if_n hc1 h
    refine lv_aload_n hx hb dX12_top_11 rfl (lv_at hl 0 rfl) ?_
    refine gf_X12_105_m0 hC hW dX12_top_12 ?_
    refine lv_aload_n hx hb dX12_top_15 rfl (lv_at hl 0 rfl) ?_
    refine gf_X12_258_m0 hC hW dX12_top_16 ?_
    refine lv_iconst (v := 1) hx hb dX12_top_19 (by decide) ?_
    refine lv_isub hx hb dX12_top_20 ?_
    obtain ⟨x2, ex2, hin, h⟩ := mrd_ex h
    refine kr_iald hC hW (wm_32 g μ) hin ex2 dX12_top_21 ?_
    refine lv_ldc hx hb hown (hts _ tw_1487) dX12_top_22 ?_
    refine lv_idiv hx hb dX12_top_24 (by decide) ?_
    cases h
    exact kr_iret hC hr hlocks hW dX12_top_25
  · replace h := if_p hc1 h
    refine lv_iconst (v := (-1)) hx hb dX12_top_7 (by decide) ?_
    refine lv_goto (tgt := 25) hx hb dX12_top_8 (by decide) ?_
    cases h
    exact kr_iret hC hr hlocks hW dX12_top_25
set_option maxHeartbeats 4000000 in
set_option maxRecDepth 100000 in
theorem t_md_factOf {l : Launch} {g : Gx} {A : Nat → Prop} {Wd : Gx → Mm → va_W} {μ : Mm} {a0 : Int32} {v : Int32} (h : md_factOf a0 = some v) : Cti l g A Wd yX12_factOf cX12_factOf 1 (some .int) 0 [.int a0] μ v μ := by
  refine ent (lv := [(0, .int a0)]) (by decide) (Nat.le_of_ble_eq_true rfl) rfl ?_
  intro p e s m args below meth c hC hr hlocks hnm hW ls hl
  replace hC : Cx g RX12 cX12_factOf 1 p s m args c := hC
  obtain ⟨hx, hb, hml, hown, hts, hK, hN⟩ := id hC
  unfold md_factOf at h
  refine lv_iload_n hx hb dX12_factOf_0 rfl (lv_at hl 0 rfl) ?_
  by_cases hc1 : a0 = 98
  · replace h := if_p hc1 h
    refine lv_tableIn (off := 129) (tgt := 130) hx hb dX12_factOf_1 (by rw [hc1]; decide) (by rw [hc1]; decide) (by rw [hc1]; rfl) (by decide) ?_
    refine lv_bipush (v := 8) hx hb dX12_factOf_130 (by decide) ?_
    cases h
    exact kr_iret hC hr hlocks hW dX12_factOf_132
  replace h := if_n hc1 h
  by_cases hc2 : a0 = 99
  · replace h := if_p hc2 h
    refine lv_tableIn (off := 141) (tgt := 142) hx hb dX12_factOf_1 (by rw [hc2]; decide) (by rw [hc2]; decide) (by rw [hc2]; rfl) (by decide) ?_
    refine lv_iconst (v := (-1)) hx hb dX12_factOf_142 (by decide) ?_
    cases h
    exact kr_iret hC hr hlocks hW dX12_factOf_143
  replace h := if_n hc2 h
  by_cases hc3 : a0 = 100
  · replace h := if_p hc3 h
    refine lv_tableIn (off := 141) (tgt := 142) hx hb dX12_factOf_1 (by rw [hc3]; decide) (by rw [hc3]; decide) (by rw [hc3]; rfl) (by decide) ?_
    refine lv_iconst (v := (-1)) hx hb dX12_factOf_142 (by decide) ?_
    cases h
    exact kr_iret hC hr hlocks hW dX12_factOf_143
  replace h := if_n hc3 h
  by_cases hc4 : a0 = 101
  · replace h := if_p hc4 h
    refine lv_tableIn (off := 141) (tgt := 142) hx hb dX12_factOf_1 (by rw [hc4]; decide) (by rw [hc4]; decide) (by rw [hc4]; rfl) (by decide) ?_
    refine lv_iconst (v := (-1)) hx hb dX12_factOf_142 (by decide) ?_
    cases h
    exact kr_iret hC hr hlocks hW dX12_factOf_143
  replace h := if_n hc4 h
  by_cases hc5 : a0 = 102
  · replace h := if_p hc5 h
    refine lv_tableIn (off := 117) (tgt := 118) hx hb dX12_factOf_1 (by rw [hc5]; decide) (by rw [hc5]; decide) (by rw [hc5]; rfl) (by decide) ?_
    refine lv_iconst (v := 3) hx hb dX12_factOf_118 (by decide) ?_
    cases h
    exact kr_iret hC hr hlocks hW dX12_factOf_119
  replace h := if_n hc5 h
  by_cases hc6 : a0 = 103
  · replace h := if_p hc6 h
    refine lv_tableIn (off := 141) (tgt := 142) hx hb dX12_factOf_1 (by rw [hc6]; decide) (by rw [hc6]; decide) (by rw [hc6]; rfl) (by decide) ?_
    refine lv_iconst (v := (-1)) hx hb dX12_factOf_142 (by decide) ?_
    cases h
    exact kr_iret hC hr hlocks hW dX12_factOf_143
  replace h := if_n hc6 h
  by_cases hc7 : a0 = 104
  · replace h := if_p hc7 h
    refine lv_tableIn (off := 123) (tgt := 124) hx hb dX12_factOf_1 (by rw [hc7]; decide) (by rw [hc7]; decide) (by rw [hc7]; rfl) (by decide) ?_
    refine lv_bipush (v := 6) hx hb dX12_factOf_124 (by decide) ?_
    cases h
    exact kr_iret hC hr hlocks hW dX12_factOf_126
  replace h := if_n hc7 h
  by_cases hc8 : a0 = 105
  · replace h := if_p hc8 h
    refine lv_tableIn (off := 141) (tgt := 142) hx hb dX12_factOf_1 (by rw [hc8]; decide) (by rw [hc8]; decide) (by rw [hc8]; rfl) (by decide) ?_
    refine lv_iconst (v := (-1)) hx hb dX12_factOf_142 (by decide) ?_
    cases h
    exact kr_iret hC hr hlocks hW dX12_factOf_143
  replace h := if_n hc8 h
  by_cases hc9 : a0 = 106
  · replace h := if_p hc9 h
    refine lv_tableIn (off := 141) (tgt := 142) hx hb dX12_factOf_1 (by rw [hc9]; decide) (by rw [hc9]; decide) (by rw [hc9]; rfl) (by decide) ?_
    refine lv_iconst (v := (-1)) hx hb dX12_factOf_142 (by decide) ?_
    cases h
    exact kr_iret hC hr hlocks hW dX12_factOf_143
  replace h := if_n hc9 h
  by_cases hc10 : a0 = 107
  · replace h := if_p hc10 h
    refine lv_tableIn (off := 113) (tgt := 114) hx hb dX12_factOf_1 (by rw [hc10]; decide) (by rw [hc10]; decide) (by rw [hc10]; rfl) (by decide) ?_
    refine lv_iconst (v := 1) hx hb dX12_factOf_114 (by decide) ?_
    cases h
    exact kr_iret hC hr hlocks hW dX12_factOf_115
  replace h := if_n hc10 h
  by_cases hc11 : a0 = 108
  · replace h := if_p hc11 h
    refine lv_tableIn (off := 115) (tgt := 116) hx hb dX12_factOf_1 (by rw [hc11]; decide) (by rw [hc11]; decide) (by rw [hc11]; rfl) (by decide) ?_
    refine lv_iconst (v := 2) hx hb dX12_factOf_116 (by decide) ?_
    cases h
    exact kr_iret hC hr hlocks hW dX12_factOf_117
  replace h := if_n hc11 h
  by_cases hc12 : a0 = 109
  · replace h := if_p hc12 h
    refine lv_tableIn (off := 141) (tgt := 142) hx hb dX12_factOf_1 (by rw [hc12]; decide) (by rw [hc12]; decide) (by rw [hc12]; rfl) (by decide) ?_
    refine lv_iconst (v := (-1)) hx hb dX12_factOf_142 (by decide) ?_
    cases h
    exact kr_iret hC hr hlocks hW dX12_factOf_143
  replace h := if_n hc12 h
  by_cases hc13 : a0 = 110
  · replace h := if_p hc13 h
    refine lv_tableIn (off := 121) (tgt := 122) hx hb dX12_factOf_1 (by rw [hc13]; decide) (by rw [hc13]; decide) (by rw [hc13]; rfl) (by decide) ?_
    refine lv_iconst (v := 5) hx hb dX12_factOf_122 (by decide) ?_
    cases h
    exact kr_iret hC hr hlocks hW dX12_factOf_123
  replace h := if_n hc13 h
  by_cases hc14 : a0 = 111
  · replace h := if_p hc14 h
    refine lv_tableIn (off := 141) (tgt := 142) hx hb dX12_factOf_1 (by rw [hc14]; decide) (by rw [hc14]; decide) (by rw [hc14]; rfl) (by decide) ?_
    refine lv_iconst (v := (-1)) hx hb dX12_factOf_142 (by decide) ?_
    cases h
    exact kr_iret hC hr hlocks hW dX12_factOf_143
  replace h := if_n hc14 h
  by_cases hc15 : a0 = 112
  · replace h := if_p hc15 h
    refine lv_tableIn (off := 119) (tgt := 120) hx hb dX12_factOf_1 (by rw [hc15]; decide) (by rw [hc15]; decide) (by rw [hc15]; rfl) (by decide) ?_
    refine lv_iconst (v := 4) hx hb dX12_factOf_120 (by decide) ?_
    cases h
    exact kr_iret hC hr hlocks hW dX12_factOf_121
  replace h := if_n hc15 h
  by_cases hc16 : a0 = 113
  · replace h := if_p hc16 h
    refine lv_tableIn (off := 141) (tgt := 142) hx hb dX12_factOf_1 (by rw [hc16]; decide) (by rw [hc16]; decide) (by rw [hc16]; rfl) (by decide) ?_
    refine lv_iconst (v := (-1)) hx hb dX12_factOf_142 (by decide) ?_
    cases h
    exact kr_iret hC hr hlocks hW dX12_factOf_143
  replace h := if_n hc16 h
  by_cases hc17 : a0 = 114
  · replace h := if_p hc17 h
    refine lv_tableIn (off := 138) (tgt := 139) hx hb dX12_factOf_1 (by rw [hc17]; decide) (by rw [hc17]; decide) (by rw [hc17]; rfl) (by decide) ?_
    refine lv_bipush (v := 11) hx hb dX12_factOf_139 (by decide) ?_
    cases h
    exact kr_iret hC hr hlocks hW dX12_factOf_141
  replace h := if_n hc17 h
  by_cases hc18 : a0 = 115
  · replace h := if_p hc18 h
    refine lv_tableIn (off := 126) (tgt := 127) hx hb dX12_factOf_1 (by rw [hc18]; decide) (by rw [hc18]; decide) (by rw [hc18]; rfl) (by decide) ?_
    refine lv_bipush (v := 7) hx hb dX12_factOf_127 (by decide) ?_
    cases h
    exact kr_iret hC hr hlocks hW dX12_factOf_129
  replace h := if_n hc18 h
  by_cases hc19 : a0 = 116
  · replace h := if_p hc19 h
    refine lv_tableIn (off := 111) (tgt := 112) hx hb dX12_factOf_1 (by rw [hc19]; decide) (by rw [hc19]; decide) (by rw [hc19]; rfl) (by decide) ?_
    refine lv_iconst (v := 0) hx hb dX12_factOf_112 (by decide) ?_
    cases h
    exact kr_iret hC hr hlocks hW dX12_factOf_113
  replace h := if_n hc19 h
  by_cases hc20 : a0 = 117
  · replace h := if_p hc20 h
    refine lv_tableIn (off := 141) (tgt := 142) hx hb dX12_factOf_1 (by rw [hc20]; decide) (by rw [hc20]; decide) (by rw [hc20]; rfl) (by decide) ?_
    refine lv_iconst (v := (-1)) hx hb dX12_factOf_142 (by decide) ?_
    cases h
    exact kr_iret hC hr hlocks hW dX12_factOf_143
  replace h := if_n hc20 h
  by_cases hc21 : a0 = 118
  · replace h := if_p hc21 h
    refine lv_tableIn (off := 141) (tgt := 142) hx hb dX12_factOf_1 (by rw [hc21]; decide) (by rw [hc21]; decide) (by rw [hc21]; rfl) (by decide) ?_
    refine lv_iconst (v := (-1)) hx hb dX12_factOf_142 (by decide) ?_
    cases h
    exact kr_iret hC hr hlocks hW dX12_factOf_143
  replace h := if_n hc21 h
  by_cases hc22 : a0 = 119
  · replace h := if_p hc22 h
    refine lv_tableIn (off := 141) (tgt := 142) hx hb dX12_factOf_1 (by rw [hc22]; decide) (by rw [hc22]; decide) (by rw [hc22]; rfl) (by decide) ?_
    refine lv_iconst (v := (-1)) hx hb dX12_factOf_142 (by decide) ?_
    cases h
    exact kr_iret hC hr hlocks hW dX12_factOf_143
  replace h := if_n hc22 h
  by_cases hc23 : a0 = 120
  · replace h := if_p hc23 h
    refine lv_tableIn (off := 135) (tgt := 136) hx hb dX12_factOf_1 (by rw [hc23]; decide) (by rw [hc23]; decide) (by rw [hc23]; rfl) (by decide) ?_
    refine lv_bipush (v := 10) hx hb dX12_factOf_136 (by decide) ?_
    cases h
    exact kr_iret hC hr hlocks hW dX12_factOf_138
  replace h := if_n hc23 h
  by_cases hc24 : a0 = 121
  · replace h := if_p hc24 h
    refine lv_tableIn (off := 132) (tgt := 133) hx hb dX12_factOf_1 (by rw [hc24]; decide) (by rw [hc24]; decide) (by rw [hc24]; rfl) (by decide) ?_
    refine lv_bipush (v := 9) hx hb dX12_factOf_133 (by decide) ?_
    cases h
    exact kr_iret hC hr hlocks hW dX12_factOf_135
  replace h := if_n hc24 h
  have thc1 := lv_neT (a := 98) hc1 (by decide)
  have thc2 := lv_neT (a := 99) hc2 (by decide)
  have thc3 := lv_neT (a := 100) hc3 (by decide)
  have thc4 := lv_neT (a := 101) hc4 (by decide)
  have thc5 := lv_neT (a := 102) hc5 (by decide)
  have thc6 := lv_neT (a := 103) hc6 (by decide)
  have thc7 := lv_neT (a := 104) hc7 (by decide)
  have thc8 := lv_neT (a := 105) hc8 (by decide)
  have thc9 := lv_neT (a := 106) hc9 (by decide)
  have thc10 := lv_neT (a := 107) hc10 (by decide)
  have thc11 := lv_neT (a := 108) hc11 (by decide)
  have thc12 := lv_neT (a := 109) hc12 (by decide)
  have thc13 := lv_neT (a := 110) hc13 (by decide)
  have thc14 := lv_neT (a := 111) hc14 (by decide)
  have thc15 := lv_neT (a := 112) hc15 (by decide)
  have thc16 := lv_neT (a := 113) hc16 (by decide)
  have thc17 := lv_neT (a := 114) hc17 (by decide)
  have thc18 := lv_neT (a := 115) hc18 (by decide)
  have thc19 := lv_neT (a := 116) hc19 (by decide)
  have thc20 := lv_neT (a := 117) hc20 (by decide)
  have thc21 := lv_neT (a := 118) hc21 (by decide)
  have thc22 := lv_neT (a := 119) hc22 (by decide)
  have thc23 := lv_neT (a := 120) hc23 (by decide)
  have thc24 := lv_neT (a := 121) hc24 (by decide)
  refine lv_tableOut (tgt := 142) hx hb dX12_factOf_1 (by omega) (by decide) ?_
  refine lv_iconst (v := (-1)) hx hb dX12_factOf_142 (by decide) ?_
  cases h
  exact kr_iret hC hr hlocks hW dX12_factOf_143
set_option maxHeartbeats 4000000 in
set_option maxRecDepth 100000 in
theorem t_md_sumSign {l : Launch} {g : Gx} {A : Nat → Prop} {Wd : Gx → Mm → va_W} {μ : Mm} {a0 : Int32} {v : Int32} (h : md_sumSign a0 = some v) : Cti l g A Wd yX12_sumSign cX12_sumSign 1 (some .int) 0 [.int a0] μ v μ := by
  refine ent (lv := [(0, .int a0)]) (by decide) (Nat.le_of_ble_eq_true rfl) rfl ?_
  intro p e s m args below meth c hC hr hlocks hnm hW ls hl
  replace hC : Cx g RX12 cX12_sumSign 1 p s m args c := hC
  obtain ⟨hx, hb, hml, hown, hts, hK, hN⟩ := id hC
  unfold md_sumSign at h
  refine lv_iload_n hx hb dX12_sumSign_0 rfl (lv_at hl 0 rfl) ?_
  refine lv_bipush (v := 43) hx hb dX12_sumSign_1 (by decide) ?_
  refine lv_icmp_ne (tgt := 10) hx hb dX12_sumSign_3 (by decide) (fun hc1 => ?_) (fun hc1 => ?_)
  · replace h := if_n hc1 h
    refine lv_iload_n hx hb dX12_sumSign_10 rfl (lv_at hl 0 rfl) ?_
    refine lv_bipush (v := 45) hx hb dX12_sumSign_11 (by decide) ?_
    refine lv_icmp_ne (tgt := 20) hx hb dX12_sumSign_13 (by decide) (fun hc2 => ?_) (fun hc2 => ?_)
    · replace h := if_n hc2 h
      refine lv_iload_n hx hb dX12_sumSign_20 rfl (lv_at hl 0 rfl) ?_
      refine lv_bipush (v := 42) hx hb dX12_sumSign_21 (by decide) ?_
      refine lv_icmp_ne (tgt := 30) hx hb dX12_sumSign_23 (by decide) (fun hc3 => ?_) (fun hc3 => ?_)
      · replace h := if_n hc3 h
        refine lv_iload_n hx hb dX12_sumSign_30 rfl (lv_at hl 0 rfl) ?_
        refine lv_bipush (v := 47) hx hb dX12_sumSign_31 (by decide) ?_
        refine lv_icmp_ne (tgt := 40) hx hb dX12_sumSign_33 (by decide) (fun hc4 => ?_) (fun hc4 => ?_)
        · replace h := if_n hc4 h
          refine lv_iload_n hx hb dX12_sumSign_40 rfl (lv_at hl 0 rfl) ?_
          refine lv_bipush (v := 37) hx hb dX12_sumSign_41 (by decide) ?_
          refine lv_icmp_ne (tgt := 51) hx hb dX12_sumSign_43 (by decide) (fun hc5 => ?_) (fun hc5 => ?_)
          · replace h := if_n hc5 h
            refine lv_iconst (v := (-1)) hx hb dX12_sumSign_51 (by decide) ?_
            cases h
            exact kr_iret hC hr hlocks hW dX12_sumSign_52
          · replace h := if_p hc5 h
            refine lv_bipush (v := 6) hx hb dX12_sumSign_46 (by decide) ?_
            refine lv_goto (tgt := 52) hx hb dX12_sumSign_48 (by decide) ?_
            cases h
            exact kr_iret hC hr hlocks hW dX12_sumSign_52
        · replace h := if_p hc4 h
          refine lv_iconst (v := 5) hx hb dX12_sumSign_36 (by decide) ?_
          refine lv_goto (tgt := 52) hx hb dX12_sumSign_37 (by decide) ?_
          cases h
          exact kr_iret hC hr hlocks hW dX12_sumSign_52
      · replace h := if_p hc3 h
        refine lv_iconst (v := 4) hx hb dX12_sumSign_26 (by decide) ?_
        refine lv_goto (tgt := 52) hx hb dX12_sumSign_27 (by decide) ?_
        cases h
        exact kr_iret hC hr hlocks hW dX12_sumSign_52
    · replace h := if_p hc2 h
      refine lv_iconst (v := 3) hx hb dX12_sumSign_16 (by decide) ?_
      refine lv_goto (tgt := 52) hx hb dX12_sumSign_17 (by decide) ?_
      cases h
      exact kr_iret hC hr hlocks hW dX12_sumSign_52
  · replace h := if_p hc1 h
    refine lv_iconst (v := 2) hx hb dX12_sumSign_6 (by decide) ?_
    refine lv_goto (tgt := 52) hx hb dX12_sumSign_7 (by decide) ?_
    cases h
    exact kr_iret hC hr hlocks hW dX12_sumSign_52
set_option maxHeartbeats 4000000 in
set_option maxRecDepth 100000 in
theorem tj_md_closesSums_17 {μ : Mm} (a1 : Int32) (hC : Cx g RX12 cX12_closesSums 2 p s m args c) {e0 : (Mm)} {r : (Mm) ⊕ (Mm)} (k1 : ∀ q, r = .inl q → ∀ (ls : Array Slot) (H : Heap) (locs : List Loc), lv_has ls 2 [(0, .ref (ad g 0)), (1, .int a1)] → wP g wm A s.heap q H locs → W p l e (rmD 1) s m args below meth c H locs 0 0 Q (F0 m 0 ls [])) (k2 : ∀ e', r = .inr e' → e' = e0) (kx0 : ∀ (ls : Array Slot) (H : Heap) (locs : List Loc), lv_has ls 2 [] → wP g wm A s.heap e0 H locs → W p l e (rmD 1) s m args below meth c H locs 0 0 Q (F0 m 59 ls []))  (hl : lv_has ls 2 [(0, .ref (ad g 0)), (1, .int a1)]) (hW : wP g wm A s.heap μ H locs) (h : md_closesSums_j17 μ a1 = some r) : W p l e (rmD 1) s m args below meth c H locs 0 0 Q (F0 m 17 ls []) := by
  obtain ⟨hx, hb, hml, hown, hts, hK, hN⟩ := id hC
  unfold md_closesSums_j17 at h
  refine lv_iload_n hx hb dX12_closesSums_17 rfl (lv_at hl 1 rfl) ?_
  refine lv_if_eq (tgt := 59) hx hb dX12_closesSums_18 (by decide) (fun hc3 => ?_) (fun hc3 => ?_)
  · replace h := if_p hc3 h
    obtain rfl := k2 _ (Option.some.inj h).symm
    exact kx0 _ _ _ (lv_sub hl [] rfl) hW
  · replace h := if_n hc3 h
    refine lv_aload_n hx hb dX12_closesSums_21 rfl (lv_at hl 0 rfl) ?_
    obtain ⟨x4, hx4, h⟩ := mbv_some h
    refine kr_ci hC hW (kr_runV hC hW hl.1 (t_md_top hx4) cw_X12_261 (wm_0 g μ) rfl rfl rfl (Nat.le_of_ble_eq_true rfl) dX12_closesSums_22 (by decide)) (fun H locs hW => ?_)
    refine lv_iconst (v := 2) hx hb dX12_closesSums_25 (by decide) ?_
    refine lv_icmp_eq (tgt := 37) hx hb dX12_closesSums_26 (by decide) (fun hc5 => ?_) (fun hc5 => ?_)
    · replace h := if_p hc5 h
      refine lv_aload_n hx hb dX12_closesSums_37 rfl (lv_at hl 0 rfl) ?_
      refine lv_aload_n hx hb dX12_closesSums_38 rfl (lv_at hl 0 rfl) ?_
      obtain ⟨x6, hx6, h⟩ := mbv_some h
      refine kr_ci hC hW (kr_runV hC hW hl.1 (t_md_top hx6) cw_X12_261 (wm_0 g μ) rfl rfl rfl (Nat.le_of_ble_eq_true rfl) dX12_closesSums_39 (by decide)) (fun H locs hW => ?_)
      refine lv_iconst (v := 0) hx hb dX12_closesSums_42 (by decide) ?_
      obtain ⟨μ8, hxμ8, h⟩ := mbv_some h
      refine kr_cv hC hW (kr_runV hC hW hl.1 (t_md_says hxμ8) cw_X12_264 (wm_0 g μ) rfl rfl rfl (Nat.le_of_ble_eq_true rfl) dX12_closesSums_43 (by decide)) (fun H locs hW => ?_)
      refine lv_aload_n hx hb dX12_closesSums_46 rfl (lv_at hl 0 rfl) ?_
      refine lv_aload_n hx hb dX12_closesSums_47 rfl (lv_at hl 0 rfl) ?_
      refine gf_X12_258_m0 hC hW dX12_closesSums_48 ?_
      refine lv_iconst (v := 1) hx hb dX12_closesSums_51 (by decide) ?_
      refine lv_isub hx hb dX12_closesSums_52 ?_
      obtain ⟨μ9, eμ9, h⟩ := mst_some h
      refine pf_X12_258_m0 hC hW eμ9 dX12_closesSums_53 (fun H locs hW => ?_)
      refine lv_goto (tgt := 0) hx hb dX12_closesSums_56 (by decide) ?_
      exact k1 μ9 (Option.some.inj h).symm _ _ _ (lv_sub hl [0, 1] rfl) hW
    · replace h := if_n hc5 h
      refine lv_aload_n hx hb dX12_closesSums_29 rfl (lv_at hl 0 rfl) ?_
      obtain ⟨x10, hx10, h⟩ := mbv_some h
      refine kr_ci hC hW (kr_runV hC hW hl.1 (t_md_top hx10) cw_X12_261 (wm_0 g μ) rfl rfl rfl (Nat.le_of_ble_eq_true rfl) dX12_closesSums_30 (by decide)) (fun H locs hW => ?_)
      refine lv_iconst (v := 3) hx hb dX12_closesSums_33 (by decide) ?_
      refine lv_icmp_ne (tgt := 59) hx hb dX12_closesSums_34 (by decide) (fun hc11 => ?_) (fun hc11 => ?_)
      · replace h := if_n hc11 h
        obtain rfl := k2 _ (Option.some.inj h).symm
        exact kx0 _ _ _ (lv_sub hl [] rfl) hW
      · replace h := if_p hc11 h
        refine lv_aload_n hx hb dX12_closesSums_37 rfl (lv_at hl 0 rfl) ?_
        refine lv_aload_n hx hb dX12_closesSums_38 rfl (lv_at hl 0 rfl) ?_
        obtain ⟨x12, hx12, h⟩ := mbv_some h
        refine kr_ci hC hW (kr_runV hC hW hl.1 (t_md_top hx12) cw_X12_261 (wm_0 g μ) rfl rfl rfl (Nat.le_of_ble_eq_true rfl) dX12_closesSums_39 (by decide)) (fun H locs hW => ?_)
        refine lv_iconst (v := 0) hx hb dX12_closesSums_42 (by decide) ?_
        obtain ⟨μ14, hxμ14, h⟩ := mbv_some h
        refine kr_cv hC hW (kr_runV hC hW hl.1 (t_md_says hxμ14) cw_X12_264 (wm_0 g μ) rfl rfl rfl (Nat.le_of_ble_eq_true rfl) dX12_closesSums_43 (by decide)) (fun H locs hW => ?_)
        refine lv_aload_n hx hb dX12_closesSums_46 rfl (lv_at hl 0 rfl) ?_
        refine lv_aload_n hx hb dX12_closesSums_47 rfl (lv_at hl 0 rfl) ?_
        refine gf_X12_258_m0 hC hW dX12_closesSums_48 ?_
        refine lv_iconst (v := 1) hx hb dX12_closesSums_51 (by decide) ?_
        refine lv_isub hx hb dX12_closesSums_52 ?_
        obtain ⟨μ15, eμ15, h⟩ := mst_some h
        refine pf_X12_258_m0 hC hW eμ15 dX12_closesSums_53 (fun H locs hW => ?_)
        refine lv_goto (tgt := 0) hx hb dX12_closesSums_56 (by decide) ?_
        exact k1 μ15 (Option.some.inj h).symm _ _ _ (lv_sub hl [0, 1] rfl) hW
set_option maxHeartbeats 4000000 in
set_option maxRecDepth 100000 in
theorem tl_md_closesSums_0 (a1 : Int32) (hC : Cx g RX12 cX12_closesSums 2 p s m args c) {e0 : (Mm)} (kx0 : ∀ (ls : Array Slot) (H : Heap) (locs : List Loc), lv_has ls 2 [] → wP g wm A s.heap e0 H locs → W p l e (rmD 1) s m args below meth c H locs 0 0 Q (F0 m 59 ls [])) : ∀ (n : Nat) (q : Mm), miter (fun q => md_closesSums_b0 q a1) n q = some e0 → ∀ (ls : Array Slot) (H : Heap) (locs : List Loc), lv_has ls 2 [(0, .ref (ad g 0)), (1, .int a1)] → wP g wm A s.heap q H locs → W p l e (rmD 1) s m args below meth c H locs 0 0 Q (F0 m 0 ls []) := by
  obtain ⟨hx, hb, hml, hown, hts, hK, hN⟩ := id hC
  refine miter_ind (fun q r hf k1 k2 => ?_)
  obtain ⟨μ, rfl⟩ : ∃ z, z = q := ⟨_, rfl⟩
  intro ls H locs hl hW
  have h : md_closesSums_b0 μ a1 = some r := hf
  unfold md_closesSums_b0 at h
  refine lv_aload_n hx hb dX12_closesSums_0 rfl (lv_at hl 0 rfl) ?_
  obtain ⟨x1, hx1, h⟩ := mbv_some h
  refine kr_ci hC hW (kr_runV hC hW hl.1 (t_md_top hx1) cw_X12_261 (wm_0 g μ) rfl rfl rfl (Nat.le_of_ble_eq_true rfl) dX12_closesSums_1 (by decide)) (fun H locs hW => ?_)
  refine lv_iconst (v := 4) hx hb dX12_closesSums_4 (by decide) ?_
  refine lv_icmp_lt (tgt := 17) hx hb dX12_closesSums_5 (by decide) (fun hc2 => ?_) (fun hc2 => ?_)
  · replace h := if_p hc2 h
    exact tj_md_closesSums_17 a1 hC k1 k2 kx0 (lv_sub hl [0, 1] rfl) hW h
  · replace h := if_n hc2 h
    refine lv_aload_n hx hb dX12_closesSums_8 rfl (lv_at hl 0 rfl) ?_
    obtain ⟨x16, hx16, h⟩ := mbv_some h
    refine kr_ci hC hW (kr_runV hC hW hl.1 (t_md_top hx16) cw_X12_261 (wm_0 g μ) rfl rfl rfl (Nat.le_of_ble_eq_true rfl) dX12_closesSums_9 (by decide)) (fun H locs hW => ?_)
    refine lv_bipush (v := 6) hx hb dX12_closesSums_12 (by decide) ?_
    refine lv_icmp_le (tgt := 37) hx hb dX12_closesSums_14 (by decide) (fun hc17 => ?_) (fun hc17 => ?_)
    · replace h := if_p hc17 h
      refine lv_aload_n hx hb dX12_closesSums_37 rfl (lv_at hl 0 rfl) ?_
      refine lv_aload_n hx hb dX12_closesSums_38 rfl (lv_at hl 0 rfl) ?_
      obtain ⟨x18, hx18, h⟩ := mbv_some h
      refine kr_ci hC hW (kr_runV hC hW hl.1 (t_md_top hx18) cw_X12_261 (wm_0 g μ) rfl rfl rfl (Nat.le_of_ble_eq_true rfl) dX12_closesSums_39 (by decide)) (fun H locs hW => ?_)
      refine lv_iconst (v := 0) hx hb dX12_closesSums_42 (by decide) ?_
      obtain ⟨μ20, hxμ20, h⟩ := mbv_some h
      refine kr_cv hC hW (kr_runV hC hW hl.1 (t_md_says hxμ20) cw_X12_264 (wm_0 g μ) rfl rfl rfl (Nat.le_of_ble_eq_true rfl) dX12_closesSums_43 (by decide)) (fun H locs hW => ?_)
      refine lv_aload_n hx hb dX12_closesSums_46 rfl (lv_at hl 0 rfl) ?_
      refine lv_aload_n hx hb dX12_closesSums_47 rfl (lv_at hl 0 rfl) ?_
      refine gf_X12_258_m0 hC hW dX12_closesSums_48 ?_
      refine lv_iconst (v := 1) hx hb dX12_closesSums_51 (by decide) ?_
      refine lv_isub hx hb dX12_closesSums_52 ?_
      obtain ⟨μ21, eμ21, h⟩ := mst_some h
      refine pf_X12_258_m0 hC hW eμ21 dX12_closesSums_53 (fun H locs hW => ?_)
      refine lv_goto (tgt := 0) hx hb dX12_closesSums_56 (by decide) ?_
      exact k1 μ21 (Option.some.inj h).symm _ _ _ (lv_sub hl [0, 1] rfl) hW
    · replace h := if_n hc17 h
      exact tj_md_closesSums_17 a1 hC k1 k2 kx0 (lv_sub hl [0, 1] rfl) hW h
set_option maxHeartbeats 4000000 in
set_option maxRecDepth 100000 in
theorem t_md_closesSums {l : Launch} {g : Gx} {A : Nat → Prop} {μ : Mm} {a1 : Int32} {u : Mm} (h : md_closesSums μ a1 = some u) : Ctv l g A wm yX12_closesSums cX12_closesSums 2 none 1 [.ref (ad g 0), .int a1] μ u := by
  refine ent (lv := [(0, .ref (ad g 0)), (1, .int a1)]) (by decide) (Nat.le_of_ble_eq_true rfl) rfl ?_
  intro p e s m args below meth c hC hr hlocks hnm hW ls hl
  replace hC : Cx g RX12 cX12_closesSums 2 p s m args c := hC
  obtain ⟨hx, hb, hml, hown, hts, hK, hN⟩ := id hC
  unfold md_closesSums at h
  obtain ⟨μ22, he23, h⟩ := mbv_some h
  refine tl_md_closesSums_0 a1 hC (fun ls H locs hl hW => ?_) FU μ he23 _ _ _ (lv_sub hl [0, 1] rfl) hW
  cases h
  exact kr_vret hC hr hlocks hW dX12_closesSums_59
set_option maxHeartbeats 4000000 in
set_option maxRecDepth 100000 in
theorem tl_md_readsFactor_0 (hC : Cx g RX12 cX12_readsFactor 2 p s m args c) {e0 : (Mm) ⊕ (Mm)} (kx0 : (Sum.elim (fun a => ∀ (ls : Array Slot) (H : Heap) (locs : List Loc), lv_has ls 2 [] → wP g wm A s.heap a H locs → W p l e (rmD 3) s m args below meth c H locs 0 0 Q (F0 m 18 ls [])) (fun _ => True)) e0) (kx1 : (Sum.elim (fun _ => True) (fun a => ∀ (ls : Array Slot) (H : Heap) (locs : List Loc), lv_has ls 2 [(0, .ref (ad g 0))] → wP g wm A s.heap a H locs → W p l e (rmD 3) s m args below meth c H locs 0 0 Q (F0 m 20 ls []))) e0) : ∀ (n : Nat) (q : Mm), miter (fun q => md_readsFactor_b0 q) n q = some e0 → ∀ (ls : Array Slot) (H : Heap) (locs : List Loc), lv_has ls 2 [(0, .ref (ad g 0))] → wP g wm A s.heap q H locs → W p l e (rmD 3) s m args below meth c H locs 0 0 Q (F0 m 0 ls []) := by
  obtain ⟨hx, hb, hml, hown, hts, hK, hN⟩ := id hC
  refine miter_ind (fun q r hf k1 k2 => ?_)
  obtain ⟨μ, rfl⟩ : ∃ z, z = q := ⟨_, rfl⟩
  intro ls H locs hl hW
  have h : md_readsFactor_b0 μ = some r := hf
  unfold md_readsFactor_b0 at h
  refine lv_aload_n hx hb dX12_readsFactor_0 rfl (lv_at hl 0 rfl) ?_
  obtain ⟨x1, hx1, h⟩ := mbv_some h
  refine kr_ci hC hW (kr_runV hC hW hl.1 (t_md_here hx1) cw_X12_233 (wm_0 g μ) rfl rfl rfl (Nat.le_of_ble_eq_true rfl) dX12_readsFactor_1 (by decide)) (fun H locs hW => ?_)
  refine lv_bipush (v := 91) hx hb dX12_readsFactor_4 (by decide) ?_
  refine lv_icmp_ne (tgt := 20) hx hb dX12_readsFactor_6 (by decide) (fun hc2 => ?_) (fun hc2 => ?_)
  · replace h := if_n hc2 h
    obtain rfl := k2 _ (Option.some.inj h).symm
    exact kx1 _ _ _ (lv_sub hl [0] rfl) hW
  · replace h := if_p hc2 h
    refine lv_aload_n hx hb dX12_readsFactor_9 rfl (lv_at hl 0 rfl) ?_
    refine lv_bipush (v := 14) hx hb dX12_readsFactor_10 (by decide) ?_
    obtain ⟨x3, μ4, hx3, h⟩ := mbm_some h
    refine kr_ci hC hW (kr_runV hC hW hl.1 (t_md_opens hx3) cw_X12_268 (wm_0 g μ) rfl rfl rfl (Nat.le_of_ble_eq_true rfl) dX12_readsFactor_12 (by decide)) (fun H locs hW => ?_)
    refine lv_if_ne (tgt := 0) hx hb dX12_readsFactor_15 (by decide) (fun hc5 => ?_) (fun hc5 => ?_)
    · replace h := if_n hc5 h
      exact k1 μ4 (Option.some.inj h).symm _ _ _ (lv_sub hl [0] rfl) hW
    · replace h := if_p hc5 h
      obtain rfl := k2 _ (Option.some.inj h).symm
      exact kx0 _ _ _ (lv_sub hl [] rfl) hW
set_option maxHeartbeats 4000000 in
set_option maxRecDepth 100000 in
theorem t_md_readsFactor {l : Launch} {g : Gx} {A : Nat → Prop} {μ : Mm} {v : Bool} {u : Mm} (h : md_readsFactor μ = some (v, u)) : Cti l g A wm yX12_readsFactor cX12_readsFactor 2 (some .boolean) 3 [.ref (ad g 0)] μ (bI v) u := by
  refine ent (lv := [(0, .ref (ad g 0))]) (by decide) (Nat.le_of_ble_eq_true rfl) rfl ?_
  intro p e s m args below meth c hC hr hlocks hnm hW ls hl
  replace hC : Cx g RX12 cX12_readsFactor 2 p s m args c := hC
  obtain ⟨hx, hb, hml, hown, hts, hK, hN⟩ := id hC
  unfold md_readsFactor at h
  rcases msum2_ex h with ⟨μ7, he6, h⟩ | ⟨μ8, he6, h⟩
  · refine tl_md_readsFactor_0 hC (e0 := (.inl μ7)) (fun ls H locs hl hW => ?_) trivial FU μ he6 _ _ _ (lv_sub hl [0] rfl) hW
    refine lv_iconst (v := 0) hx hb dX12_readsFactor_18 (by decide) ?_
    cases h
    exact kr_zret hC hr hlocks _ rfl hW dX12_readsFactor_19
  · refine tl_md_readsFactor_0 hC (e0 := (.inr μ8)) trivial (fun ls H locs hl hW => ?_) FU μ he6 _ _ _ (lv_sub hl [0] rfl) hW
    refine lv_aload_n hx hb dX12_readsFactor_20 rfl (lv_at hl 0 rfl) ?_
    obtain ⟨x9, hx9, h⟩ := mbv_some h
    refine kr_ci hC hW (kr_runV hC hW hl.1 (t_md_isDigit hx9) cw_X12_247 (wm_0 g μ8) rfl rfl rfl (Nat.le_of_ble_eq_true rfl) dX12_readsFactor_21 (by decide)) (fun H locs hW => ?_)
    refine lv_if_eq (tgt := 47) hx hb dX12_readsFactor_24 (by decide) (fun hc10 => ?_) (fun hc10 => ?_)
    · replace h := if_p hc10 h
      refine lv_aload_n hx hb dX12_readsFactor_47 rfl (lv_at hl 0 rfl) ?_
      obtain ⟨x11, hx11, h⟩ := mbv_some h
      refine kr_ci hC hW (kr_runV hC hW hl.1 (t_md_here hx11) cw_X12_233 (wm_0 g μ8) rfl rfl rfl (Nat.le_of_ble_eq_true rfl) dX12_readsFactor_48 (by decide)) (fun H locs hW => ?_)
      obtain ⟨x12, hx12, h⟩ := mbv_some h
      refine kr_ci hC hW (kr_runS hC hW hl.1 (t_md_factOf hx12) cw_X12_274 rfl rfl (Nat.le_of_ble_eq_true rfl) dX12_readsFactor_51 (by decide)) (fun H locs hW => ?_)
      refine lv_istore_n (lv' := [(1, .int x12), (0, .ref (ad g 0))]) hx hb dX12_readsFactor_54 rfl hl (by decide) rfl (fun ls hl => ?_)
      refine lv_iload_n hx hb dX12_readsFactor_55 rfl (lv_at hl 0 rfl) ?_
      refine lv_iconst (v := (-1)) hx hb dX12_readsFactor_56 (by decide) ?_
      refine lv_icmp_ne (tgt := 70) hx hb dX12_readsFactor_57 (by decide) (fun hc13 => ?_) (fun hc13 => ?_)
      · replace h := if_n hc13 h
        refine lv_aload_n hx hb dX12_readsFactor_70 rfl (lv_at hl 1 rfl) ?_
        refine lv_iconst (v := 1) hx hb dX12_readsFactor_71 (by decide) ?_
        refine lv_iload_n hx hb dX12_readsFactor_72 rfl (lv_at hl 0 rfl) ?_
        obtain ⟨μ15, hxμ15, h⟩ := mbv_some h
        refine kr_cv hC hW (kr_runV hC hW hl.1 (t_md_says hxμ15) cw_X12_264 (wm_0 g μ8) rfl rfl rfl (Nat.le_of_ble_eq_true rfl) dX12_readsFactor_73 (by decide)) (fun H locs hW => ?_)
        refine lv_aload_n hx hb dX12_readsFactor_76 rfl (lv_at hl 1 rfl) ?_
        refine lv_aload_n hx hb dX12_readsFactor_77 rfl (lv_at hl 1 rfl) ?_
        refine gf_X12_227_m0 hC hW dX12_readsFactor_78 ?_
        refine lv_iconst (v := 1) hx hb dX12_readsFactor_81 (by decide) ?_
        refine lv_iadd hx hb dX12_readsFactor_82 ?_
        obtain ⟨μ16, eμ16, h⟩ := mst_some h
        refine pf_X12_227_m0 hC hW eμ16 dX12_readsFactor_83 (fun H locs hW => ?_)
        refine lv_iconst (v := 1) hx hb dX12_readsFactor_86 (by decide) ?_
        cases h
        exact kr_zret hC hr hlocks _ rfl hW dX12_readsFactor_87
      · replace h := if_p hc13 h
        refine lv_aload_n hx hb dX12_readsFactor_60 rfl (lv_at hl 1 rfl) ?_
        refine lv_iconst (v := 1) hx hb dX12_readsFactor_61 (by decide) ?_
        refine lv_aload_n hx hb dX12_readsFactor_62 rfl (lv_at hl 1 rfl) ?_
        refine gf_X12_227_m0 hC hW dX12_readsFactor_63 ?_
        obtain ⟨x17, μ18, hx17, h⟩ := mbm_some h
        refine kr_ci hC hW (kr_runV hC hW hl.1 (t_md_wrong hx17) cw_X12_240 (wm_0 g μ8) rfl rfl rfl (Nat.le_of_ble_eq_true rfl) dX12_readsFactor_66 (by decide)) (fun H locs hW => ?_)
        cases h
        exact kr_zret hC hr hlocks _ rfl hW dX12_readsFactor_69
    · replace h := if_n hc10 h
      refine lv_aload_n hx hb dX12_readsFactor_27 rfl (lv_at hl 0 rfl) ?_
      obtain ⟨x19, μ20, hx19, h⟩ := mbm_some h
      refine kr_ci hC hW (kr_runV hC hW hl.1 (t_md_readsNumber hx19) cw_X12_271 (wm_0 g μ8) rfl rfl rfl (Nat.le_of_ble_eq_true rfl) dX12_readsFactor_28 (by decide)) (fun H locs hW => ?_)
      refine lv_if_ne (tgt := 36) hx hb dX12_readsFactor_31 (by decide) (fun hc21 => ?_) (fun hc21 => ?_)
      · replace h := if_n hc21 h
        refine lv_aload_n hx hb dX12_readsFactor_36 rfl (lv_at hl 0 rfl) ?_
        refine lv_iconst (v := 0) hx hb dX12_readsFactor_37 (by decide) ?_
        refine lv_aload_n hx hb dX12_readsFactor_38 rfl (lv_at hl 0 rfl) ?_
        refine gf_X12_244_m0 hC hW dX12_readsFactor_39 ?_
        obtain ⟨μ23, hxμ23, h⟩ := mbv_some h
        refine kr_cv hC hW (kr_runV hC hW hl.1 (t_md_says hxμ23) cw_X12_264 (wm_0 g μ20) rfl rfl rfl (Nat.le_of_ble_eq_true rfl) dX12_readsFactor_42 (by decide)) (fun H locs hW => ?_)
        refine lv_iconst (v := 1) hx hb dX12_readsFactor_45 (by decide) ?_
        cases h
        exact kr_zret hC hr hlocks _ rfl hW dX12_readsFactor_46
      · replace h := if_p hc21 h
        refine lv_iconst (v := 0) hx hb dX12_readsFactor_34 (by decide) ?_
        cases h
        exact kr_zret hC hr hlocks _ rfl hW dX12_readsFactor_35
set_option maxHeartbeats 4000000 in
set_option maxRecDepth 100000 in
theorem tl_md_hasOpenSum_2 (μ : Mm) (hC : Cx g RX12 cX12_hasOpenSum 3 p s m args c) {e0 : (Unit) ⊕ (Unit)} (kx0 : (Sum.elim (fun a => ∀ (ls : Array Slot) (H : Heap) (locs : List Loc), lv_has ls 3 [] → wP g wm A s.heap μ H locs → W p l e (rmD 0) s m args below meth c H locs 0 0 Q (F0 m 24 ls [])) (fun _ => True)) e0) (kx1 : (Sum.elim (fun _ => True) (fun a => ∀ (ls : Array Slot) (H : Heap) (locs : List Loc), lv_has ls 3 [] → wP g wm A s.heap μ H locs → W p l e (rmD 0) s m args below meth c H locs 0 0 Q (F0 m 32 ls []))) e0) : ∀ (n : Nat) (q : Int32), miter (fun q => md_hasOpenSum_b2 μ q) n q = some e0 → ∀ (ls : Array Slot) (H : Heap) (locs : List Loc), lv_has ls 3 [(0, .ref (ad g 0)), (2, .int q)] → wP g wm A s.heap μ H locs → W p l e (rmD 0) s m args below meth c H locs 0 0 Q (F0 m 2 ls []) := by
  obtain ⟨hx, hb, hml, hown, hts, hK, hN⟩ := id hC
  refine miter_ind (fun q r hf k1 k2 => ?_)
  obtain ⟨xs2, rfl⟩ : ∃ z, z = q := ⟨_, rfl⟩
  intro ls H locs hl hW
  have h : md_hasOpenSum_b2 μ xs2 = some r := hf
  unfold md_hasOpenSum_b2 at h
  refine lv_iload_n hx hb dX12_hasOpenSum_2 rfl (lv_at hl 1 rfl) ?_
  refine lv_aload_n hx hb dX12_hasOpenSum_3 rfl (lv_at hl 0 rfl) ?_
  refine gf_X12_258_m0 hC hW dX12_hasOpenSum_4 ?_
  refine lv_icmp_ge (tgt := 32) hx hb dX12_hasOpenSum_7 (by decide) (fun hc1 => ?_) (fun hc1 => ?_)
  · replace h := if_p hc1 h
    obtain rfl := k2 _ (Option.some.inj h).symm
    exact kx1 _ _ _ (lv_sub hl [] rfl) hW
  · replace h := if_n hc1 h
    refine lv_aload_n hx hb dX12_hasOpenSum_10 rfl (lv_at hl 0 rfl) ?_
    refine gf_X12_105_m0 hC hW dX12_hasOpenSum_11 ?_
    refine lv_iload_n hx hb dX12_hasOpenSum_14 rfl (lv_at hl 1 rfl) ?_
    obtain ⟨x2, ex2, hin, h⟩ := mrd_ex h
    refine kr_iald hC hW (wm_32 g μ) hin ex2 dX12_hasOpenSum_15 ?_
    refine lv_ldc hx hb hown (hts _ tw_1487) dX12_hasOpenSum_16 ?_
    refine lv_idiv hx hb dX12_hasOpenSum_18 (by decide) ?_
    refine lv_bipush (v := 14) hx hb dX12_hasOpenSum_19 (by decide) ?_
    refine lv_icmp_ne (tgt := 26) hx hb dX12_hasOpenSum_21 (by decide) (fun hc3 => ?_) (fun hc3 => ?_)
    · replace h := if_n hc3 h
      refine lv_iinc (v := (xs2 + 1)) (lv' := [(2, .int (xs2 + 1)), (0, .ref (ad g 0))]) hx hb dX12_hasOpenSum_26 hl (k := 1) rfl (by rw [oi_1]) (by decide) rfl (fun ls hl => ?_)
      refine lv_goto (tgt := 2) hx hb dX12_hasOpenSum_29 (by decide) ?_
      exact k1 (xs2 + 1) (Option.some.inj h).symm _ _ _ (lv_sub hl [1, 0] rfl) hW
    · replace h := if_p hc3 h
      obtain rfl := k2 _ (Option.some.inj h).symm
      exact kx0 _ _ _ (lv_sub hl [] rfl) hW
set_option maxHeartbeats 4000000 in
set_option maxRecDepth 100000 in
theorem t_md_hasOpenSum {l : Launch} {g : Gx} {A : Nat → Prop} {μ : Mm} {a1 : Int32} {v : Bool} (h : md_hasOpenSum μ a1 = some v) : Cti l g A wm yX12_hasOpenSum cX12_hasOpenSum 3 (some .boolean) 0 [.ref (ad g 0), .int a1] μ (bI v) μ := by
  refine ent (lv := [(0, .ref (ad g 0)), (1, .int a1)]) (by decide) (Nat.le_of_ble_eq_true rfl) rfl ?_
  intro p e s m args below meth c hC hr hlocks hnm hW ls hl
  replace hC : Cx g RX12 cX12_hasOpenSum 3 p s m args c := hC
  obtain ⟨hx, hb, hml, hown, hts, hK, hN⟩ := id hC
  unfold md_hasOpenSum at h
  refine lv_iload_n hx hb dX12_hasOpenSum_0 rfl (lv_at hl 1 rfl) ?_
  refine lv_istore_n (lv' := [(2, .int a1), (0, .ref (ad g 0)), (1, .int a1)]) hx hb dX12_hasOpenSum_1 rfl hl (by decide) rfl (fun ls hl => ?_)
  rcases msum2_ex h with ⟨e0, he4, h⟩ | ⟨e0, he4, h⟩
  · refine tl_md_hasOpenSum_2 μ hC (e0 := (.inl ())) (fun ls H locs hl hW => ?_) trivial FU a1 he4 _ _ _ (lv_sub hl [1, 0] rfl) hW
    refine lv_iconst (v := 1) hx hb dX12_hasOpenSum_24 (by decide) ?_
    cases h
    exact kr_zret hC hr hlocks _ rfl hW dX12_hasOpenSum_25
  · refine tl_md_hasOpenSum_2 μ hC (e0 := (.inr ())) trivial (fun ls H locs hl hW => ?_) FU a1 he4 _ _ _ (lv_sub hl [1, 0] rfl) hW
    refine lv_iconst (v := 0) hx hb dX12_hasOpenSum_32 (by decide) ?_
    cases h
    exact kr_zret hC hr hlocks _ rfl hW dX12_hasOpenSum_33
set_option maxHeartbeats 4000000 in
set_option maxRecDepth 100000 in
theorem tj_md_readsSum_38 {μ : Mm} (a1 : Int32) (a2 : Int32) (y1 : Int32) (hC : Cx g RX12 cX12_readsSum 3 p s m args c) {e0 : (Mm) ⊕ (Mm)} {r : (Mm) ⊕ ((Mm) ⊕ (Mm))} (k1 : ∀ q, r = .inl q → ∀ (ls : Array Slot) (H : Heap) (locs : List Loc), lv_has ls 3 [(0, .ref (ad g 0)), (1, .int a1)] → wP g wm A s.heap q H locs → W p l e (rmD 4) s m args below meth c H locs 0 0 Q (F0 m 14 ls [])) (k2 : ∀ e', r = .inr e' → e' = e0) (kx0 : (Sum.elim (fun a => ∀ (ls : Array Slot) (H : Heap) (locs : List Loc), lv_has ls 3 [] → wP g wm A s.heap a H locs → W p l e (rmD 4) s m args below meth c H locs 0 0 Q (F0 m 81 ls [])) (fun _ => True)) e0) (kx1 : (Sum.elim (fun _ => True) (fun a => ∀ (ls : Array Slot) (H : Heap) (locs : List Loc), lv_has ls 3 [(0, .ref (ad g 0)), (1, .int a1)] → wP g wm A s.heap a H locs → W p l e (rmD 4) s m args below meth c H locs 0 0 Q (F0 m 138 ls []))) e0)  (hl : lv_has ls 3 [(0, .ref (ad g 0)), (1, .int a1), (2, .int a2)]) (hW : wP g wm A s.heap μ H locs) (h : md_readsSum_j38 μ a1 a2 y1 = some r) : W p l e (rmD 4) s m args below meth c H locs 0 0 Q (F0 m 38 ls [.int y1, .ref (ad g 0)]) := by
  obtain ⟨hx, hb, hml, hown, hts, hK, hN⟩ := id hC
  unfold md_readsSum_j38 at h
  obtain ⟨μ18, hxμ18, h⟩ := mbv_some h
  refine kr_cv hC hW (kr_runV hC hW hl.1 (t_md_closesSums hxμ18) cw_X12_283 (wm_0 g μ) rfl rfl rfl (Nat.le_of_ble_eq_true rfl) dX12_readsSum_38 (by decide)) (fun H locs hW => ?_)
  refine lv_aload_n hx hb dX12_readsSum_41 rfl (lv_at hl 0 rfl) ?_
  refine gf_X12_105_m0 hC hW dX12_readsSum_42 ?_
  refine lv_aload_n hx hb dX12_readsSum_45 rfl (lv_at hl 0 rfl) ?_
  refine gf_X12_258_m0 hC hW dX12_readsSum_46 ?_
  refine lv_ldc hx hb hown (hts _ tw_1487) dX12_readsSum_49 ?_
  refine lv_iload_n hx hb dX12_readsSum_51 rfl (lv_at hl 2 rfl) ?_
  refine lv_imul hx hb dX12_readsSum_52 ?_
  obtain ⟨μ19, eμ19, hin, h⟩ := mwr_ex h
  refine kr_iast hC hW (wm_32 g μ18) (wms_32 eμ19) hin dX12_readsSum_53 (fun H locs hW => ?_)
  refine lv_aload_n hx hb dX12_readsSum_54 rfl (lv_at hl 0 rfl) ?_
  refine lv_aload_n hx hb dX12_readsSum_55 rfl (lv_at hl 0 rfl) ?_
  refine gf_X12_258_m0 hC hW dX12_readsSum_56 ?_
  refine lv_iconst (v := 1) hx hb dX12_readsSum_59 (by decide) ?_
  refine lv_iadd hx hb dX12_readsSum_60 ?_
  obtain ⟨μ20, eμ20, h⟩ := mst_some h
  refine pf_X12_258_m0 hC hW eμ20 dX12_readsSum_61 (fun H locs hW => ?_)
  refine lv_aload_n hx hb dX12_readsSum_64 rfl (lv_at hl 0 rfl) ?_
  refine lv_aload_n hx hb dX12_readsSum_65 rfl (lv_at hl 0 rfl) ?_
  refine gf_X12_227_m0 hC hW dX12_readsSum_66 ?_
  refine lv_iconst (v := 1) hx hb dX12_readsSum_69 (by decide) ?_
  refine lv_iadd hx hb dX12_readsSum_70 ?_
  obtain ⟨μ21, eμ21, h⟩ := mst_some h
  refine pf_X12_227_m0 hC hW eμ21 dX12_readsSum_71 (fun H locs hW => ?_)
  refine lv_aload_n hx hb dX12_readsSum_74 rfl (lv_at hl 0 rfl) ?_
  obtain ⟨x22, μ23, hx22, h⟩ := mbm_some h
  refine kr_ci hC hW (kr_runV hC hW hl.1 (t_md_readsFactor hx22) cw_X12_277 (wm_0 g μ21) rfl rfl rfl (Nat.le_of_ble_eq_true rfl) dX12_readsSum_75 (by decide)) (fun H locs hW => ?_)
  refine lv_if_ne (tgt := 163) hx hb dX12_readsSum_78 (by decide) (fun hc24 => ?_) (fun hc24 => ?_)
  · replace h := if_n hc24 h
    refine lv_goto (tgt := 14) hx hb dX12_readsSum_163 (by decide) ?_
    exact k1 μ23 (Option.some.inj h).symm _ _ _ (lv_sub hl [0, 1] rfl) hW
  · replace h := if_p hc24 h
    obtain rfl := k2 _ (Option.some.inj h).symm
    exact kx0 _ _ _ (lv_sub hl [] rfl) hW
set_option maxHeartbeats 4000000 in
set_option maxRecDepth 100000 in
theorem tl_md_readsSum_14 (a1 : Int32) (hC : Cx g RX12 cX12_readsSum 3 p s m args c) {e0 : (Mm) ⊕ (Mm)} (kx0 : (Sum.elim (fun a => ∀ (ls : Array Slot) (H : Heap) (locs : List Loc), lv_has ls 3 [] → wP g wm A s.heap a H locs → W p l e (rmD 4) s m args below meth c H locs 0 0 Q (F0 m 81 ls [])) (fun _ => True)) e0) (kx1 : (Sum.elim (fun _ => True) (fun a => ∀ (ls : Array Slot) (H : Heap) (locs : List Loc), lv_has ls 3 [(0, .ref (ad g 0)), (1, .int a1)] → wP g wm A s.heap a H locs → W p l e (rmD 4) s m args below meth c H locs 0 0 Q (F0 m 138 ls []))) e0) : ∀ (n : Nat) (q : Mm), miter (fun q => md_readsSum_b14 q a1) n q = some e0 → ∀ (ls : Array Slot) (H : Heap) (locs : List Loc), lv_has ls 3 [(0, .ref (ad g 0)), (1, .int a1)] → wP g wm A s.heap q H locs → W p l e (rmD 4) s m args below meth c H locs 0 0 Q (F0 m 14 ls []) := by
  obtain ⟨hx, hb, hml, hown, hts, hK, hN⟩ := id hC
  refine miter_ind (fun q r hf k1 k2 => ?_)
  obtain ⟨μ, rfl⟩ : ∃ z, z = q := ⟨_, rfl⟩
  intro ls H locs hl hW
  have h : md_readsSum_b14 μ a1 = some r := hf
  unfold md_readsSum_b14 at h
  refine lv_aload_n hx hb dX12_readsSum_14 rfl (lv_at hl 0 rfl) ?_
  obtain ⟨x4, hx4, h⟩ := mbv_some h
  refine kr_ci hC hW (kr_runV hC hW hl.1 (t_md_here hx4) cw_X12_233 (wm_0 g μ) rfl rfl rfl (Nat.le_of_ble_eq_true rfl) dX12_readsSum_15 (by decide)) (fun H locs hW => ?_)
  obtain ⟨x5, hx5, h⟩ := mbv_some h
  refine kr_ci hC hW (kr_runS hC hW hl.1 (t_md_sumSign hx5) cw_X12_280 rfl rfl (Nat.le_of_ble_eq_true rfl) dX12_readsSum_18 (by decide)) (fun H locs hW => ?_)
  refine lv_istore_n (lv' := [(2, .int x5), (0, .ref (ad g 0)), (1, .int a1)]) hx hb dX12_readsSum_21 rfl hl (by decide) rfl (fun ls hl => ?_)
  refine lv_iload_n hx hb dX12_readsSum_22 rfl (lv_at hl 0 rfl) ?_
  refine lv_iconst (v := (-1)) hx hb dX12_readsSum_23 (by decide) ?_
  refine lv_icmp_eq (tgt := 83) hx hb dX12_readsSum_24 (by decide) (fun hc6 => ?_) (fun hc6 => ?_)
  · replace h := if_p hc6 h
    refine lv_aload_n hx hb dX12_readsSum_83 rfl (lv_at hl 1 rfl) ?_
    obtain ⟨x7, hx7, h⟩ := mbv_some h
    refine kr_ci hC hW (kr_runV hC hW hl.1 (t_md_here hx7) cw_X12_233 (wm_0 g μ) rfl rfl rfl (Nat.le_of_ble_eq_true rfl) dX12_readsSum_84 (by decide)) (fun H locs hW => ?_)
    refine lv_bipush (v := 93) hx hb dX12_readsSum_87 (by decide) ?_
    refine lv_icmp_ne (tgt := 138) hx hb dX12_readsSum_89 (by decide) (fun hc8 => ?_) (fun hc8 => ?_)
    · replace h := if_n hc8 h
      obtain rfl := k2 _ (Option.some.inj h).symm
      exact kx1 _ _ _ (lv_sub hl [1, 2] rfl) hW
    · replace h := if_p hc8 h
      refine lv_aload_n hx hb dX12_readsSum_92 rfl (lv_at hl 1 rfl) ?_
      refine lv_iload_n hx hb dX12_readsSum_93 rfl (lv_at hl 2 rfl) ?_
      obtain ⟨x9, hx9, h⟩ := mbv_some h
      refine kr_ci hC hW (kr_runV hC hW hl.1 (t_md_hasOpenSum hx9) cw_X12_287 (wm_0 g μ) rfl rfl rfl (Nat.le_of_ble_eq_true rfl) dX12_readsSum_94 (by decide)) (fun H locs hW => ?_)
      refine lv_if_eq (tgt := 138) hx hb dX12_readsSum_97 (by decide) (fun hc10 => ?_) (fun hc10 => ?_)
      · replace h := if_p hc10 h
        obtain rfl := k2 _ (Option.some.inj h).symm
        exact kx1 _ _ _ (lv_sub hl [1, 2] rfl) hW
      · replace h := if_n hc10 h
        refine lv_aload_n hx hb dX12_readsSum_100 rfl (lv_at hl 1 rfl) ?_
        refine lv_iconst (v := 1) hx hb dX12_readsSum_101 (by decide) ?_
        obtain ⟨μ12, hxμ12, h⟩ := mbv_some h
        refine kr_cv hC hW (kr_runV hC hW hl.1 (t_md_closesSums hxμ12) cw_X12_283 (wm_0 g μ) rfl rfl rfl (Nat.le_of_ble_eq_true rfl) dX12_readsSum_102 (by decide)) (fun H locs hW => ?_)
        refine lv_aload_n hx hb dX12_readsSum_105 rfl (lv_at hl 1 rfl) ?_
        refine lv_aload_n hx hb dX12_readsSum_106 rfl (lv_at hl 1 rfl) ?_
        refine gf_X12_258_m0 hC hW dX12_readsSum_107 ?_
        refine lv_iconst (v := 1) hx hb dX12_readsSum_110 (by decide) ?_
        refine lv_isub hx hb dX12_readsSum_111 ?_
        obtain ⟨μ13, eμ13, h⟩ := mst_some h
        refine pf_X12_258_m0 hC hW eμ13 dX12_readsSum_112 (fun H locs hW => ?_)
        refine lv_aload_n hx hb dX12_readsSum_115 rfl (lv_at hl 1 rfl) ?_
        refine lv_aload_n hx hb dX12_readsSum_116 rfl (lv_at hl 1 rfl) ?_
        refine gf_X12_255_m0 hC hW dX12_readsSum_117 ?_
        refine lv_iconst (v := 1) hx hb dX12_readsSum_120 (by decide) ?_
        refine lv_isub hx hb dX12_readsSum_121 ?_
        obtain ⟨μ14, eμ14, h⟩ := mst_some h
        refine pf_X12_255_m0 hC hW eμ14 dX12_readsSum_122 (fun H locs hW => ?_)
        refine lv_aload_n hx hb dX12_readsSum_125 rfl (lv_at hl 1 rfl) ?_
        refine lv_aload_n hx hb dX12_readsSum_126 rfl (lv_at hl 1 rfl) ?_
        refine gf_X12_227_m0 hC hW dX12_readsSum_127 ?_
        refine lv_iconst (v := 1) hx hb dX12_readsSum_130 (by decide) ?_
        refine lv_iadd hx hb dX12_readsSum_131 ?_
        obtain ⟨μ15, eμ15, h⟩ := mst_some h
        refine pf_X12_227_m0 hC hW eμ15 dX12_readsSum_132 (fun H locs hW => ?_)
        refine lv_goto (tgt := 163) hx hb dX12_readsSum_135 (by decide) ?_
        refine lv_goto (tgt := 14) hx hb dX12_readsSum_163 (by decide) ?_
        exact k1 μ15 (Option.some.inj h).symm _ _ _ (lv_sub hl [1, 2] rfl) hW
  · replace h := if_n hc6 h
    refine lv_aload_n hx hb dX12_readsSum_27 rfl (lv_at hl 1 rfl) ?_
    refine lv_iload_n hx hb dX12_readsSum_28 rfl (lv_at hl 0 rfl) ?_
    refine lv_iconst (v := 4) hx hb dX12_readsSum_29 (by decide) ?_
    refine lv_icmp_ge (tgt := 37) hx hb dX12_readsSum_30 (by decide) (fun hc16 => ?_) (fun hc16 => ?_)
    · replace h := if_p hc16 h
      refine lv_iconst (v := 0) hx hb dX12_readsSum_37 (by decide) ?_
      exact tj_md_readsSum_38 a1 x5 0 hC k1 k2 kx0 kx1 (lv_sub hl [1, 2, 0] rfl) hW h
    · replace h := if_n hc16 h
      refine lv_iconst (v := 1) hx hb dX12_readsSum_33 (by decide) ?_
      refine lv_goto (tgt := 38) hx hb dX12_readsSum_34 (by decide) ?_
      exact tj_md_readsSum_38 a1 x5 1 hC k1 k2 kx0 kx1 (lv_sub hl [1, 2, 0] rfl) hW h
set_option maxHeartbeats 4000000 in
set_option maxRecDepth 100000 in
theorem tj_md_readsSum_138 {μ : Mm} (a1 : Int32) (hC : Cx g RX12 cX12_readsSum 3 p s m args c) (hr : meth.sig.returnType = some .boolean) (hlocks : meth.locks = false) {v : Bool} {u : Mm} (hl : lv_has ls 3 [(0, .ref (ad g 0)), (1, .int a1)]) (hW : wP g wm A s.heap μ H locs) (h : md_readsSum_j138 μ a1 = some (v, u)) : W p l e (rmD 4) s m args below meth c H locs 0 0 (MQ below (Qi g A wm (bI v) u) args s 0 0 A) (F0 m 138 ls []) := by
  obtain ⟨hx, hb, hml, hown, hts, hK, hN⟩ := id hC
  unfold md_readsSum_j138 at h
  refine lv_aload_n hx hb dX12_readsSum_138 rfl (lv_at hl 0 rfl) ?_
  refine lv_iload_n hx hb dX12_readsSum_139 rfl (lv_at hl 1 rfl) ?_
  obtain ⟨x28, hx28, h⟩ := mbv_some h
  refine kr_ci hC hW (kr_runV hC hW hl.1 (t_md_hasOpenSum hx28) cw_X12_287 (wm_0 g μ) rfl rfl rfl (Nat.le_of_ble_eq_true rfl) dX12_readsSum_140 (by decide)) (fun H locs hW => ?_)
  refine lv_if_eq (tgt := 156) hx hb dX12_readsSum_143 (by decide) (fun hc29 => ?_) (fun hc29 => ?_)
  · replace h := if_p hc29 h
    refine lv_aload_n hx hb dX12_readsSum_156 rfl (lv_at hl 0 rfl) ?_
    refine lv_iconst (v := 1) hx hb dX12_readsSum_157 (by decide) ?_
    obtain ⟨μ31, hxμ31, h⟩ := mbv_some h
    refine kr_cv hC hW (kr_runV hC hW hl.1 (t_md_closesSums hxμ31) cw_X12_283 (wm_0 g μ) rfl rfl rfl (Nat.le_of_ble_eq_true rfl) dX12_readsSum_158 (by decide)) (fun H locs hW => ?_)
    refine lv_iconst (v := 1) hx hb dX12_readsSum_161 (by decide) ?_
    cases h
    exact kr_zret hC hr hlocks _ rfl hW dX12_readsSum_162
  · replace h := if_n hc29 h
    refine lv_aload_n hx hb dX12_readsSum_146 rfl (lv_at hl 0 rfl) ?_
    refine lv_iconst (v := 1) hx hb dX12_readsSum_147 (by decide) ?_
    refine lv_aload_n hx hb dX12_readsSum_148 rfl (lv_at hl 0 rfl) ?_
    refine gf_X12_227_m0 hC hW dX12_readsSum_149 ?_
    obtain ⟨x32, μ33, hx32, h⟩ := mbm_some h
    refine kr_ci hC hW (kr_runV hC hW hl.1 (t_md_wrong hx32) cw_X12_240 (wm_0 g μ) rfl rfl rfl (Nat.le_of_ble_eq_true rfl) dX12_readsSum_152 (by decide)) (fun H locs hW => ?_)
    cases h
    exact kr_zret hC hr hlocks _ rfl hW dX12_readsSum_155
set_option maxHeartbeats 4000000 in
set_option maxRecDepth 100000 in
theorem t_md_readsSum {l : Launch} {g : Gx} {A : Nat → Prop} {μ : Mm} {v : Bool} {u : Mm} (h : md_readsSum μ = some (v, u)) : Cti l g A wm yX12_readsSum cX12_readsSum 3 (some .boolean) 4 [.ref (ad g 0)] μ (bI v) u := by
  refine ent (lv := [(0, .ref (ad g 0))]) (by decide) (Nat.le_of_ble_eq_true rfl) rfl ?_
  intro p e s m args below meth c hC hr hlocks hnm hW ls hl
  replace hC : Cx g RX12 cX12_readsSum 3 p s m args c := hC
  obtain ⟨hx, hb, hml, hown, hts, hK, hN⟩ := id hC
  unfold md_readsSum at h
  refine lv_aload_n hx hb dX12_readsSum_0 rfl (lv_at hl 0 rfl) ?_
  refine gf_X12_258_m0 hC hW dX12_readsSum_1 ?_
  refine lv_istore_n (lv' := [(1, .int (μ 0 44)), (0, .ref (ad g 0))]) hx hb dX12_readsSum_4 rfl hl (by decide) rfl (fun ls hl => ?_)
  refine lv_aload_n hx hb dX12_readsSum_5 rfl (lv_at hl 1 rfl) ?_
  obtain ⟨x1, μ2, hx1, h⟩ := mbm_some h
  refine kr_ci hC hW (kr_runV hC hW hl.1 (t_md_readsFactor hx1) cw_X12_277 (wm_0 g μ) rfl rfl rfl (Nat.le_of_ble_eq_true rfl) dX12_readsSum_6 (by decide)) (fun H locs hW => ?_)
  refine lv_if_ne (tgt := 14) hx hb dX12_readsSum_9 (by decide) (fun hc3 => ?_) (fun hc3 => ?_)
  · replace h := if_n hc3 h
    rcases msum2_ex h with ⟨μ26, he25, h⟩ | ⟨μ27, he25, h⟩
    · refine tl_md_readsSum_14 (μ 0 44) hC (e0 := (.inl μ26)) (fun ls H locs hl hW => ?_) trivial FU μ2 he25 _ _ _ (lv_sub hl [1, 0] rfl) hW
      refine lv_iconst (v := 0) hx hb dX12_readsSum_81 (by decide) ?_
      cases h
      exact kr_zret hC hr hlocks _ rfl hW dX12_readsSum_82
    · refine tl_md_readsSum_14 (μ 0 44) hC (e0 := (.inr μ27)) trivial (fun ls H locs hl hW => ?_) FU μ2 he25 _ _ _ (lv_sub hl [1, 0] rfl) hW
      exact tj_md_readsSum_138 (μ 0 44) hC hr hlocks (lv_sub hl [0, 1] rfl) hW h
  · replace h := if_p hc3 h
    refine lv_iconst (v := 0) hx hb dX12_readsSum_12 (by decide) ?_
    cases h
    exact kr_zret hC hr hlocks _ rfl hW dX12_readsSum_13
set_option maxHeartbeats 4000000 in
set_option maxRecDepth 100000 in
theorem tl_md_endsPiece_0 (hC : Cx g RX12 cX12_endsPiece 1 p s m args c) {e0 : (Mm)} (kx0 : ∀ (ls : Array Slot) (H : Heap) (locs : List Loc), lv_has ls 1 [] → wP g wm A s.heap e0 H locs → W p l e (rmD 1) s m args below meth c H locs 0 0 Q (F0 m 39 ls [])) : ∀ (n : Nat) (q : Mm), miter (fun q => md_endsPiece_b0 q) n q = some e0 → ∀ (ls : Array Slot) (H : Heap) (locs : List Loc), lv_has ls 1 [(0, .ref (ad g 0))] → wP g wm A s.heap q H locs → W p l e (rmD 1) s m args below meth c H locs 0 0 Q (F0 m 0 ls []) := by
  obtain ⟨hx, hb, hml, hown, hts, hK, hN⟩ := id hC
  refine miter_ind (fun q r hf k1 k2 => ?_)
  obtain ⟨μ, rfl⟩ : ∃ z, z = q := ⟨_, rfl⟩
  intro ls H locs hl hW
  have h : md_endsPiece_b0 μ = some r := hf
  unfold md_endsPiece_b0 at h
  refine lv_aload_n hx hb dX12_endsPiece_0 rfl (lv_at hl 0 rfl) ?_
  obtain ⟨x1, hx1, h⟩ := mbv_some h
  refine kr_ci hC hW (kr_runV hC hW hl.1 (t_md_top hx1) cw_X12_261 (wm_0 g μ) rfl rfl rfl (Nat.le_of_ble_eq_true rfl) dX12_endsPiece_1 (by decide)) (fun H locs hW => ?_)
  refine lv_bipush (v := 10) hx hb dX12_endsPiece_4 (by decide) ?_
  refine lv_icmp_ne (tgt := 39) hx hb dX12_endsPiece_6 (by decide) (fun hc2 => ?_) (fun hc2 => ?_)
  · replace h := if_n hc2 h
    obtain rfl := k2 _ (Option.some.inj h).symm
    exact kx0 _ _ _ (lv_sub hl [] rfl) hW
  · replace h := if_p hc2 h
    refine lv_aload_n hx hb dX12_endsPiece_9 rfl (lv_at hl 0 rfl) ?_
    refine lv_bipush (v := 10) hx hb dX12_endsPiece_10 (by decide) ?_
    refine lv_iconst (v := 0) hx hb dX12_endsPiece_12 (by decide) ?_
    obtain ⟨μ4, hxμ4, h⟩ := mbv_some h
    refine kr_cv hC hW (kr_runV hC hW hl.1 (t_md_says hxμ4) cw_X12_264 (wm_0 g μ) rfl rfl rfl (Nat.le_of_ble_eq_true rfl) dX12_endsPiece_13 (by decide)) (fun H locs hW => ?_)
    refine lv_aload_n hx hb dX12_endsPiece_16 rfl (lv_at hl 0 rfl) ?_
    refine lv_aload_n hx hb dX12_endsPiece_17 rfl (lv_at hl 0 rfl) ?_
    refine gf_X12_258_m0 hC hW dX12_endsPiece_18 ?_
    refine lv_iconst (v := 1) hx hb dX12_endsPiece_21 (by decide) ?_
    refine lv_isub hx hb dX12_endsPiece_22 ?_
    obtain ⟨μ5, eμ5, h⟩ := mst_some h
    refine pf_X12_258_m0 hC hW eμ5 dX12_endsPiece_23 (fun H locs hW => ?_)
    refine lv_aload_n hx hb dX12_endsPiece_26 rfl (lv_at hl 0 rfl) ?_
    refine lv_aload_n hx hb dX12_endsPiece_27 rfl (lv_at hl 0 rfl) ?_
    refine gf_X12_255_m0 hC hW dX12_endsPiece_28 ?_
    refine lv_iconst (v := 1) hx hb dX12_endsPiece_31 (by decide) ?_
    refine lv_isub hx hb dX12_endsPiece_32 ?_
    obtain ⟨μ6, eμ6, h⟩ := mst_some h
    refine pf_X12_255_m0 hC hW eμ6 dX12_endsPiece_33 (fun H locs hW => ?_)
    refine lv_goto (tgt := 0) hx hb dX12_endsPiece_36 (by decide) ?_
    exact k1 μ6 (Option.some.inj h).symm _ _ _ (lv_sub hl [0] rfl) hW
set_option maxHeartbeats 4000000 in
set_option maxRecDepth 100000 in
theorem t_md_endsPiece {l : Launch} {g : Gx} {A : Nat → Prop} {μ : Mm} {u : Mm} (h : md_endsPiece μ = some u) : Ctv l g A wm yX12_endsPiece cX12_endsPiece 1 none 1 [.ref (ad g 0)] μ u := by
  refine ent (lv := [(0, .ref (ad g 0))]) (by decide) (Nat.le_of_ble_eq_true rfl) rfl ?_
  intro p e s m args below meth c hC hr hlocks hnm hW ls hl
  replace hC : Cx g RX12 cX12_endsPiece 1 p s m args c := hC
  obtain ⟨hx, hb, hml, hown, hts, hK, hN⟩ := id hC
  unfold md_endsPiece at h
  obtain ⟨μ7, he8, h⟩ := mbv_some h
  refine tl_md_endsPiece_0 hC (fun ls H locs hl hW => ?_) FU μ he8 _ _ _ (lv_sub hl [0] rfl) hW
  cases h
  exact kr_vret hC hr hlocks hW dX12_endsPiece_39
set_option maxHeartbeats 4000000 in
set_option maxRecDepth 100000 in
theorem tj_md_lands_22 {μ : Mm} (a1 : Int32) (hC : Cx g RX12 cX12_lands 3 p s m args c) {e0 : (Mm)} {r : (Mm) ⊕ (Mm)} (k1 : ∀ q, r = .inl q → ∀ (ls : Array Slot) (H : Heap) (locs : List Loc), lv_has ls 3 [(0, .ref (ad g 0)), (1, .int a1)] → wP g wm A s.heap q H locs → W p l e (rmD 1) s m args below meth c H locs 0 0 Q (F0 m 0 ls [])) (k2 : ∀ e', r = .inr e' → e' = e0) (kx0 : ∀ (ls : Array Slot) (H : Heap) (locs : List Loc), lv_has ls 3 [] → wP g wm A s.heap e0 H locs → W p l e (rmD 1) s m args below meth c H locs 0 0 Q (F0 m 73 ls []))  (hl : lv_has ls 3 [(0, .ref (ad g 0)), (1, .int a1)]) (hW : wP g wm A s.heap μ H locs) (h : md_lands_j22 μ a1 = some r) : W p l e (rmD 1) s m args below meth c H locs 0 0 Q (F0 m 22 ls []) := by
  obtain ⟨hx, hb, hml, hown, hts, hK, hN⟩ := id hC
  unfold md_lands_j22 at h
  refine lv_aload_n hx hb dX12_lands_22 rfl (lv_at hl 0 rfl) ?_
  refine gf_X12_105_m0 hC hW dX12_lands_23 ?_
  refine lv_aload_n hx hb dX12_lands_26 rfl (lv_at hl 0 rfl) ?_
  refine gf_X12_258_m0 hC hW dX12_lands_27 ?_
  refine lv_iconst (v := 1) hx hb dX12_lands_30 (by decide) ?_
  refine lv_isub hx hb dX12_lands_31 ?_
  obtain ⟨x3, ex3, hin, h⟩ := mrd_ex h
  refine kr_iald hC hW (wm_32 g μ) hin ex3 dX12_lands_32 ?_
  refine lv_ldc hx hb hown (hts _ tw_1487) dX12_lands_33 ?_
  refine lv_irem hx hb dX12_lands_35 (by decide) ?_
  refine lv_istore_n (lv' := [(2, .int (x3 - x3 / 1048576 * 1048576)), (0, .ref (ad g 0)), (1, .int a1)]) hx hb dX12_lands_36 rfl hl (by decide) rfl (fun ls hl => ?_)
  refine lv_aload_n hx hb dX12_lands_37 rfl (lv_at hl 1 rfl) ?_
  refine gf_X12_102_m0 hC hW dX12_lands_38 ?_
  refine lv_iload_n hx hb dX12_lands_41 rfl (lv_at hl 0 rfl) ?_
  refine lv_ldc hx hb hown (hts _ tw_1487) dX12_lands_42 ?_
  refine lv_aload_n hx hb dX12_lands_44 rfl (lv_at hl 1 rfl) ?_
  refine gf_X12_102_m0 hC hW dX12_lands_45 ?_
  refine lv_iload_n hx hb dX12_lands_48 rfl (lv_at hl 0 rfl) ?_
  obtain ⟨x4, ex4, hin, h⟩ := mrd_ex h
  refine kr_iald hC hW (wm_31 g μ) hin ex4 dX12_lands_49 ?_
  refine lv_ldc hx hb hown (hts _ tw_1487) dX12_lands_50 ?_
  refine lv_idiv hx hb dX12_lands_52 (by decide) ?_
  refine lv_imul hx hb dX12_lands_53 ?_
  refine lv_aload_n hx hb dX12_lands_54 rfl (lv_at hl 1 rfl) ?_
  refine gf_X12_251_m0 hC hW dX12_lands_55 ?_
  refine lv_iadd hx hb dX12_lands_58 ?_
  obtain ⟨μ5, eμ5, hin, h⟩ := mwr_ex h
  refine kr_iast hC hW (wm_31 g μ) (wms_31 eμ5) hin dX12_lands_59 (fun H locs hW => ?_)
  refine lv_aload_n hx hb dX12_lands_60 rfl (lv_at hl 1 rfl) ?_
  refine lv_aload_n hx hb dX12_lands_61 rfl (lv_at hl 1 rfl) ?_
  refine gf_X12_258_m0 hC hW dX12_lands_62 ?_
  refine lv_iconst (v := 1) hx hb dX12_lands_65 (by decide) ?_
  refine lv_isub hx hb dX12_lands_66 ?_
  obtain ⟨μ6, eμ6, h⟩ := mst_some h
  refine pf_X12_258_m0 hC hW eμ6 dX12_lands_67 (fun H locs hW => ?_)
  refine lv_goto (tgt := 0) hx hb dX12_lands_70 (by decide) ?_
  exact k1 μ6 (Option.some.inj h).symm _ _ _ (lv_sub hl [1, 2] rfl) hW
set_option maxHeartbeats 4000000 in
set_option maxRecDepth 100000 in
theorem tl_md_lands_0 (a1 : Int32) (hC : Cx g RX12 cX12_lands 3 p s m args c) {e0 : (Mm)} (kx0 : ∀ (ls : Array Slot) (H : Heap) (locs : List Loc), lv_has ls 3 [] → wP g wm A s.heap e0 H locs → W p l e (rmD 1) s m args below meth c H locs 0 0 Q (F0 m 73 ls [])) : ∀ (n : Nat) (q : Mm), miter (fun q => md_lands_b0 q a1) n q = some e0 → ∀ (ls : Array Slot) (H : Heap) (locs : List Loc), lv_has ls 3 [(0, .ref (ad g 0)), (1, .int a1)] → wP g wm A s.heap q H locs → W p l e (rmD 1) s m args below meth c H locs 0 0 Q (F0 m 0 ls []) := by
  obtain ⟨hx, hb, hml, hown, hts, hK, hN⟩ := id hC
  refine miter_ind (fun q r hf k1 k2 => ?_)
  obtain ⟨μ, rfl⟩ : ∃ z, z = q := ⟨_, rfl⟩
  intro ls H locs hl hW
  have h : md_lands_b0 μ a1 = some r := hf
  unfold md_lands_b0 at h
  refine lv_aload_n hx hb dX12_lands_0 rfl (lv_at hl 0 rfl) ?_
  obtain ⟨x1, hx1, h⟩ := mbv_some h
  refine kr_ci hC hW (kr_runV hC hW hl.1 (t_md_top hx1) cw_X12_261 (wm_0 g μ) rfl rfl rfl (Nat.le_of_ble_eq_true rfl) dX12_lands_1 (by decide)) (fun H locs hW => ?_)
  refine lv_bipush (v := 11) hx hb dX12_lands_4 (by decide) ?_
  refine lv_icmp_eq (tgt := 22) hx hb dX12_lands_6 (by decide) (fun hc2 => ?_) (fun hc2 => ?_)
  · replace h := if_p hc2 h
    exact tj_md_lands_22 a1 hC k1 k2 kx0 (lv_sub hl [0, 1] rfl) hW h
  · replace h := if_n hc2 h
    refine lv_iload_n hx hb dX12_lands_9 rfl (lv_at hl 1 rfl) ?_
    refine lv_if_eq (tgt := 73) hx hb dX12_lands_10 (by decide) (fun hc7 => ?_) (fun hc7 => ?_)
    · replace h := if_p hc7 h
      obtain rfl := k2 _ (Option.some.inj h).symm
      exact kx0 _ _ _ (lv_sub hl [] rfl) hW
    · replace h := if_n hc7 h
      refine lv_aload_n hx hb dX12_lands_13 rfl (lv_at hl 0 rfl) ?_
      obtain ⟨x8, hx8, h⟩ := mbv_some h
      refine kr_ci hC hW (kr_runV hC hW hl.1 (t_md_top hx8) cw_X12_261 (wm_0 g μ) rfl rfl rfl (Nat.le_of_ble_eq_true rfl) dX12_lands_14 (by decide)) (fun H locs hW => ?_)
      refine lv_bipush (v := 12) hx hb dX12_lands_17 (by decide) ?_
      refine lv_icmp_ne (tgt := 73) hx hb dX12_lands_19 (by decide) (fun hc9 => ?_) (fun hc9 => ?_)
      · replace h := if_n hc9 h
        obtain rfl := k2 _ (Option.some.inj h).symm
        exact kx0 _ _ _ (lv_sub hl [] rfl) hW
      · replace h := if_p hc9 h
        exact tj_md_lands_22 a1 hC k1 k2 kx0 (lv_sub hl [0, 1] rfl) hW h
set_option maxHeartbeats 4000000 in
set_option maxRecDepth 100000 in
theorem t_md_lands {l : Launch} {g : Gx} {A : Nat → Prop} {μ : Mm} {a1 : Int32} {u : Mm} (h : md_lands μ a1 = some u) : Ctv l g A wm yX12_lands cX12_lands 3 none 1 [.ref (ad g 0), .int a1] μ u := by
  refine ent (lv := [(0, .ref (ad g 0)), (1, .int a1)]) (by decide) (Nat.le_of_ble_eq_true rfl) rfl ?_
  intro p e s m args below meth c hC hr hlocks hnm hW ls hl
  replace hC : Cx g RX12 cX12_lands 3 p s m args c := hC
  obtain ⟨hx, hb, hml, hown, hts, hK, hN⟩ := id hC
  unfold md_lands at h
  obtain ⟨μ10, he11, h⟩ := mbv_some h
  refine tl_md_lands_0 a1 hC (fun ls H locs hl hW => ?_) FU μ he11 _ _ _ (lv_sub hl [0, 1] rfl) hW
  cases h
  exact kr_vret hC hr hlocks hW dX12_lands_73
set_option maxHeartbeats 4000000 in
set_option maxRecDepth 100000 in
theorem t_md_jumps {l : Launch} {g : Gx} {A : Nat → Prop} {μ : Mm} {a1 : Int32} {u : Mm} (h : md_jumps μ a1 = some u) : Ctv l g A wm yX12_jumps cX12_jumps 2 none 1 [.ref (ad g 0), .int a1] μ u := by
  refine ent (lv := [(0, .ref (ad g 0)), (1, .int a1)]) (by decide) (Nat.le_of_ble_eq_true rfl) rfl ?_
  intro p e s m args below meth c hC hr hlocks hnm hW ls hl
  replace hC : Cx g RX12 cX12_jumps 2 p s m args c := hC
  obtain ⟨hx, hb, hml, hown, hts, hK, hN⟩ := id hC
  unfold md_jumps at h
  refine lv_aload_n hx hb dX12_jumps_0 rfl (lv_at hl 0 rfl) ?_
  refine gf_X12_105_m0 hC hW dX12_jumps_1 ?_
  refine lv_aload_n hx hb dX12_jumps_4 rfl (lv_at hl 0 rfl) ?_
  refine gf_X12_258_m0 hC hW dX12_jumps_5 ?_
  refine lv_ldc hx hb hown (hts _ tw_1487) dX12_jumps_8 ?_
  refine lv_iload_n hx hb dX12_jumps_10 rfl (lv_at hl 1 rfl) ?_
  refine lv_imul hx hb dX12_jumps_11 ?_
  refine lv_aload_n hx hb dX12_jumps_12 rfl (lv_at hl 0 rfl) ?_
  refine gf_X12_251_m0 hC hW dX12_jumps_13 ?_
  refine lv_iadd hx hb dX12_jumps_16 ?_
  obtain ⟨μ1, eμ1, hin, h⟩ := mwr_ex h
  refine kr_iast hC hW (wm_32 g μ) (wms_32 eμ1) hin dX12_jumps_17 (fun H locs hW => ?_)
  refine lv_aload_n hx hb dX12_jumps_18 rfl (lv_at hl 0 rfl) ?_
  refine lv_aload_n hx hb dX12_jumps_19 rfl (lv_at hl 0 rfl) ?_
  refine gf_X12_258_m0 hC hW dX12_jumps_20 ?_
  refine lv_iconst (v := 1) hx hb dX12_jumps_23 (by decide) ?_
  refine lv_iadd hx hb dX12_jumps_24 ?_
  obtain ⟨μ2, eμ2, h⟩ := mst_some h
  refine pf_X12_258_m0 hC hW eμ2 dX12_jumps_25 (fun H locs hW => ?_)
  refine lv_aload_n hx hb dX12_jumps_28 rfl (lv_at hl 0 rfl) ?_
  refine lv_iload_n hx hb dX12_jumps_29 rfl (lv_at hl 1 rfl) ?_
  refine lv_iconst (v := 0) hx hb dX12_jumps_30 (by decide) ?_
  obtain ⟨μ4, hxμ4, h⟩ := mbv_some h
  refine kr_cv hC hW (kr_runV hC hW hl.1 (t_md_says hxμ4) cw_X12_264 (wm_0 g μ2) rfl rfl rfl (Nat.le_of_ble_eq_true rfl) dX12_jumps_31 (by decide)) (fun H locs hW => ?_)
  refine lv_aload_n hx hb dX12_jumps_34 rfl (lv_at hl 0 rfl) ?_
  refine lv_aload_n hx hb dX12_jumps_35 rfl (lv_at hl 0 rfl) ?_
  refine gf_X12_227_m0 hC hW dX12_jumps_36 ?_
  refine lv_iconst (v := 1) hx hb dX12_jumps_39 (by decide) ?_
  refine lv_iadd hx hb dX12_jumps_40 ?_
  obtain ⟨μ5, eμ5, h⟩ := mst_some h
  refine pf_X12_227_m0 hC hW eμ5 dX12_jumps_41 (fun H locs hW => ?_)
  cases h
  exact kr_vret hC hr hlocks hW dX12_jumps_44
set_option maxHeartbeats 4000000 in
set_option maxRecDepth 100000 in
theorem tj_md_readsCompared_52 {μ : Mm} (y0 : Int32) (hC : Cx g RX12 cX12_readsCompared 2 p s m args c) (hr : meth.sig.returnType = some .boolean) (hlocks : meth.locks = false) {v : Bool} {u : Mm} (hl : lv_has ls 2 [(0, .ref (ad g 0))]) (hW : wP g wm A s.heap μ H locs) (h : md_readsCompared_j52 μ y0 = some (v, u)) : W p l e (rmD 5) s m args below meth c H locs 0 0 (MQ below (Qi g A wm (bI v) u) args s 0 0 A) (F0 m 52 ls [.int y0]) := by
  obtain ⟨hx, hb, hml, hown, hts, hK, hN⟩ := id hC
  unfold md_readsCompared_j52 at h
  refine lv_istore_n (lv' := [(1, .int y0), (0, .ref (ad g 0))]) hx hb dX12_readsCompared_52 rfl hl (by decide) rfl (fun ls hl => ?_)
  refine lv_iload_n hx hb dX12_readsCompared_53 rfl (lv_at hl 0 rfl) ?_
  refine lv_iconst (v := (-1)) hx hb dX12_readsCompared_54 (by decide) ?_
  refine lv_icmp_ne (tgt := 68) hx hb dX12_readsCompared_55 (by decide) (fun hc10 => ?_) (fun hc10 => ?_)
  · replace h := if_n hc10 h
    refine lv_aload_n hx hb dX12_readsCompared_68 rfl (lv_at hl 1 rfl) ?_
    refine lv_aload_n hx hb dX12_readsCompared_69 rfl (lv_at hl 1 rfl) ?_
    refine gf_X12_227_m0 hC hW dX12_readsCompared_70 ?_
    refine lv_iconst (v := 1) hx hb dX12_readsCompared_73 (by decide) ?_
    refine lv_iadd hx hb dX12_readsCompared_74 ?_
    obtain ⟨μ11, eμ11, h⟩ := mst_some h
    refine pf_X12_227_m0 hC hW eμ11 dX12_readsCompared_75 (fun H locs hW => ?_)
    refine lv_aload_n hx hb dX12_readsCompared_78 rfl (lv_at hl 1 rfl) ?_
    obtain ⟨x12, μ13, hx12, h⟩ := mbm_some h
    refine kr_ci hC hW (kr_runV hC hW hl.1 (t_md_readsSum hx12) cw_X12_290 (wm_0 g μ11) rfl rfl rfl (Nat.le_of_ble_eq_true rfl) dX12_readsCompared_79 (by decide)) (fun H locs hW => ?_)
    refine lv_if_ne (tgt := 87) hx hb dX12_readsCompared_82 (by decide) (fun hc14 => ?_) (fun hc14 => ?_)
    · replace h := if_n hc14 h
      refine lv_aload_n hx hb dX12_readsCompared_87 rfl (lv_at hl 1 rfl) ?_
      refine lv_iload_n hx hb dX12_readsCompared_88 rfl (lv_at hl 0 rfl) ?_
      refine lv_iconst (v := 0) hx hb dX12_readsCompared_89 (by decide) ?_
      obtain ⟨μ16, hxμ16, h⟩ := mbv_some h
      refine kr_cv hC hW (kr_runV hC hW hl.1 (t_md_says hxμ16) cw_X12_264 (wm_0 g μ13) rfl rfl rfl (Nat.le_of_ble_eq_true rfl) dX12_readsCompared_90 (by decide)) (fun H locs hW => ?_)
      refine lv_aload_n hx hb dX12_readsCompared_93 rfl (lv_at hl 1 rfl) ?_
      obtain ⟨μ18, hxμ18, h⟩ := mbv_some h
      refine kr_cv hC hW (kr_runV hC hW hl.1 (t_md_endsPiece hxμ18) cw_X12_293 (wm_0 g μ16) rfl rfl rfl (Nat.le_of_ble_eq_true rfl) dX12_readsCompared_94 (by decide)) (fun H locs hW => ?_)
      refine lv_iconst (v := 1) hx hb dX12_readsCompared_97 (by decide) ?_
      cases h
      exact kr_zret hC hr hlocks _ rfl hW dX12_readsCompared_98
    · replace h := if_p hc14 h
      refine lv_iconst (v := 0) hx hb dX12_readsCompared_85 (by decide) ?_
      cases h
      exact kr_zret hC hr hlocks _ rfl hW dX12_readsCompared_86
  · replace h := if_p hc10 h
    refine lv_aload_n hx hb dX12_readsCompared_58 rfl (lv_at hl 1 rfl) ?_
    refine lv_iconst (v := 1) hx hb dX12_readsCompared_59 (by decide) ?_
    refine lv_aload_n hx hb dX12_readsCompared_60 rfl (lv_at hl 1 rfl) ?_
    refine gf_X12_227_m0 hC hW dX12_readsCompared_61 ?_
    obtain ⟨x19, μ20, hx19, h⟩ := mbm_some h
    refine kr_ci hC hW (kr_runV hC hW hl.1 (t_md_wrong hx19) cw_X12_240 (wm_0 g μ) rfl rfl rfl (Nat.le_of_ble_eq_true rfl) dX12_readsCompared_64 (by decide)) (fun H locs hW => ?_)
    cases h
    exact kr_zret hC hr hlocks _ rfl hW dX12_readsCompared_67
set_option maxHeartbeats 4000000 in
set_option maxRecDepth 100000 in
theorem t_md_readsCompared {l : Launch} {g : Gx} {A : Nat → Prop} {μ : Mm} {v : Bool} {u : Mm} (h : md_readsCompared μ = some (v, u)) : Cti l g A wm yX12_readsCompared cX12_readsCompared 2 (some .boolean) 5 [.ref (ad g 0)] μ (bI v) u := by
  refine ent (lv := [(0, .ref (ad g 0))]) (by decide) (Nat.le_of_ble_eq_true rfl) rfl ?_
  intro p e s m args below meth c hC hr hlocks hnm hW ls hl
  replace hC : Cx g RX12 cX12_readsCompared 2 p s m args c := hC
  obtain ⟨hx, hb, hml, hown, hts, hK, hN⟩ := id hC
  unfold md_readsCompared at h
  refine lv_aload_n hx hb dX12_readsCompared_0 rfl (lv_at hl 0 rfl) ?_
  obtain ⟨x1, μ2, hx1, h⟩ := mbm_some h
  refine kr_ci hC hW (kr_runV hC hW hl.1 (t_md_readsSum hx1) cw_X12_290 (wm_0 g μ) rfl rfl rfl (Nat.le_of_ble_eq_true rfl) dX12_readsCompared_1 (by decide)) (fun H locs hW => ?_)
  refine lv_if_ne (tgt := 9) hx hb dX12_readsCompared_4 (by decide) (fun hc3 => ?_) (fun hc3 => ?_)
  · replace h := if_n hc3 h
    refine lv_aload_n hx hb dX12_readsCompared_9 rfl (lv_at hl 0 rfl) ?_
    obtain ⟨x4, hx4, h⟩ := mbv_some h
    refine kr_ci hC hW (kr_runV hC hW hl.1 (t_md_here hx4) cw_X12_233 (wm_0 g μ2) rfl rfl rfl (Nat.le_of_ble_eq_true rfl) dX12_readsCompared_10 (by decide)) (fun H locs hW => ?_)
    refine lv_bipush (v := 60) hx hb dX12_readsCompared_13 (by decide) ?_
    refine lv_icmp_ne (tgt := 23) hx hb dX12_readsCompared_15 (by decide) (fun hc5 => ?_) (fun hc5 => ?_)
    · replace h := if_n hc5 h
      refine lv_aload_n hx hb dX12_readsCompared_23 rfl (lv_at hl 0 rfl) ?_
      obtain ⟨x6, hx6, h⟩ := mbv_some h
      refine kr_ci hC hW (kr_runV hC hW hl.1 (t_md_here hx6) cw_X12_233 (wm_0 g μ2) rfl rfl rfl (Nat.le_of_ble_eq_true rfl) dX12_readsCompared_24 (by decide)) (fun H locs hW => ?_)
      refine lv_bipush (v := 62) hx hb dX12_readsCompared_27 (by decide) ?_
      refine lv_icmp_ne (tgt := 37) hx hb dX12_readsCompared_29 (by decide) (fun hc7 => ?_) (fun hc7 => ?_)
      · replace h := if_n hc7 h
        refine lv_aload_n hx hb dX12_readsCompared_37 rfl (lv_at hl 0 rfl) ?_
        obtain ⟨x8, hx8, h⟩ := mbv_some h
        refine kr_ci hC hW (kr_runV hC hW hl.1 (t_md_here hx8) cw_X12_233 (wm_0 g μ2) rfl rfl rfl (Nat.le_of_ble_eq_true rfl) dX12_readsCompared_38 (by decide)) (fun H locs hW => ?_)
        refine lv_bipush (v := 61) hx hb dX12_readsCompared_41 (by decide) ?_
        refine lv_icmp_ne (tgt := 51) hx hb dX12_readsCompared_43 (by decide) (fun hc9 => ?_) (fun hc9 => ?_)
        · replace h := if_n hc9 h
          refine lv_iconst (v := (-1)) hx hb dX12_readsCompared_51 (by decide) ?_
          exact tj_md_readsCompared_52 (-1) hC hr hlocks (lv_sub hl [0] rfl) hW h
        · replace h := if_p hc9 h
          refine lv_bipush (v := 9) hx hb dX12_readsCompared_46 (by decide) ?_
          refine lv_goto (tgt := 52) hx hb dX12_readsCompared_48 (by decide) ?_
          exact tj_md_readsCompared_52 9 hC hr hlocks (lv_sub hl [0] rfl) hW h
      · replace h := if_p hc7 h
        refine lv_bipush (v := 8) hx hb dX12_readsCompared_32 (by decide) ?_
        refine lv_goto (tgt := 52) hx hb dX12_readsCompared_34 (by decide) ?_
        exact tj_md_readsCompared_52 8 hC hr hlocks (lv_sub hl [0] rfl) hW h
    · replace h := if_p hc5 h
      refine lv_bipush (v := 7) hx hb dX12_readsCompared_18 (by decide) ?_
      refine lv_goto (tgt := 52) hx hb dX12_readsCompared_20 (by decide) ?_
      exact tj_md_readsCompared_52 7 hC hr hlocks (lv_sub hl [0] rfl) hW h
  · replace h := if_p hc3 h
    refine lv_iconst (v := 0) hx hb dX12_readsCompared_7 (by decide) ?_
    cases h
    exact kr_zret hC hr hlocks _ rfl hW dX12_readsCompared_8
set_option maxHeartbeats 4000000 in
set_option maxRecDepth 100000 in
theorem tl_md_readsCondition_92 (hC : Cx g RX12 cX12_readsCondition 1 p s m args c) {e0 : (Mm) ⊕ (Mm)} (kx0 : (Sum.elim (fun a => ∀ (ls : Array Slot) (H : Heap) (locs : List Loc), lv_has ls 1 [] → wP g wm A s.heap a H locs → W p l e (rmD 6) s m args below meth c H locs 0 0 Q (F0 m 143 ls [])) (fun _ => True)) e0) (kx1 : (Sum.elim (fun _ => True) (fun a => ∀ (ls : Array Slot) (H : Heap) (locs : List Loc), lv_has ls 1 [(0, .ref (ad g 0))] → wP g wm A s.heap a H locs → W p l e (rmD 6) s m args below meth c H locs 0 0 Q (F0 m 152 ls []))) e0) : ∀ (n : Nat) (q : Mm), miter (fun q => md_readsCondition_b92 q) n q = some e0 → ∀ (ls : Array Slot) (H : Heap) (locs : List Loc), lv_has ls 1 [(0, .ref (ad g 0))] → wP g wm A s.heap q H locs → W p l e (rmD 6) s m args below meth c H locs 0 0 Q (F0 m 92 ls []) := by
  obtain ⟨hx, hb, hml, hown, hts, hK, hN⟩ := id hC
  refine miter_ind (fun q r hf k1 k2 => ?_)
  obtain ⟨μ, rfl⟩ : ∃ z, z = q := ⟨_, rfl⟩
  intro ls H locs hl hW
  have h : md_readsCondition_b92 μ = some r := hf
  unfold md_readsCondition_b92 at h
  refine lv_aload_n hx hb dX12_readsCondition_92 rfl (lv_at hl 0 rfl) ?_
  obtain ⟨x23, hx23, h⟩ := mbv_some h
  refine kr_ci hC hW (kr_runV hC hW hl.1 (t_md_here hx23) cw_X12_233 (wm_0 g μ) rfl rfl rfl (Nat.le_of_ble_eq_true rfl) dX12_readsCondition_93 (by decide)) (fun H locs hW => ?_)
  refine lv_bipush (v := 41) hx hb dX12_readsCondition_96 (by decide) ?_
  refine lv_icmp_ne (tgt := 152) hx hb dX12_readsCondition_98 (by decide) (fun hc24 => ?_) (fun hc24 => ?_)
  · replace h := if_n hc24 h
    obtain rfl := k2 _ (Option.some.inj h).symm
    exact kx1 _ _ _ (lv_sub hl [0] rfl) hW
  · replace h := if_p hc24 h
    refine lv_aload_n hx hb dX12_readsCondition_101 rfl (lv_at hl 0 rfl) ?_
    refine lv_iconst (v := 1) hx hb dX12_readsCondition_102 (by decide) ?_
    obtain ⟨μ26, hxμ26, h⟩ := mbv_some h
    refine kr_cv hC hW (kr_runV hC hW hl.1 (t_md_lands hxμ26) cw_X12_299 (wm_0 g μ) rfl rfl rfl (Nat.le_of_ble_eq_true rfl) dX12_readsCondition_103 (by decide)) (fun H locs hW => ?_)
    refine lv_aload_n hx hb dX12_readsCondition_106 rfl (lv_at hl 0 rfl) ?_
    refine lv_aload_n hx hb dX12_readsCondition_107 rfl (lv_at hl 0 rfl) ?_
    refine gf_X12_258_m0 hC hW dX12_readsCondition_108 ?_
    refine lv_iconst (v := 1) hx hb dX12_readsCondition_111 (by decide) ?_
    refine lv_isub hx hb dX12_readsCondition_112 ?_
    obtain ⟨μ27, eμ27, h⟩ := mst_some h
    refine pf_X12_258_m0 hC hW eμ27 dX12_readsCondition_113 (fun H locs hW => ?_)
    refine lv_aload_n hx hb dX12_readsCondition_116 rfl (lv_at hl 0 rfl) ?_
    refine lv_aload_n hx hb dX12_readsCondition_117 rfl (lv_at hl 0 rfl) ?_
    refine gf_X12_255_m0 hC hW dX12_readsCondition_118 ?_
    refine lv_iconst (v := 1) hx hb dX12_readsCondition_121 (by decide) ?_
    refine lv_isub hx hb dX12_readsCondition_122 ?_
    obtain ⟨μ28, eμ28, h⟩ := mst_some h
    refine pf_X12_255_m0 hC hW eμ28 dX12_readsCondition_123 (fun H locs hW => ?_)
    refine lv_aload_n hx hb dX12_readsCondition_126 rfl (lv_at hl 0 rfl) ?_
    refine lv_aload_n hx hb dX12_readsCondition_127 rfl (lv_at hl 0 rfl) ?_
    refine gf_X12_227_m0 hC hW dX12_readsCondition_128 ?_
    refine lv_iconst (v := 1) hx hb dX12_readsCondition_131 (by decide) ?_
    refine lv_iadd hx hb dX12_readsCondition_132 ?_
    obtain ⟨μ29, eμ29, h⟩ := mst_some h
    refine pf_X12_227_m0 hC hW eμ29 dX12_readsCondition_133 (fun H locs hW => ?_)
    refine lv_aload_n hx hb dX12_readsCondition_136 rfl (lv_at hl 0 rfl) ?_
    refine gf_X12_258_m0 hC hW dX12_readsCondition_137 ?_
    refine lv_if_ne (tgt := 145) hx hb dX12_readsCondition_140 (by decide) (fun hc30 => ?_) (fun hc30 => ?_)
    · replace h := if_n hc30 h
      refine lv_aload_n hx hb dX12_readsCondition_145 rfl (lv_at hl 0 rfl) ?_
      obtain ⟨μ32, hxμ32, h⟩ := mbv_some h
      refine kr_cv hC hW (kr_runV hC hW hl.1 (t_md_endsPiece hxμ32) cw_X12_293 (wm_0 g μ29) rfl rfl rfl (Nat.le_of_ble_eq_true rfl) dX12_readsCondition_146 (by decide)) (fun H locs hW => ?_)
      refine lv_goto (tgt := 92) hx hb dX12_readsCondition_149 (by decide) ?_
      exact k1 μ32 (Option.some.inj h).symm _ _ _ (lv_sub hl [0] rfl) hW
    · replace h := if_p hc30 h
      obtain rfl := k2 _ (Option.some.inj h).symm
      exact kx0 _ _ _ (lv_sub hl [] rfl) hW
set_option maxHeartbeats 4000000 in
set_option maxRecDepth 100000 in
theorem tj_md_readsCondition_180 {μ : Mm} (hC : Cx g RX12 cX12_readsCondition 1 p s m args c) {e0 : (Mm) ⊕ (Mm) ⊕ (Mm) ⊕ (Mm)} {r : (Mm) ⊕ ((Mm) ⊕ (Mm) ⊕ (Mm) ⊕ (Mm))} (k1 : ∀ q, r = .inl q → ∀ (ls : Array Slot) (H : Heap) (locs : List Loc), lv_has ls 1 [(0, .ref (ad g 0))] → wP g wm A s.heap q H locs → W p l e (rmD 6) s m args below meth c H locs 0 0 Q (F0 m 40 ls [])) (k2 : ∀ e', r = .inr e' → e' = e0) (kx0 : (Sum.elim (fun a => ∀ (ls : Array Slot) (H : Heap) (locs : List Loc), lv_has ls 1 [] → wP g wm A s.heap a H locs → W p l e (rmD 6) s m args below meth c H locs 0 0 Q (F0 m 81 ls [])) (fun _ => True)) e0) (kx1 : (Sum.elim (fun _ => True) (Sum.elim (fun a => ∀ (ls : Array Slot) (H : Heap) (locs : List Loc), lv_has ls 1 [] → wP g wm A s.heap a H locs → W p l e (rmD 6) s m args below meth c H locs 0 0 Q (F0 m 90 ls [])) (fun _ => True))) e0) (kx2 : (Sum.elim (fun _ => True) (Sum.elim (fun _ => True) (Sum.elim (fun a => ∀ (ls : Array Slot) (H : Heap) (locs : List Loc), lv_has ls 1 [] → wP g wm A s.heap a H locs → W p l e (rmD 6) s m args below meth c H locs 0 0 Q (F0 m 143 ls [])) (fun _ => True)))) e0) (kx3 : (Sum.elim (fun _ => True) (Sum.elim (fun _ => True) (Sum.elim (fun _ => True) (fun a => ∀ (ls : Array Slot) (H : Heap) (locs : List Loc), lv_has ls 1 [(0, .ref (ad g 0))] → wP g wm A s.heap a H locs → W p l e (rmD 6) s m args below meth c H locs 0 0 Q (F0 m 170 ls []))))) e0)  (hl : lv_has ls 1 [(0, .ref (ad g 0))]) (hW : wP g wm A s.heap μ H locs) (h : md_readsCondition_j180 μ = some r) : W p l e (rmD 6) s m args below meth c H locs 0 0 Q (F0 m 180 ls []) := by
  obtain ⟨hx, hb, hml, hown, hts, hK, hN⟩ := id hC
  unfold md_readsCondition_j180 at h
  refine lv_aload_n hx hb dX12_readsCondition_180 rfl (lv_at hl 0 rfl) ?_
  refine lv_aload_n hx hb dX12_readsCondition_181 rfl (lv_at hl 0 rfl) ?_
  obtain ⟨x38, hx38, h⟩ := mbv_some h
  refine kr_ci hC hW (kr_runV hC hW hl.1 (t_md_here hx38) cw_X12_233 (wm_0 g μ) rfl rfl rfl (Nat.le_of_ble_eq_true rfl) dX12_readsCondition_182 (by decide)) (fun H locs hW => ?_)
  refine lv_bipush (v := 124) hx hb dX12_readsCondition_185 (by decide) ?_
  refine lv_icmp_ne (tgt := 194) hx hb dX12_readsCondition_187 (by decide) (fun hc39 => ?_) (fun hc39 => ?_)
  · replace h := if_n hc39 h
    refine lv_iconst (v := 0) hx hb dX12_readsCondition_194 (by decide) ?_
    obtain ⟨μ41, hxμ41, h⟩ := mbv_some h
    refine kr_cv hC hW (kr_runV hC hW hl.1 (t_md_lands hxμ41) cw_X12_299 (wm_0 g μ) rfl rfl rfl (Nat.le_of_ble_eq_true rfl) dX12_readsCondition_195 (by decide)) (fun H locs hW => ?_)
    refine lv_aload_n hx hb dX12_readsCondition_198 rfl (lv_at hl 0 rfl) ?_
    refine lv_aload_n hx hb dX12_readsCondition_199 rfl (lv_at hl 0 rfl) ?_
    obtain ⟨x42, hx42, h⟩ := mbv_some h
    refine kr_ci hC hW (kr_runV hC hW hl.1 (t_md_here hx42) cw_X12_233 (wm_0 g μ41) rfl rfl rfl (Nat.le_of_ble_eq_true rfl) dX12_readsCondition_200 (by decide)) (fun H locs hW => ?_)
    refine lv_bipush (v := 38) hx hb dX12_readsCondition_203 (by decide) ?_
    refine lv_icmp_ne (tgt := 213) hx hb dX12_readsCondition_205 (by decide) (fun hc43 => ?_) (fun hc43 => ?_)
    · replace h := if_n hc43 h
      refine lv_bipush (v := 12) hx hb dX12_readsCondition_213 (by decide) ?_
      obtain ⟨μ45, hxμ45, h⟩ := mbv_some h
      refine kr_cv hC hW (kr_runV hC hW hl.1 (t_md_jumps hxμ45) cw_X12_302 (wm_0 g μ41) rfl rfl rfl (Nat.le_of_ble_eq_true rfl) dX12_readsCondition_215 (by decide)) (fun H locs hW => ?_)
      refine lv_goto (tgt := 40) hx hb dX12_readsCondition_218 (by decide) ?_
      exact k1 μ45 (Option.some.inj h).symm _ _ _ (lv_sub hl [0] rfl) hW
    · replace h := if_p hc43 h
      refine lv_bipush (v := 11) hx hb dX12_readsCondition_208 (by decide) ?_
      refine lv_goto (tgt := 215) hx hb dX12_readsCondition_210 (by decide) ?_
      obtain ⟨μ47, hxμ47, h⟩ := mbv_some h
      refine kr_cv hC hW (kr_runV hC hW hl.1 (t_md_jumps hxμ47) cw_X12_302 (wm_0 g μ41) rfl rfl rfl (Nat.le_of_ble_eq_true rfl) dX12_readsCondition_215 (by decide)) (fun H locs hW => ?_)
      refine lv_goto (tgt := 40) hx hb dX12_readsCondition_218 (by decide) ?_
      exact k1 μ47 (Option.some.inj h).symm _ _ _ (lv_sub hl [0] rfl) hW
  · replace h := if_p hc39 h
    refine lv_iconst (v := 1) hx hb dX12_readsCondition_190 (by decide) ?_
    refine lv_goto (tgt := 195) hx hb dX12_readsCondition_191 (by decide) ?_
    obtain ⟨μ49, hxμ49, h⟩ := mbv_some h
    refine kr_cv hC hW (kr_runV hC hW hl.1 (t_md_lands hxμ49) cw_X12_299 (wm_0 g μ) rfl rfl rfl (Nat.le_of_ble_eq_true rfl) dX12_readsCondition_195 (by decide)) (fun H locs hW => ?_)
    refine lv_aload_n hx hb dX12_readsCondition_198 rfl (lv_at hl 0 rfl) ?_
    refine lv_aload_n hx hb dX12_readsCondition_199 rfl (lv_at hl 0 rfl) ?_
    obtain ⟨x50, hx50, h⟩ := mbv_some h
    refine kr_ci hC hW (kr_runV hC hW hl.1 (t_md_here hx50) cw_X12_233 (wm_0 g μ49) rfl rfl rfl (Nat.le_of_ble_eq_true rfl) dX12_readsCondition_200 (by decide)) (fun H locs hW => ?_)
    refine lv_bipush (v := 38) hx hb dX12_readsCondition_203 (by decide) ?_
    refine lv_icmp_ne (tgt := 213) hx hb dX12_readsCondition_205 (by decide) (fun hc51 => ?_) (fun hc51 => ?_)
    · replace h := if_n hc51 h
      refine lv_bipush (v := 12) hx hb dX12_readsCondition_213 (by decide) ?_
      obtain ⟨μ53, hxμ53, h⟩ := mbv_some h
      refine kr_cv hC hW (kr_runV hC hW hl.1 (t_md_jumps hxμ53) cw_X12_302 (wm_0 g μ49) rfl rfl rfl (Nat.le_of_ble_eq_true rfl) dX12_readsCondition_215 (by decide)) (fun H locs hW => ?_)
      refine lv_goto (tgt := 40) hx hb dX12_readsCondition_218 (by decide) ?_
      exact k1 μ53 (Option.some.inj h).symm _ _ _ (lv_sub hl [0] rfl) hW
    · replace h := if_p hc51 h
      refine lv_bipush (v := 11) hx hb dX12_readsCondition_208 (by decide) ?_
      refine lv_goto (tgt := 215) hx hb dX12_readsCondition_210 (by decide) ?_
      obtain ⟨μ55, hxμ55, h⟩ := mbv_some h
      refine kr_cv hC hW (kr_runV hC hW hl.1 (t_md_jumps hxμ55) cw_X12_302 (wm_0 g μ49) rfl rfl rfl (Nat.le_of_ble_eq_true rfl) dX12_readsCondition_215 (by decide)) (fun H locs hW => ?_)
      refine lv_goto (tgt := 40) hx hb dX12_readsCondition_218 (by decide) ?_
      exact k1 μ55 (Option.some.inj h).symm _ _ _ (lv_sub hl [0] rfl) hW
set_option maxHeartbeats 4000000 in
set_option maxRecDepth 100000 in
theorem tl_md_readsCondition_40 (hC : Cx g RX12 cX12_readsCondition 1 p s m args c) {e0 : (Mm) ⊕ (Mm) ⊕ (Mm) ⊕ (Mm)} (kx0 : (Sum.elim (fun a => ∀ (ls : Array Slot) (H : Heap) (locs : List Loc), lv_has ls 1 [] → wP g wm A s.heap a H locs → W p l e (rmD 6) s m args below meth c H locs 0 0 Q (F0 m 81 ls [])) (fun _ => True)) e0) (kx1 : (Sum.elim (fun _ => True) (Sum.elim (fun a => ∀ (ls : Array Slot) (H : Heap) (locs : List Loc), lv_has ls 1 [] → wP g wm A s.heap a H locs → W p l e (rmD 6) s m args below meth c H locs 0 0 Q (F0 m 90 ls [])) (fun _ => True))) e0) (kx2 : (Sum.elim (fun _ => True) (Sum.elim (fun _ => True) (Sum.elim (fun a => ∀ (ls : Array Slot) (H : Heap) (locs : List Loc), lv_has ls 1 [] → wP g wm A s.heap a H locs → W p l e (rmD 6) s m args below meth c H locs 0 0 Q (F0 m 143 ls [])) (fun _ => True)))) e0) (kx3 : (Sum.elim (fun _ => True) (Sum.elim (fun _ => True) (Sum.elim (fun _ => True) (fun a => ∀ (ls : Array Slot) (H : Heap) (locs : List Loc), lv_has ls 1 [(0, .ref (ad g 0))] → wP g wm A s.heap a H locs → W p l e (rmD 6) s m args below meth c H locs 0 0 Q (F0 m 170 ls []))))) e0) : ∀ (n : Nat) (q : Mm), miter (fun q => md_readsCondition_b40 q) n q = some e0 → ∀ (ls : Array Slot) (H : Heap) (locs : List Loc), lv_has ls 1 [(0, .ref (ad g 0))] → wP g wm A s.heap q H locs → W p l e (rmD 6) s m args below meth c H locs 0 0 Q (F0 m 40 ls []) := by
  obtain ⟨hx, hb, hml, hown, hts, hK, hN⟩ := id hC
  refine miter_ind (fun q r hf k1 k2 => ?_)
  obtain ⟨μ, rfl⟩ : ∃ z, z = q := ⟨_, rfl⟩
  intro ls H locs hl hW
  have h : md_readsCondition_b40 μ = some r := hf
  unfold md_readsCondition_b40 at h
  refine lv_aload_n hx hb dX12_readsCondition_40 rfl (lv_at hl 0 rfl) ?_
  obtain ⟨x8, hx8, h⟩ := mbv_some h
  refine kr_ci hC hW (kr_runV hC hW hl.1 (t_md_here hx8) cw_X12_233 (wm_0 g μ) rfl rfl rfl (Nat.le_of_ble_eq_true rfl) dX12_readsCondition_41 (by decide)) (fun H locs hW => ?_)
  refine lv_bipush (v := 33) hx hb dX12_readsCondition_44 (by decide) ?_
  refine lv_icmp_eq (tgt := 58) hx hb dX12_readsCondition_46 (by decide) (fun hc9 => ?_) (fun hc9 => ?_)
  · replace h := if_p hc9 h
    refine lv_aload_n hx hb dX12_readsCondition_58 rfl (lv_at hl 0 rfl) ?_
    refine lv_aload_n hx hb dX12_readsCondition_59 rfl (lv_at hl 0 rfl) ?_
    obtain ⟨x10, hx10, h⟩ := mbv_some h
    refine kr_ci hC hW (kr_runV hC hW hl.1 (t_md_here hx10) cw_X12_233 (wm_0 g μ) rfl rfl rfl (Nat.le_of_ble_eq_true rfl) dX12_readsCondition_60 (by decide)) (fun H locs hW => ?_)
    refine lv_bipush (v := 33) hx hb dX12_readsCondition_63 (by decide) ?_
    refine lv_icmp_ne (tgt := 73) hx hb dX12_readsCondition_65 (by decide) (fun hc11 => ?_) (fun hc11 => ?_)
    · replace h := if_n hc11 h
      refine lv_bipush (v := 13) hx hb dX12_readsCondition_73 (by decide) ?_
      obtain ⟨x12, μ13, hx12, h⟩ := mbm_some h
      refine kr_ci hC hW (kr_runV hC hW hl.1 (t_md_opens hx12) cw_X12_268 (wm_0 g μ) rfl rfl rfl (Nat.le_of_ble_eq_true rfl) dX12_readsCondition_75 (by decide)) (fun H locs hW => ?_)
      refine lv_if_ne (tgt := 40) hx hb dX12_readsCondition_78 (by decide) (fun hc14 => ?_) (fun hc14 => ?_)
      · replace h := if_n hc14 h
        exact k1 μ13 (Option.some.inj h).symm _ _ _ (lv_sub hl [0] rfl) hW
      · replace h := if_p hc14 h
        obtain rfl := k2 _ (Option.some.inj h).symm
        exact kx0 _ _ _ (lv_sub hl [] rfl) hW
    · replace h := if_p hc11 h
      refine lv_bipush (v := 10) hx hb dX12_readsCondition_68 (by decide) ?_
      refine lv_goto (tgt := 75) hx hb dX12_readsCondition_70 (by decide) ?_
      obtain ⟨x15, μ16, hx15, h⟩ := mbm_some h
      refine kr_ci hC hW (kr_runV hC hW hl.1 (t_md_opens hx15) cw_X12_268 (wm_0 g μ) rfl rfl rfl (Nat.le_of_ble_eq_true rfl) dX12_readsCondition_75 (by decide)) (fun H locs hW => ?_)
      refine lv_if_ne (tgt := 40) hx hb dX12_readsCondition_78 (by decide) (fun hc17 => ?_) (fun hc17 => ?_)
      · replace h := if_n hc17 h
        exact k1 μ16 (Option.some.inj h).symm _ _ _ (lv_sub hl [0] rfl) hW
      · replace h := if_p hc17 h
        obtain rfl := k2 _ (Option.some.inj h).symm
        exact kx0 _ _ _ (lv_sub hl [] rfl) hW
  · replace h := if_n hc9 h
    refine lv_aload_n hx hb dX12_readsCondition_49 rfl (lv_at hl 0 rfl) ?_
    obtain ⟨x18, hx18, h⟩ := mbv_some h
    refine kr_ci hC hW (kr_runV hC hW hl.1 (t_md_here hx18) cw_X12_233 (wm_0 g μ) rfl rfl rfl (Nat.le_of_ble_eq_true rfl) dX12_readsCondition_50 (by decide)) (fun H locs hW => ?_)
    refine lv_bipush (v := 40) hx hb dX12_readsCondition_53 (by decide) ?_
    refine lv_icmp_ne (tgt := 83) hx hb dX12_readsCondition_55 (by decide) (fun hc19 => ?_) (fun hc19 => ?_)
    · replace h := if_n hc19 h
      refine lv_aload_n hx hb dX12_readsCondition_83 rfl (lv_at hl 0 rfl) ?_
      obtain ⟨x20, μ21, hx20, h⟩ := mbm_some h
      refine kr_ci hC hW (kr_runV hC hW hl.1 (t_md_readsCompared hx20) cw_X12_296 (wm_0 g μ) rfl rfl rfl (Nat.le_of_ble_eq_true rfl) dX12_readsCondition_84 (by decide)) (fun H locs hW => ?_)
      refine lv_if_ne (tgt := 92) hx hb dX12_readsCondition_87 (by decide) (fun hc22 => ?_) (fun hc22 => ?_)
      · replace h := if_n hc22 h
        rcases msum2_ex h with ⟨μ34, he33, h⟩ | ⟨μ35, he33, h⟩
        · refine tl_md_readsCondition_92 hC (e0 := (.inl μ34)) (fun ls H locs hl hW => ?_) trivial FU μ21 he33 _ _ _ (lv_sub hl [0] rfl) hW
          obtain rfl := k2 _ (Option.some.inj h).symm
          exact kx2 _ _ _ (lv_sub hl [] rfl) hW
        · refine tl_md_readsCondition_92 hC (e0 := (.inr μ35)) trivial (fun ls H locs hl hW => ?_) FU μ21 he33 _ _ _ (lv_sub hl [0] rfl) hW
          refine lv_aload_n hx hb dX12_readsCondition_152 rfl (lv_at hl 0 rfl) ?_
          obtain ⟨x36, hx36, h⟩ := mbv_some h
          refine kr_ci hC hW (kr_runV hC hW hl.1 (t_md_here hx36) cw_X12_233 (wm_0 g μ35) rfl rfl rfl (Nat.le_of_ble_eq_true rfl) dX12_readsCondition_153 (by decide)) (fun H locs hW => ?_)
          refine lv_bipush (v := 38) hx hb dX12_readsCondition_156 (by decide) ?_
          refine lv_icmp_eq (tgt := 180) hx hb dX12_readsCondition_158 (by decide) (fun hc37 => ?_) (fun hc37 => ?_)
          · replace h := if_p hc37 h
            exact tj_md_readsCondition_180 hC k1 k2 kx0 kx1 kx2 kx3 (lv_sub hl [0] rfl) hW h
          · replace h := if_n hc37 h
            refine lv_aload_n hx hb dX12_readsCondition_161 rfl (lv_at hl 0 rfl) ?_
            obtain ⟨x56, hx56, h⟩ := mbv_some h
            refine kr_ci hC hW (kr_runV hC hW hl.1 (t_md_here hx56) cw_X12_233 (wm_0 g μ35) rfl rfl rfl (Nat.le_of_ble_eq_true rfl) dX12_readsCondition_162 (by decide)) (fun H locs hW => ?_)
            refine lv_bipush (v := 124) hx hb dX12_readsCondition_165 (by decide) ?_
            refine lv_icmp_eq (tgt := 180) hx hb dX12_readsCondition_167 (by decide) (fun hc57 => ?_) (fun hc57 => ?_)
            · replace h := if_p hc57 h
              exact tj_md_readsCondition_180 hC k1 k2 kx0 kx1 kx2 kx3 (lv_sub hl [0] rfl) hW h
            · replace h := if_n hc57 h
              obtain rfl := k2 _ (Option.some.inj h).symm
              exact kx3 _ _ _ (lv_sub hl [0] rfl) hW
      · replace h := if_p hc22 h
        obtain rfl := k2 _ (Option.some.inj h).symm
        exact kx1 _ _ _ (lv_sub hl [] rfl) hW
    · replace h := if_p hc19 h
      refine lv_aload_n hx hb dX12_readsCondition_58 rfl (lv_at hl 0 rfl) ?_
      refine lv_aload_n hx hb dX12_readsCondition_59 rfl (lv_at hl 0 rfl) ?_
      obtain ⟨x58, hx58, h⟩ := mbv_some h
      refine kr_ci hC hW (kr_runV hC hW hl.1 (t_md_here hx58) cw_X12_233 (wm_0 g μ) rfl rfl rfl (Nat.le_of_ble_eq_true rfl) dX12_readsCondition_60 (by decide)) (fun H locs hW => ?_)
      refine lv_bipush (v := 33) hx hb dX12_readsCondition_63 (by decide) ?_
      refine lv_icmp_ne (tgt := 73) hx hb dX12_readsCondition_65 (by decide) (fun hc59 => ?_) (fun hc59 => ?_)
      · replace h := if_n hc59 h
        refine lv_bipush (v := 13) hx hb dX12_readsCondition_73 (by decide) ?_
        obtain ⟨x60, μ61, hx60, h⟩ := mbm_some h
        refine kr_ci hC hW (kr_runV hC hW hl.1 (t_md_opens hx60) cw_X12_268 (wm_0 g μ) rfl rfl rfl (Nat.le_of_ble_eq_true rfl) dX12_readsCondition_75 (by decide)) (fun H locs hW => ?_)
        refine lv_if_ne (tgt := 40) hx hb dX12_readsCondition_78 (by decide) (fun hc62 => ?_) (fun hc62 => ?_)
        · replace h := if_n hc62 h
          exact k1 μ61 (Option.some.inj h).symm _ _ _ (lv_sub hl [0] rfl) hW
        · replace h := if_p hc62 h
          obtain rfl := k2 _ (Option.some.inj h).symm
          exact kx0 _ _ _ (lv_sub hl [] rfl) hW
      · replace h := if_p hc59 h
        refine lv_bipush (v := 10) hx hb dX12_readsCondition_68 (by decide) ?_
        refine lv_goto (tgt := 75) hx hb dX12_readsCondition_70 (by decide) ?_
        obtain ⟨x63, μ64, hx63, h⟩ := mbm_some h
        refine kr_ci hC hW (kr_runV hC hW hl.1 (t_md_opens hx63) cw_X12_268 (wm_0 g μ) rfl rfl rfl (Nat.le_of_ble_eq_true rfl) dX12_readsCondition_75 (by decide)) (fun H locs hW => ?_)
        refine lv_if_ne (tgt := 40) hx hb dX12_readsCondition_78 (by decide) (fun hc65 => ?_) (fun hc65 => ?_)
        · replace h := if_n hc65 h
          exact k1 μ64 (Option.some.inj h).symm _ _ _ (lv_sub hl [0] rfl) hW
        · replace h := if_p hc65 h
          obtain rfl := k2 _ (Option.some.inj h).symm
          exact kx0 _ _ _ (lv_sub hl [] rfl) hW
set_option maxHeartbeats 4000000 in
set_option maxRecDepth 100000 in
theorem t_md_readsCondition {l : Launch} {g : Gx} {A : Nat → Prop} {μ : Mm} {v : Bool} {u : Mm} (h : md_readsCondition μ = some (v, u)) : Cti l g A wm yX12_readsCondition cX12_readsCondition 1 (some .boolean) 6 [.ref (ad g 0)] μ (bI v) u := by
  refine ent (lv := [(0, .ref (ad g 0))]) (by decide) (Nat.le_of_ble_eq_true rfl) rfl ?_
  intro p e s m args below meth c hC hr hlocks hnm hW ls hl
  replace hC : Cx g RX12 cX12_readsCondition 1 p s m args c := hC
  obtain ⟨hx, hb, hml, hown, hts, hK, hN⟩ := id hC
  unfold md_readsCondition at h
  refine lv_aload_n hx hb dX12_readsCondition_0 rfl (lv_at hl 0 rfl) ?_
  obtain ⟨x1, hx1, h⟩ := mbv_some h
  refine kr_ci hC hW (kr_runV hC hW hl.1 (t_md_here hx1) cw_X12_233 (wm_0 g μ) rfl rfl rfl (Nat.le_of_ble_eq_true rfl) dX12_readsCondition_1 (by decide)) (fun H locs hW => ?_)
  refine lv_bipush (v := 40) hx hb dX12_readsCondition_4 (by decide) ?_
  refine lv_icmp_eq (tgt := 19) hx hb dX12_readsCondition_6 (by decide) (fun hc2 => ?_) (fun hc2 => ?_)
  · replace h := if_p hc2 h
    refine lv_aload_n hx hb dX12_readsCondition_19 rfl (lv_at hl 0 rfl) ?_
    refine lv_iconst (v := 0) hx hb dX12_readsCondition_20 (by decide) ?_
    obtain ⟨μ3, eμ3, h⟩ := mst_some h
    refine pf_X12_255_m0 hC hW eμ3 dX12_readsCondition_21 (fun H locs hW => ?_)
    refine lv_aload_n hx hb dX12_readsCondition_24 rfl (lv_at hl 0 rfl) ?_
    refine lv_iconst (v := 0) hx hb dX12_readsCondition_25 (by decide) ?_
    obtain ⟨μ4, eμ4, h⟩ := mst_some h
    refine pf_X12_258_m0 hC hW eμ4 dX12_readsCondition_26 (fun H locs hW => ?_)
    refine lv_aload_n hx hb dX12_readsCondition_29 rfl (lv_at hl 0 rfl) ?_
    refine lv_bipush (v := 13) hx hb dX12_readsCondition_30 (by decide) ?_
    obtain ⟨x5, μ6, hx5, h⟩ := mbm_some h
    refine kr_ci hC hW (kr_runV hC hW hl.1 (t_md_opens hx5) cw_X12_268 (wm_0 g μ4) rfl rfl rfl (Nat.le_of_ble_eq_true rfl) dX12_readsCondition_32 (by decide)) (fun H locs hW => ?_)
    refine lv_if_ne (tgt := 40) hx hb dX12_readsCondition_35 (by decide) (fun hc7 => ?_) (fun hc7 => ?_)
    · replace h := if_n hc7 h
      rcases msum4_ex h with ⟨μ67, he66, h⟩ | ⟨μ68, he66, h⟩ | ⟨μ69, he66, h⟩ | ⟨μ70, he66, h⟩
      · refine tl_md_readsCondition_40 hC (e0 := (.inl μ67)) (fun ls H locs hl hW => ?_) trivial trivial trivial FU μ6 he66 _ _ _ (lv_sub hl [0] rfl) hW
        refine lv_iconst (v := 0) hx hb dX12_readsCondition_81 (by decide) ?_
        cases h
        exact kr_zret hC hr hlocks _ rfl hW dX12_readsCondition_82
      · refine tl_md_readsCondition_40 hC (e0 := (.inr (.inl μ68))) trivial (fun ls H locs hl hW => ?_) trivial trivial FU μ6 he66 _ _ _ (lv_sub hl [0] rfl) hW
        refine lv_iconst (v := 0) hx hb dX12_readsCondition_90 (by decide) ?_
        cases h
        exact kr_zret hC hr hlocks _ rfl hW dX12_readsCondition_91
      · refine tl_md_readsCondition_40 hC (e0 := (.inr (.inr (.inl μ69)))) trivial trivial (fun ls H locs hl hW => ?_) trivial FU μ6 he66 _ _ _ (lv_sub hl [0] rfl) hW
        refine lv_iconst (v := 1) hx hb dX12_readsCondition_143 (by decide) ?_
        cases h
        exact kr_zret hC hr hlocks _ rfl hW dX12_readsCondition_144
      · refine tl_md_readsCondition_40 hC (e0 := (.inr (.inr (.inr μ70)))) trivial trivial trivial (fun ls H locs hl hW => ?_) FU μ6 he66 _ _ _ (lv_sub hl [0] rfl) hW
        refine lv_aload_n hx hb dX12_readsCondition_170 rfl (lv_at hl 0 rfl) ?_
        refine lv_iconst (v := 1) hx hb dX12_readsCondition_171 (by decide) ?_
        refine lv_aload_n hx hb dX12_readsCondition_172 rfl (lv_at hl 0 rfl) ?_
        refine gf_X12_227_m0 hC hW dX12_readsCondition_173 ?_
        obtain ⟨x71, μ72, hx71, h⟩ := mbm_some h
        refine kr_ci hC hW (kr_runV hC hW hl.1 (t_md_wrong hx71) cw_X12_240 (wm_0 g μ70) rfl rfl rfl (Nat.le_of_ble_eq_true rfl) dX12_readsCondition_176 (by decide)) (fun H locs hW => ?_)
        cases h
        exact kr_zret hC hr hlocks _ rfl hW dX12_readsCondition_179
    · replace h := if_p hc7 h
      refine lv_iconst (v := 0) hx hb dX12_readsCondition_38 (by decide) ?_
      cases h
      exact kr_zret hC hr hlocks _ rfl hW dX12_readsCondition_39
  · replace h := if_n hc2 h
    refine lv_aload_n hx hb dX12_readsCondition_9 rfl (lv_at hl 0 rfl) ?_
    refine lv_iconst (v := 1) hx hb dX12_readsCondition_10 (by decide) ?_
    refine lv_aload_n hx hb dX12_readsCondition_11 rfl (lv_at hl 0 rfl) ?_
    refine gf_X12_227_m0 hC hW dX12_readsCondition_12 ?_
    obtain ⟨x73, μ74, hx73, h⟩ := mbm_some h
    refine kr_ci hC hW (kr_runV hC hW hl.1 (t_md_wrong hx73) cw_X12_240 (wm_0 g μ) rfl rfl rfl (Nat.le_of_ble_eq_true rfl) dX12_readsCondition_15 (by decide)) (fun H locs hW => ?_)
    cases h
    exact kr_zret hC hr hlocks _ rfl hW dX12_readsCondition_18
set_option maxHeartbeats 4000000 in
set_option maxRecDepth 100000 in
theorem tj_md_readsClause_33 {μ : Mm} (a1 : Int32) (hC : Cx g RX12 cX12_readsClause 2 p s m args c) (hr : meth.sig.returnType = some .boolean) (hlocks : meth.locks = false) {v : Bool} {u : Mm} (hl : lv_has ls 2 [(0, .ref (ad g 0)), (1, .int a1)]) (hW : wP g wm A s.heap μ H locs) (h : md_readsClause_j33 μ a1 = some (v, u)) : W p l e (rmD 7) s m args below meth c H locs 0 0 (MQ below (Qi g A wm (bI v) u) args s 0 0 A) (F0 m 33 ls []) := by
  obtain ⟨hx, hb, hml, hown, hts, hK, hN⟩ := id hC
  unfold md_readsClause_j33 at h
  refine lv_aload_n hx hb dX12_readsClause_33 rfl (lv_at hl 0 rfl) ?_
  refine gf_X12_305_m0 hC hW dX12_readsClause_34 ?_
  refine lv_bipush (v := 14) hx hb dX12_readsClause_37 (by decide) ?_
  refine lv_icmp_ne (tgt := 52) hx hb dX12_readsClause_39 (by decide) (fun hc3 => ?_) (fun hc3 => ?_)
  · replace h := if_n hc3 h
    refine lv_aload_n hx hb dX12_readsClause_52 rfl (lv_at hl 0 rfl) ?_
    refine gf_X12_108_m0 hC hW dX12_readsClause_53 ?_
    refine lv_aload_n hx hb dX12_readsClause_56 rfl (lv_at hl 0 rfl) ?_
    refine gf_X12_305_m0 hC hW dX12_readsClause_57 ?_
    refine lv_iload_n hx hb dX12_readsClause_60 rfl (lv_at hl 1 rfl) ?_
    obtain ⟨μ4, eμ4, hin, h⟩ := mwr_ex h
    refine kr_iast hC hW (wm_33 g μ) (wms_33 eμ4) hin dX12_readsClause_61 (fun H locs hW => ?_)
    refine lv_aload_n hx hb dX12_readsClause_62 rfl (lv_at hl 0 rfl) ?_
    refine lv_aload_n hx hb dX12_readsClause_63 rfl (lv_at hl 0 rfl) ?_
    refine gf_X12_227_m0 hC hW dX12_readsClause_64 ?_
    refine lv_iconst (v := 1) hx hb dX12_readsClause_67 (by decide) ?_
    refine lv_iadd hx hb dX12_readsClause_68 ?_
    obtain ⟨μ5, eμ5, h⟩ := mst_some h
    refine pf_X12_227_m0 hC hW eμ5 dX12_readsClause_69 (fun H locs hW => ?_)
    refine lv_aload_n hx hb dX12_readsClause_72 rfl (lv_at hl 0 rfl) ?_
    refine gf_X12_111_m0 hC hW dX12_readsClause_73 ?_
    refine lv_aload_n hx hb dX12_readsClause_76 rfl (lv_at hl 0 rfl) ?_
    refine gf_X12_305_m0 hC hW dX12_readsClause_77 ?_
    refine lv_aload_n hx hb dX12_readsClause_80 rfl (lv_at hl 0 rfl) ?_
    refine gf_X12_251_m0 hC hW dX12_readsClause_81 ?_
    obtain ⟨μ6, eμ6, hin, h⟩ := mwr_ex h
    refine kr_iast hC hW (wm_34 g μ5) (wms_34 eμ6) hin dX12_readsClause_84 (fun H locs hW => ?_)
    refine lv_aload_n hx hb dX12_readsClause_85 rfl (lv_at hl 0 rfl) ?_
    refine lv_iconst (v := 0) hx hb dX12_readsClause_86 (by decide) ?_
    obtain ⟨μ7, eμ7, h⟩ := mst_some h
    refine pf_X12_255_m0 hC hW eμ7 dX12_readsClause_87 (fun H locs hW => ?_)
    refine lv_aload_n hx hb dX12_readsClause_90 rfl (lv_at hl 0 rfl) ?_
    refine lv_iconst (v := 0) hx hb dX12_readsClause_91 (by decide) ?_
    obtain ⟨μ8, eμ8, h⟩ := mst_some h
    refine pf_X12_258_m0 hC hW eμ8 dX12_readsClause_92 (fun H locs hW => ?_)
    refine lv_aload_n hx hb dX12_readsClause_95 rfl (lv_at hl 0 rfl) ?_
    obtain ⟨x9, μ10, hx9, h⟩ := mbm_some h
    refine kr_ci hC hW (kr_runV hC hW hl.1 (t_md_readsSum hx9) cw_X12_290 (wm_0 g μ8) rfl rfl rfl (Nat.le_of_ble_eq_true rfl) dX12_readsClause_96 (by decide)) (fun H locs hW => ?_)
    refine lv_if_ne (tgt := 104) hx hb dX12_readsClause_99 (by decide) (fun hc11 => ?_) (fun hc11 => ?_)
    · replace h := if_n hc11 h
      refine lv_aload_n hx hb dX12_readsClause_104 rfl (lv_at hl 0 rfl) ?_
      refine gf_X12_114_m0 hC hW dX12_readsClause_105 ?_
      refine lv_aload_n hx hb dX12_readsClause_108 rfl (lv_at hl 0 rfl) ?_
      refine gf_X12_305_m0 hC hW dX12_readsClause_109 ?_
      refine lv_aload_n hx hb dX12_readsClause_112 rfl (lv_at hl 0 rfl) ?_
      refine gf_X12_251_m0 hC hW dX12_readsClause_113 ?_
      obtain ⟨μ12, eμ12, hin, h⟩ := mwr_ex h
      refine kr_iast hC hW (wm_35 g μ10) (wms_35 eμ12) hin dX12_readsClause_116 (fun H locs hW => ?_)
      refine lv_aload_n hx hb dX12_readsClause_117 rfl (lv_at hl 0 rfl) ?_
      obtain ⟨x13, μ14, hx13, h⟩ := mbm_some h
      refine kr_ci hC hW (kr_runV hC hW hl.1 (t_md_readsCondition hx13) cw_X12_308 (wm_0 g μ12) rfl rfl rfl (Nat.le_of_ble_eq_true rfl) dX12_readsClause_118 (by decide)) (fun H locs hW => ?_)
      refine lv_if_ne (tgt := 126) hx hb dX12_readsClause_121 (by decide) (fun hc15 => ?_) (fun hc15 => ?_)
      · replace h := if_n hc15 h
        refine lv_aload_n hx hb dX12_readsClause_126 rfl (lv_at hl 0 rfl) ?_
        refine gf_X12_117_m0 hC hW dX12_readsClause_127 ?_
        refine lv_aload_n hx hb dX12_readsClause_130 rfl (lv_at hl 0 rfl) ?_
        refine gf_X12_305_m0 hC hW dX12_readsClause_131 ?_
        refine lv_aload_n hx hb dX12_readsClause_134 rfl (lv_at hl 0 rfl) ?_
        refine gf_X12_251_m0 hC hW dX12_readsClause_135 ?_
        obtain ⟨μ16, eμ16, hin, h⟩ := mwr_ex h
        refine kr_iast hC hW (wm_36 g μ14) (wms_36 eμ16) hin dX12_readsClause_138 (fun H locs hW => ?_)
        refine lv_aload_n hx hb dX12_readsClause_139 rfl (lv_at hl 0 rfl) ?_
        refine lv_aload_n hx hb dX12_readsClause_140 rfl (lv_at hl 0 rfl) ?_
        refine gf_X12_305_m0 hC hW dX12_readsClause_141 ?_
        refine lv_iconst (v := 1) hx hb dX12_readsClause_144 (by decide) ?_
        refine lv_iadd hx hb dX12_readsClause_145 ?_
        obtain ⟨μ17, eμ17, h⟩ := mst_some h
        refine pf_X12_305_m0 hC hW eμ17 dX12_readsClause_146 (fun H locs hW => ?_)
        refine lv_iconst (v := 1) hx hb dX12_readsClause_149 (by decide) ?_
        cases h
        exact kr_zret hC hr hlocks _ rfl hW dX12_readsClause_150
      · replace h := if_p hc15 h
        refine lv_iconst (v := 0) hx hb dX12_readsClause_124 (by decide) ?_
        cases h
        exact kr_zret hC hr hlocks _ rfl hW dX12_readsClause_125
    · replace h := if_p hc11 h
      refine lv_iconst (v := 0) hx hb dX12_readsClause_102 (by decide) ?_
      cases h
      exact kr_zret hC hr hlocks _ rfl hW dX12_readsClause_103
  · replace h := if_p hc3 h
    refine lv_aload_n hx hb dX12_readsClause_42 rfl (lv_at hl 0 rfl) ?_
    refine lv_iconst (v := 4) hx hb dX12_readsClause_43 (by decide) ?_
    refine lv_aload_n hx hb dX12_readsClause_44 rfl (lv_at hl 0 rfl) ?_
    refine gf_X12_227_m0 hC hW dX12_readsClause_45 ?_
    obtain ⟨x18, μ19, hx18, h⟩ := mbm_some h
    refine kr_ci hC hW (kr_runV hC hW hl.1 (t_md_wrong hx18) cw_X12_240 (wm_0 g μ) rfl rfl rfl (Nat.le_of_ble_eq_true rfl) dX12_readsClause_48 (by decide)) (fun H locs hW => ?_)
    cases h
    exact kr_zret hC hr hlocks _ rfl hW dX12_readsClause_51
set_option maxHeartbeats 4000000 in
set_option maxRecDepth 100000 in
theorem t_md_readsClause {l : Launch} {g : Gx} {A : Nat → Prop} {μ : Mm} {v : Bool} {u : Mm} (h : md_readsClause μ = some (v, u)) : Cti l g A wm yX12_readsClause cX12_readsClause 2 (some .boolean) 7 [.ref (ad g 0)] μ (bI v) u := by
  refine ent (lv := [(0, .ref (ad g 0))]) (by decide) (Nat.le_of_ble_eq_true rfl) rfl ?_
  intro p e s m args below meth c hC hr hlocks hnm hW ls hl
  replace hC : Cx g RX12 cX12_readsClause 2 p s m args c := hC
  obtain ⟨hx, hb, hml, hown, hts, hK, hN⟩ := id hC
  unfold md_readsClause at h
  refine lv_aload_n hx hb dX12_readsClause_0 rfl (lv_at hl 0 rfl) ?_
  obtain ⟨x1, hx1, h⟩ := mbv_some h
  refine kr_ci hC hW (kr_runV hC hW hl.1 (t_md_here hx1) cw_X12_233 (wm_0 g μ) rfl rfl rfl (Nat.le_of_ble_eq_true rfl) dX12_readsClause_1 (by decide)) (fun H locs hW => ?_)
  refine lv_istore_n (lv' := [(1, .int x1), (0, .ref (ad g 0))]) hx hb dX12_readsClause_4 rfl hl (by decide) rfl (fun ls hl => ?_)
  refine lv_iload_n hx hb dX12_readsClause_5 rfl (lv_at hl 0 rfl) ?_
  refine lv_bipush (v := 119) hx hb dX12_readsClause_6 (by decide) ?_
  refine lv_icmp_eq (tgt := 33) hx hb dX12_readsClause_8 (by decide) (fun hc2 => ?_) (fun hc2 => ?_)
  · replace h := if_p hc2 h
    exact tj_md_readsClause_33 x1 hC hr hlocks (lv_sub hl [1, 0] rfl) hW h
  · replace h := if_n hc2 h
    refine lv_iload_n hx hb dX12_readsClause_11 rfl (lv_at hl 0 rfl) ?_
    refine lv_bipush (v := 100) hx hb dX12_readsClause_12 (by decide) ?_
    refine lv_icmp_eq (tgt := 33) hx hb dX12_readsClause_14 (by decide) (fun hc20 => ?_) (fun hc20 => ?_)
    · replace h := if_p hc20 h
      exact tj_md_readsClause_33 x1 hC hr hlocks (lv_sub hl [1, 0] rfl) hW h
    · replace h := if_n hc20 h
      refine lv_iload_n hx hb dX12_readsClause_17 rfl (lv_at hl 0 rfl) ?_
      refine lv_bipush (v := 102) hx hb dX12_readsClause_18 (by decide) ?_
      refine lv_icmp_eq (tgt := 33) hx hb dX12_readsClause_20 (by decide) (fun hc21 => ?_) (fun hc21 => ?_)
      · replace h := if_p hc21 h
        exact tj_md_readsClause_33 x1 hC hr hlocks (lv_sub hl [1, 0] rfl) hW h
      · replace h := if_n hc21 h
        refine lv_aload_n hx hb dX12_readsClause_23 rfl (lv_at hl 1 rfl) ?_
        refine lv_iconst (v := 1) hx hb dX12_readsClause_24 (by decide) ?_
        refine lv_aload_n hx hb dX12_readsClause_25 rfl (lv_at hl 1 rfl) ?_
        refine gf_X12_227_m0 hC hW dX12_readsClause_26 ?_
        obtain ⟨x22, μ23, hx22, h⟩ := mbm_some h
        refine kr_ci hC hW (kr_runV hC hW hl.1 (t_md_wrong hx22) cw_X12_240 (wm_0 g μ) rfl rfl rfl (Nat.le_of_ble_eq_true rfl) dX12_readsClause_29 (by decide)) (fun H locs hW => ?_)
        cases h
        exact kr_zret hC hr hlocks _ rfl hW dX12_readsClause_32
set_option maxHeartbeats 4000000 in
set_option maxRecDepth 100000 in
theorem tl_md_law_46 (hC : Cx g RX12 cX12_law 4 p s m args c) {e0 : (Int32 × Mm)} (kx0 : ∀ (ls : Array Slot) (H : Heap) (locs : List Loc), lv_has ls 4 [(0, .ref (ad g 0)), (2, .int e0.1)] → wP g wm A s.heap e0.2 H locs → W p l e (rmD 8) s m args below meth c H locs 0 0 Q (F0 m 86 ls [])) : ∀ (n : Nat) (q : Int32 × Mm), miter (fun q => md_law_b46 q.2 q.1) n q = some e0 → ∀ (ls : Array Slot) (H : Heap) (locs : List Loc), lv_has ls 4 [(0, .ref (ad g 0)), (2, .int q.1)] → wP g wm A s.heap q.2 H locs → W p l e (rmD 8) s m args below meth c H locs 0 0 Q (F0 m 46 ls []) := by
  obtain ⟨hx, hb, hml, hown, hts, hK, hN⟩ := id hC
  refine miter_ind (fun q r hf k1 k2 => ?_)
  obtain ⟨xs2, μ⟩ := q
  intro ls H locs hl hW
  have h : md_law_b46 μ xs2 = some r := hf
  unfold md_law_b46 at h
  refine lv_iload_n hx hb dX12_law_46 rfl (lv_at hl 1 rfl) ?_
  refine lv_if_eq (tgt := 86) hx hb dX12_law_47 (by decide) (fun hc10 => ?_) (fun hc10 => ?_)
  · replace h := if_p hc10 h
    obtain rfl := k2 _ (Option.some.inj h).symm
    exact kx0 _ _ _ (lv_sub hl [0, 1] rfl) hW
  · replace h := if_n hc10 h
    refine lv_aload_n hx hb dX12_law_50 rfl (lv_at hl 0 rfl) ?_
    refine gf_X12_227_m0 hC hW dX12_law_51 ?_
    refine lv_aload_n hx hb dX12_law_54 rfl (lv_at hl 0 rfl) ?_
    refine gf_X12_230_m0 hC hW dX12_law_55 ?_
    refine lv_icmp_ge (tgt := 86) hx hb dX12_law_58 (by decide) (fun hc11 => ?_) (fun hc11 => ?_)
    · replace h := if_p hc11 h
      obtain rfl := k2 _ (Option.some.inj h).symm
      exact kx0 _ _ _ (lv_sub hl [0, 1] rfl) hW
    · replace h := if_n hc11 h
      refine lv_aload_n hx hb dX12_law_61 rfl (lv_at hl 0 rfl) ?_
      refine lv_bipush (v := 59) hx hb dX12_law_62 (by decide) ?_
      obtain ⟨x12, μ13, hx12, h⟩ := mbm_some h
      refine kr_ci hC hW (kr_runV hC hW hl.1 (t_md_takes hx12) cw_X12_314 (wm_0 g μ) rfl rfl rfl (Nat.le_of_ble_eq_true rfl) dX12_law_64 (by decide)) (fun H locs hW => ?_)
      refine lv_if_eq (tgt := 81) hx hb dX12_law_67 (by decide) (fun hc14 => ?_) (fun hc14 => ?_)
      · replace h := if_p hc14 h
        refine lv_iconst (v := 0) hx hb dX12_law_81 (by decide) ?_
        refine lv_istore_n (lv' := [(2, .int 0), (0, .ref (ad g 0))]) hx hb dX12_law_82 rfl hl (by decide) rfl (fun ls hl => ?_)
        refine lv_goto (tgt := 46) hx hb dX12_law_83 (by decide) ?_
        exact k1 (0, μ13) (Option.some.inj h).symm _ _ _ (lv_sub hl [1, 0] rfl) hW
      · replace h := if_n hc14 h
        refine lv_aload_n hx hb dX12_law_70 rfl (lv_at hl 0 rfl) ?_
        obtain ⟨x15, μ16, hx15, h⟩ := mbm_some h
        refine kr_ci hC hW (kr_runV hC hW hl.1 (t_md_readsClause hx15) cw_X12_311 (wm_0 g μ13) rfl rfl rfl (Nat.le_of_ble_eq_true rfl) dX12_law_71 (by decide)) (fun H locs hW => ?_)
        refine lv_if_eq (tgt := 81) hx hb dX12_law_74 (by decide) (fun hc17 => ?_) (fun hc17 => ?_)
        · replace h := if_p hc17 h
          refine lv_iconst (v := 0) hx hb dX12_law_81 (by decide) ?_
          refine lv_istore_n (lv' := [(2, .int 0), (0, .ref (ad g 0))]) hx hb dX12_law_82 rfl hl (by decide) rfl (fun ls hl => ?_)
          refine lv_goto (tgt := 46) hx hb dX12_law_83 (by decide) ?_
          exact k1 (0, μ16) (Option.some.inj h).symm _ _ _ (lv_sub hl [1, 0] rfl) hW
        · replace h := if_n hc17 h
          refine lv_iconst (v := 1) hx hb dX12_law_77 (by decide) ?_
          refine lv_goto (tgt := 82) hx hb dX12_law_78 (by decide) ?_
          refine lv_istore_n (lv' := [(2, .int 1), (0, .ref (ad g 0))]) hx hb dX12_law_82 rfl hl (by decide) rfl (fun ls hl => ?_)
          refine lv_goto (tgt := 46) hx hb dX12_law_83 (by decide) ?_
          exact k1 (1, μ16) (Option.some.inj h).symm _ _ _ (lv_sub hl [1, 0] rfl) hW
set_option maxHeartbeats 4000000 in
set_option maxRecDepth 100000 in
theorem tl_md_law_110 (hC : Cx g RX12 cX12_law 4 p s m args c) {e0 : (Mm)} (kx0 : ∀ (ls : Array Slot) (H : Heap) (locs : List Loc), lv_has ls 4 [(0, .ref (ad g 0))] → wP g wm A s.heap e0 H locs → W p l e (rmD 8) s m args below meth c H locs 0 0 Q (F0 m 136 ls [])) : ∀ (n : Nat) (q : Int32 × Mm), miter (fun q => md_law_b110 q.2 q.1) n q = some e0 → ∀ (ls : Array Slot) (H : Heap) (locs : List Loc), lv_has ls 4 [(0, .ref (ad g 0)), (3, .int q.1)] → wP g wm A s.heap q.2 H locs → W p l e (rmD 8) s m args below meth c H locs 0 0 Q (F0 m 110 ls []) := by
  obtain ⟨hx, hb, hml, hown, hts, hK, hN⟩ := id hC
  refine miter_ind (fun q r hf k1 k2 => ?_)
  obtain ⟨xs3, μ⟩ := q
  intro ls H locs hl hW
  have h : md_law_b110 μ xs3 = some r := hf
  unfold md_law_b110 at h
  refine lv_iload_n hx hb dX12_law_110 rfl (lv_at hl 1 rfl) ?_
  refine lv_aload_n hx hb dX12_law_111 rfl (lv_at hl 0 rfl) ?_
  refine gf_X12_251_m0 hC hW dX12_law_112 ?_
  refine lv_icmp_ge (tgt := 136) hx hb dX12_law_115 (by decide) (fun hc23 => ?_) (fun hc23 => ?_)
  · replace h := if_p hc23 h
    obtain rfl := k2 _ (Option.some.inj h).symm
    exact kx0 _ _ _ (lv_sub hl [0] rfl) hW
  · replace h := if_n hc23 h
    refine lv_aload_n hx hb dX12_law_118 rfl (lv_at hl 0 rfl) ?_
    refine gf_X12_120_m0 hC hW dX12_law_119 ?_
    refine lv_iload_n hx hb dX12_law_122 rfl (lv_at hl 1 rfl) ?_
    refine lv_aload_n hx hb dX12_law_123 rfl (lv_at hl 0 rfl) ?_
    refine gf_X12_102_m0 hC hW dX12_law_124 ?_
    refine lv_iload_n hx hb dX12_law_127 rfl (lv_at hl 1 rfl) ?_
    obtain ⟨x24, ex24, hin, h⟩ := mrd_ex h
    refine kr_iald hC hW (wm_31 g μ) hin ex24 dX12_law_128 ?_
    obtain ⟨μ25, eμ25, hin, h⟩ := mwr_ex h
    refine kr_iast hC hW (wm_37 g μ) (wms_37 eμ25) hin dX12_law_129 (fun H locs hW => ?_)
    refine lv_iinc (v := (xs3 + 1)) (lv' := [(3, .int (xs3 + 1)), (0, .ref (ad g 0))]) hx hb dX12_law_130 hl (k := 1) rfl (by rw [oi_1]) (by decide) rfl (fun ls hl => ?_)
    refine lv_goto (tgt := 110) hx hb dX12_law_133 (by decide) ?_
    exact k1 ((xs3 + 1), μ25) (Option.some.inj h).symm _ _ _ (lv_sub hl [1, 0] rfl) hW
set_option maxHeartbeats 4000000 in
set_option maxRecDepth 100000 in
theorem tl_md_law_138 (hC : Cx g RX12 cX12_law 4 p s m args c) {e0 : (Mm)} (kx0 : ∀ (ls : Array Slot) (H : Heap) (locs : List Loc), lv_has ls 4 [(0, .ref (ad g 0))] → wP g wm A s.heap e0 H locs → W p l e (rmD 8) s m args below meth c H locs 0 0 Q (F0 m 200 ls [])) : ∀ (n : Nat) (q : Int32 × Mm), miter (fun q => md_law_b138 q.2 q.1) n q = some e0 → ∀ (ls : Array Slot) (H : Heap) (locs : List Loc), lv_has ls 4 [(0, .ref (ad g 0)), (3, .int q.1)] → wP g wm A s.heap q.2 H locs → W p l e (rmD 8) s m args below meth c H locs 0 0 Q (F0 m 138 ls []) := by
  obtain ⟨hx, hb, hml, hown, hts, hK, hN⟩ := id hC
  refine miter_ind (fun q r hf k1 k2 => ?_)
  obtain ⟨xs3, μ⟩ := q
  intro ls H locs hl hW
  have h : md_law_b138 μ xs3 = some r := hf
  unfold md_law_b138 at h
  refine lv_iload_n hx hb dX12_law_138 rfl (lv_at hl 1 rfl) ?_
  refine lv_aload_n hx hb dX12_law_139 rfl (lv_at hl 0 rfl) ?_
  refine gf_X12_305_m0 hC hW dX12_law_140 ?_
  refine lv_icmp_ge (tgt := 200) hx hb dX12_law_143 (by decide) (fun hc27 => ?_) (fun hc27 => ?_)
  · replace h := if_p hc27 h
    obtain rfl := k2 _ (Option.some.inj h).symm
    exact kx0 _ _ _ (lv_sub hl [0] rfl) hW
  · replace h := if_n hc27 h
    refine lv_aload_n hx hb dX12_law_146 rfl (lv_at hl 0 rfl) ?_
    refine gf_X12_123_m0 hC hW dX12_law_147 ?_
    refine lv_iload_n hx hb dX12_law_150 rfl (lv_at hl 1 rfl) ?_
    refine lv_aload_n hx hb dX12_law_151 rfl (lv_at hl 0 rfl) ?_
    refine gf_X12_108_m0 hC hW dX12_law_152 ?_
    refine lv_iload_n hx hb dX12_law_155 rfl (lv_at hl 1 rfl) ?_
    obtain ⟨x28, ex28, hin, h⟩ := mrd_ex h
    refine kr_iald hC hW (wm_33 g μ) hin ex28 dX12_law_156 ?_
    obtain ⟨μ29, eμ29, hin, h⟩ := mwr_ex h
    refine kr_iast hC hW (wm_38 g μ) (wms_38 eμ29) hin dX12_law_157 (fun H locs hW => ?_)
    refine lv_aload_n hx hb dX12_law_158 rfl (lv_at hl 0 rfl) ?_
    refine gf_X12_126_m0 hC hW dX12_law_159 ?_
    refine lv_iload_n hx hb dX12_law_162 rfl (lv_at hl 1 rfl) ?_
    refine lv_aload_n hx hb dX12_law_163 rfl (lv_at hl 0 rfl) ?_
    refine gf_X12_111_m0 hC hW dX12_law_164 ?_
    refine lv_iload_n hx hb dX12_law_167 rfl (lv_at hl 1 rfl) ?_
    obtain ⟨x30, ex30, hin, h⟩ := mrd_ex h
    refine kr_iald hC hW (wm_34 g μ29) hin ex30 dX12_law_168 ?_
    obtain ⟨μ31, eμ31, hin, h⟩ := mwr_ex h
    refine kr_iast hC hW (wm_39 g μ29) (wms_39 eμ31) hin dX12_law_169 (fun H locs hW => ?_)
    refine lv_aload_n hx hb dX12_law_170 rfl (lv_at hl 0 rfl) ?_
    refine gf_X12_129_m0 hC hW dX12_law_171 ?_
    refine lv_iload_n hx hb dX12_law_174 rfl (lv_at hl 1 rfl) ?_
    refine lv_aload_n hx hb dX12_law_175 rfl (lv_at hl 0 rfl) ?_
    refine gf_X12_114_m0 hC hW dX12_law_176 ?_
    refine lv_iload_n hx hb dX12_law_179 rfl (lv_at hl 1 rfl) ?_
    obtain ⟨x32, ex32, hin, h⟩ := mrd_ex h
    refine kr_iald hC hW (wm_35 g μ31) hin ex32 dX12_law_180 ?_
    obtain ⟨μ33, eμ33, hin, h⟩ := mwr_ex h
    refine kr_iast hC hW (wm_40 g μ31) (wms_40 eμ33) hin dX12_law_181 (fun H locs hW => ?_)
    refine lv_aload_n hx hb dX12_law_182 rfl (lv_at hl 0 rfl) ?_
    refine gf_X12_132_m0 hC hW dX12_law_183 ?_
    refine lv_iload_n hx hb dX12_law_186 rfl (lv_at hl 1 rfl) ?_
    refine lv_aload_n hx hb dX12_law_187 rfl (lv_at hl 0 rfl) ?_
    refine gf_X12_117_m0 hC hW dX12_law_188 ?_
    refine lv_iload_n hx hb dX12_law_191 rfl (lv_at hl 1 rfl) ?_
    obtain ⟨x34, ex34, hin, h⟩ := mrd_ex h
    refine kr_iald hC hW (wm_36 g μ33) hin ex34 dX12_law_192 ?_
    obtain ⟨μ35, eμ35, hin, h⟩ := mwr_ex h
    refine kr_iast hC hW (wm_41 g μ33) (wms_41 eμ35) hin dX12_law_193 (fun H locs hW => ?_)
    refine lv_iinc (v := (xs3 + 1)) (lv' := [(3, .int (xs3 + 1)), (0, .ref (ad g 0))]) hx hb dX12_law_194 hl (k := 1) rfl (by rw [oi_1]) (by decide) rfl (fun ls hl => ?_)
    refine lv_goto (tgt := 138) hx hb dX12_law_197 (by decide) ?_
    exact k1 ((xs3 + 1), μ35) (Option.some.inj h).symm _ _ _ (lv_sub hl [1, 0] rfl) hW
set_option maxHeartbeats 4000000 in
set_option maxRecDepth 100000 in
theorem tj_md_law_86 {μ : Mm} (a2 : Int32) (hC : Cx g RX12 cX12_law 4 p s m args c) (hr : meth.sig.returnType = some .int) (hlocks : meth.locks = false) {v : Int32} {u : Mm} (hl : lv_has ls 4 [(0, .ref (ad g 0)), (2, .int a2)]) (hW : wP g wm A s.heap μ H locs) (h : md_law_j86 μ a2 = some (v, u)) : W p l e (rmD 8) s m args below meth c H locs 0 0 (MQ below (Qi g A wm v u) args s 0 0 A) (F0 m 86 ls []) := by
  obtain ⟨hx, hb, hml, hown, hts, hK, hN⟩ := id hC
  unfold md_law_j86 at h
  refine lv_aload_n hx hb dX12_law_86 rfl (lv_at hl 0 rfl) ?_
  refine lv_iconst (v := 0) hx hb dX12_law_87 (by decide) ?_
  obtain ⟨μ20, eμ20, h⟩ := mst_some h
  refine pf_X12_220_m0 hC hW eμ20 dX12_law_88 (fun H locs hW => ?_)
  refine lv_iload_n hx hb dX12_law_91 rfl (lv_at hl 1 rfl) ?_
  refine lv_if_ne (tgt := 100) hx hb dX12_law_92 (by decide) (fun hc21 => ?_) (fun hc21 => ?_)
  · replace h := if_n hc21 h
    refine lv_aload_n hx hb dX12_law_100 rfl (lv_at hl 0 rfl) ?_
    refine lv_aload_n hx hb dX12_law_101 rfl (lv_at hl 0 rfl) ?_
    refine gf_X12_305_m0 hC hW dX12_law_102 ?_
    obtain ⟨μ22, eμ22, h⟩ := mst_some h
    refine pf_X12_317_m0 hC hW eμ22 dX12_law_105 (fun H locs hW => ?_)
    refine lv_iconst (v := 0) hx hb dX12_law_108 (by decide) ?_
    refine lv_istore_n (lv' := [(3, .int 0), (0, .ref (ad g 0)), (2, .int a2)]) hx hb dX12_law_109 rfl hl (by decide) rfl (fun ls hl => ?_)
    obtain ⟨μ26, he38, h⟩ := mbv_some h
    refine tl_md_law_110 hC (fun ls H locs hl hW => ?_) FU (0, μ22) he38 _ _ _ (lv_sub hl [1, 0] rfl) hW
    refine lv_iconst (v := 0) hx hb dX12_law_136 (by decide) ?_
    refine lv_istore_n (lv' := [(3, .int 0), (0, .ref (ad g 0))]) hx hb dX12_law_137 rfl hl (by decide) rfl (fun ls hl => ?_)
    obtain ⟨μ36, he37, h⟩ := mbv_some h
    refine tl_md_law_138 hC (fun ls H locs hl hW => ?_) FU (0, μ26) he37 _ _ _ (lv_sub hl [1, 0] rfl) hW
    refine lv_aload_n hx hb dX12_law_200 rfl (lv_at hl 0 rfl) ?_
    refine gf_X12_305_m0 hC hW dX12_law_201 ?_
    cases h
    exact kr_iret hC hr hlocks hW dX12_law_204
  · replace h := if_p hc21 h
    refine lv_aload_n hx hb dX12_law_95 rfl (lv_at hl 0 rfl) ?_
    refine gf_X12_237_m0 hC hW dX12_law_96 ?_
    cases h
    exact kr_iret hC hr hlocks hW dX12_law_99
set_option maxHeartbeats 4000000 in
set_option maxRecDepth 100000 in
theorem t_md_law {l : Launch} {g : Gx} {A : Nat → Prop} {μ : Mm} {a1 : Int32} {v : Int32} {u : Mm} (h : md_law μ a1 = some (v, u)) : Cti l g A wm yX12_law cX12_law 4 (some .int) 8 [.ref (ad g 0), .int a1] μ v u := by
  refine ent (lv := [(0, .ref (ad g 0)), (1, .int a1)]) (by decide) (Nat.le_of_ble_eq_true rfl) rfl ?_
  intro p e s m args below meth c hC hr hlocks hnm hW ls hl
  replace hC : Cx g RX12 cX12_law 4 p s m args c := hC
  obtain ⟨hx, hb, hml, hown, hts, hK, hN⟩ := id hC
  unfold md_law at h
  refine lv_iload_n hx hb dX12_law_0 rfl (lv_at hl 1 rfl) ?_
  refine lv_iconst (v := 1) hx hb dX12_law_1 (by decide) ?_
  refine lv_sipush (v := 200) hx hb dX12_law_2 (by decide) ?_
  obtain ⟨x1, hx1, h⟩ := mbv_some h
  refine kr_ci hC hW (kr_runS hC hW hl.1 (t_md_in hx1) cw_X12_199 rfl rfl (Nat.le_of_ble_eq_true rfl) dX12_law_5 (by decide)) (fun H locs hW => ?_)
  refine lv_if_eq (tgt := 19) hx hb dX12_law_8 (by decide) (fun hc2 => ?_) (fun hc2 => ?_)
  · replace h := if_p hc2 h
    refine lv_iconst (v := (-1)) hx hb dX12_law_19 (by decide) ?_
    cases h
    exact kr_iret hC hr hlocks hW dX12_law_20
  · replace h := if_n hc2 h
    refine lv_iload_n hx hb dX12_law_11 rfl (lv_at hl 1 rfl) ?_
    refine lv_aload_n hx hb dX12_law_12 rfl (lv_at hl 0 rfl) ?_
    refine gf_X12_220_m0 hC hW dX12_law_13 ?_
    refine lv_icmp_le (tgt := 21) hx hb dX12_law_16 (by decide) (fun hc3 => ?_) (fun hc3 => ?_)
    · replace h := if_p hc3 h
      refine lv_aload_n hx hb dX12_law_21 rfl (lv_at hl 0 rfl) ?_
      refine lv_iconst (v := 0) hx hb dX12_law_22 (by decide) ?_
      obtain ⟨μ4, eμ4, h⟩ := mst_some h
      refine pf_X12_227_m0 hC hW eμ4 dX12_law_23 (fun H locs hW => ?_)
      refine lv_aload_n hx hb dX12_law_26 rfl (lv_at hl 0 rfl) ?_
      refine lv_iload_n hx hb dX12_law_27 rfl (lv_at hl 1 rfl) ?_
      obtain ⟨μ5, eμ5, h⟩ := mst_some h
      refine pf_X12_230_m0 hC hW eμ5 dX12_law_28 (fun H locs hW => ?_)
      refine lv_aload_n hx hb dX12_law_31 rfl (lv_at hl 0 rfl) ?_
      refine lv_iconst (v := 0) hx hb dX12_law_32 (by decide) ?_
      obtain ⟨μ6, eμ6, h⟩ := mst_some h
      refine pf_X12_251_m0 hC hW eμ6 dX12_law_33 (fun H locs hW => ?_)
      refine lv_aload_n hx hb dX12_law_36 rfl (lv_at hl 0 rfl) ?_
      refine lv_iconst (v := 0) hx hb dX12_law_37 (by decide) ?_
      obtain ⟨μ7, eμ7, h⟩ := mst_some h
      refine pf_X12_305_m0 hC hW eμ7 dX12_law_38 (fun H locs hW => ?_)
      refine lv_aload_n hx hb dX12_law_41 rfl (lv_at hl 0 rfl) ?_
      obtain ⟨x8, μ9, hx8, h⟩ := mbm_some h
      refine kr_ci hC hW (kr_runV hC hW hl.1 (t_md_readsClause hx8) cw_X12_311 (wm_0 g μ7) rfl rfl rfl (Nat.le_of_ble_eq_true rfl) dX12_law_42 (by decide)) (fun H locs hW => ?_)
      refine lv_istore_n (lv' := [(2, .int (bI x8)), (0, .ref (ad g 0)), (1, .int a1)]) hx hb dX12_law_45 rfl hl (by decide) rfl (fun ls hl => ?_)
      obtain ⟨e0, he39, h⟩ := mbv_some h
      obtain ⟨x18, μ19, ee, h9⟩ := un2_ex h
      clear h
      subst ee
      have h := h9
      clear h9
      refine tl_md_law_46 hC (fun ls H locs hl hW => ?_) FU ((bI x8), μ9) he39 _ _ _ (lv_sub hl [1, 0] rfl) hW
      exact tj_md_law_86 x18 hC hr hlocks (lv_sub hl [0, 1] rfl) hW h
    · replace h := if_n hc3 h
      refine lv_iconst (v := (-1)) hx hb dX12_law_19 (by decide) ?_
      cases h
      exact kr_iret hC hr hlocks hW dX12_law_20
set_option maxHeartbeats 4000000 in
set_option maxRecDepth 100000 in
theorem t_md_reckon {l : Launch} {g : Gx} {A : Nat → Prop} {Wd : Gx → Mm → va_W} {μ : Mm} {a0 : Int32} {a1 : Int32} {a2 : Int32} {v : Int32} (h : md_reckon a0 a1 a2 = some v) : Cti l g A Wd yX12_reckon cX12_reckon 3 (some .int) 0 [.int a0, .int a1, .int a2] μ v μ := by
  refine ent (lv := [(0, .int a0), (1, .int a1), (2, .int a2)]) (by decide) (Nat.le_of_ble_eq_true rfl) rfl ?_
  intro p e s m args below meth c hC hr hlocks hnm hW ls hl
  replace hC : Cx g RX12 cX12_reckon 3 p s m args c := hC
  obtain ⟨hx, hb, hml, hown, hts, hK, hN⟩ := id hC
  unfold md_reckon at h
  refine lv_iload_n hx hb dX12_reckon_0 rfl (lv_at hl 0 rfl) ?_
  by_cases hc1 : a0 = 2
  · replace h := if_p hc1 h
    refine lv_tableIn (off := 43) (tgt := 44) hx hb dX12_reckon_1 (by rw [hc1]; decide) (by rw [hc1]; decide) (by rw [hc1]; rfl) (by decide) ?_
    refine lv_iload_n hx hb dX12_reckon_44 rfl (lv_at hl 1 rfl) ?_
    refine lv_iload_n hx hb dX12_reckon_45 rfl (lv_at hl 2 rfl) ?_
    refine lv_iadd hx hb dX12_reckon_46 ?_
    cases h
    exact kr_iret hC hr hlocks hW dX12_reckon_47
  replace h := if_n hc1 h
  by_cases hc2 : a0 = 3
  · replace h := if_p hc2 h
    refine lv_tableIn (off := 47) (tgt := 48) hx hb dX12_reckon_1 (by rw [hc2]; decide) (by rw [hc2]; decide) (by rw [hc2]; rfl) (by decide) ?_
    refine lv_iload_n hx hb dX12_reckon_48 rfl (lv_at hl 1 rfl) ?_
    refine lv_iload_n hx hb dX12_reckon_49 rfl (lv_at hl 2 rfl) ?_
    refine lv_isub hx hb dX12_reckon_50 ?_
    cases h
    exact kr_iret hC hr hlocks hW dX12_reckon_51
  replace h := if_n hc2 h
  by_cases hc3 : a0 = 4
  · replace h := if_p hc3 h
    refine lv_tableIn (off := 51) (tgt := 52) hx hb dX12_reckon_1 (by rw [hc3]; decide) (by rw [hc3]; decide) (by rw [hc3]; rfl) (by decide) ?_
    refine lv_iload_n hx hb dX12_reckon_52 rfl (lv_at hl 1 rfl) ?_
    refine lv_iload_n hx hb dX12_reckon_53 rfl (lv_at hl 2 rfl) ?_
    refine lv_imul hx hb dX12_reckon_54 ?_
    cases h
    exact kr_iret hC hr hlocks hW dX12_reckon_55
  replace h := if_n hc3 h
  by_cases hc4 : a0 = 5
  · replace h := if_p hc4 h
    refine lv_tableIn (off := 55) (tgt := 56) hx hb dX12_reckon_1 (by rw [hc4]; decide) (by rw [hc4]; decide) (by rw [hc4]; rfl) (by decide) ?_
    refine lv_iload_n hx hb dX12_reckon_56 rfl (lv_at hl 1 rfl) ?_
    refine lv_iload_n hx hb dX12_reckon_57 rfl (lv_at hl 2 rfl) ?_
    obtain ⟨hz5, h⟩ := mdv_some h
    refine lv_idiv hx hb dX12_reckon_58 hz5 ?_
    cases h
    exact kr_iret hC hr hlocks hW dX12_reckon_59
  replace h := if_n hc4 h
  by_cases hc6 : a0 = 6
  · replace h := if_p hc6 h
    refine lv_tableIn (off := 59) (tgt := 60) hx hb dX12_reckon_1 (by rw [hc6]; decide) (by rw [hc6]; decide) (by rw [hc6]; rfl) (by decide) ?_
    refine lv_iload_n hx hb dX12_reckon_60 rfl (lv_at hl 1 rfl) ?_
    refine lv_iload_n hx hb dX12_reckon_61 rfl (lv_at hl 2 rfl) ?_
    obtain ⟨hz7, h⟩ := mdv_some h
    refine lv_irem hx hb dX12_reckon_62 hz7 ?_
    cases h
    exact kr_iret hC hr hlocks hW dX12_reckon_63
  replace h := if_n hc6 h
  by_cases hc8 : a0 = 7
  · replace h := if_p hc8 h
    refine lv_tableIn (off := 63) (tgt := 64) hx hb dX12_reckon_1 (by rw [hc8]; decide) (by rw [hc8]; decide) (by rw [hc8]; rfl) (by decide) ?_
    refine lv_iload_n hx hb dX12_reckon_64 rfl (lv_at hl 1 rfl) ?_
    refine lv_iload_n hx hb dX12_reckon_65 rfl (lv_at hl 2 rfl) ?_
    refine lv_icmp_ge (tgt := 73) hx hb dX12_reckon_66 (by decide) (fun hc9 => ?_) (fun hc9 => ?_)
    · replace h := if_p hc9 h
      refine lv_iconst (v := 0) hx hb dX12_reckon_73 (by decide) ?_
      cases h
      exact kr_iret hC hr hlocks hW dX12_reckon_74
    · replace h := if_n hc9 h
      refine lv_iconst (v := 1) hx hb dX12_reckon_69 (by decide) ?_
      refine lv_goto (tgt := 74) hx hb dX12_reckon_70 (by decide) ?_
      cases h
      exact kr_iret hC hr hlocks hW dX12_reckon_74
  replace h := if_n hc8 h
  by_cases hc10 : a0 = 8
  · replace h := if_p hc10 h
    refine lv_tableIn (off := 74) (tgt := 75) hx hb dX12_reckon_1 (by rw [hc10]; decide) (by rw [hc10]; decide) (by rw [hc10]; rfl) (by decide) ?_
    refine lv_iload_n hx hb dX12_reckon_75 rfl (lv_at hl 1 rfl) ?_
    refine lv_iload_n hx hb dX12_reckon_76 rfl (lv_at hl 2 rfl) ?_
    refine lv_icmp_le (tgt := 84) hx hb dX12_reckon_77 (by decide) (fun hc11 => ?_) (fun hc11 => ?_)
    · replace h := if_p hc11 h
      refine lv_iconst (v := 0) hx hb dX12_reckon_84 (by decide) ?_
      cases h
      exact kr_iret hC hr hlocks hW dX12_reckon_85
    · replace h := if_n hc11 h
      refine lv_iconst (v := 1) hx hb dX12_reckon_80 (by decide) ?_
      refine lv_goto (tgt := 85) hx hb dX12_reckon_81 (by decide) ?_
      cases h
      exact kr_iret hC hr hlocks hW dX12_reckon_85
  replace h := if_n hc10 h
  have thc1 := lv_neT (a := 2) hc1 (by decide)
  have thc2 := lv_neT (a := 3) hc2 (by decide)
  have thc3 := lv_neT (a := 4) hc3 (by decide)
  have thc4 := lv_neT (a := 5) hc4 (by decide)
  have thc6 := lv_neT (a := 6) hc6 (by decide)
  have thc8 := lv_neT (a := 7) hc8 (by decide)
  have thc10 := lv_neT (a := 8) hc10 (by decide)
  refine lv_tableOut (tgt := 86) hx hb dX12_reckon_1 (by omega) (by decide) ?_
  refine lv_iload_n hx hb dX12_reckon_86 rfl (lv_at hl 1 rfl) ?_
  refine lv_iload_n hx hb dX12_reckon_87 rfl (lv_at hl 2 rfl) ?_
  refine lv_icmp_ne (tgt := 95) hx hb dX12_reckon_88 (by decide) (fun hc12 => ?_) (fun hc12 => ?_)
  · replace h := if_n hc12 h
    refine lv_iconst (v := 0) hx hb dX12_reckon_95 (by decide) ?_
    cases h
    exact kr_iret hC hr hlocks hW dX12_reckon_96
  · replace h := if_p hc12 h
    refine lv_iconst (v := 1) hx hb dX12_reckon_91 (by decide) ?_
    refine lv_goto (tgt := 96) hx hb dX12_reckon_92 (by decide) ?_
    cases h
    exact kr_iret hC hr hlocks hW dX12_reckon_96
set_option maxHeartbeats 4000000 in
set_option maxRecDepth 100000 in
theorem tj_md_comesTo_63 {μ : Mm} (a2 : Int32) (a3 : Int32) (a4 : Int32) (a5 : Int32) (a6 : Int32) (a7 : Int32) (hC : Cx g RX12 cX12_comesTo 8 p s m args c) {e0 : (Mm) ⊕ (Mm)} {r : (Int32 × Int32 × Mm) ⊕ ((Mm) ⊕ (Mm))} (k1 : ∀ q, r = .inl q → ∀ (ls : Array Slot) (H : Heap) (locs : List Loc), lv_has ls 8 [(0, .ref (ad g 0)), (2, .int a2), (3, .int q.1), (4, .int a4), (5, .int q.2.1)] → wP g wm A s.heap q.2.2 H locs → W p l e (rmD 1) s m args below meth c H locs 0 0 Q (F0 m 16 ls [])) (k2 : ∀ e', r = .inr e' → e' = e0) (kx0 : (Sum.elim (fun a => ∀ (ls : Array Slot) (H : Heap) (locs : List Loc), lv_has ls 8 [] → wP g wm A s.heap a H locs → W p l e (rmD 1) s m args below meth c H locs 0 0 Q (F0 m 201 ls [])) (fun _ => True)) e0) (kx1 : (Sum.elim (fun _ => True) (fun a => ∀ (ls : Array Slot) (H : Heap) (locs : List Loc), lv_has ls 8 [(0, .ref (ad g 0))] → wP g wm A s.heap a H locs → W p l e (rmD 1) s m args below meth c H locs 0 0 Q (F0 m 233 ls []))) e0)  (hl : lv_has ls 8 [(0, .ref (ad g 0)), (2, .int a2), (3, .int a3), (4, .int a4), (5, .int a5), (6, .int a6), (7, .int a7)]) (hW : wP g wm A s.heap μ H locs) (h : md_comesTo_j63 μ a2 a3 a4 a5 a6 a7 = some r) : W p l e (rmD 1) s m args below meth c H locs 0 0 Q (F0 m 63 ls []) := by
  obtain ⟨hx, hb, hml, hown, hts, hK, hN⟩ := id hC
  unfold md_comesTo_j63 at h
  refine lv_aload_n hx hb dX12_comesTo_63 rfl (lv_at hl 0 rfl) ?_
  refine gf_X12_135_m0 hC hW dX12_comesTo_64 ?_
  refine lv_iload_n hx hb dX12_comesTo_67 rfl (lv_at hl 2 rfl) ?_
  refine lv_iload hx hb dX12_comesTo_68 (lv_at hl 5 rfl) ?_
  refine lv_if_ne (tgt := 78) hx hb dX12_comesTo_70 (by decide) (fun hc5 => ?_) (fun hc5 => ?_)
  · replace h := if_n hc5 h
    refine lv_aload_n hx hb dX12_comesTo_78 rfl (lv_at hl 0 rfl) ?_
    refine gf_X12_138_m0 hC hW dX12_comesTo_79 ?_
    refine lv_iload hx hb dX12_comesTo_82 (lv_at hl 6 rfl) ?_
    obtain ⟨x6, ex6, hin, h⟩ := mrd_ex h
    refine kr_iald hC hW (wm_43 g μ) hin ex6 dX12_comesTo_84 ?_
    obtain ⟨μ7, eμ7, hin, h⟩ := mwr_ex h
    refine kr_iast hC hW (wm_42 g μ) (wms_42 eμ7) hin dX12_comesTo_85 (fun H locs hW => ?_)
    refine lv_iload_n hx hb dX12_comesTo_86 rfl (lv_at hl 2 rfl) ?_
    refine lv_iconst (v := 1) hx hb dX12_comesTo_87 (by decide) ?_
    refine lv_iadd hx hb dX12_comesTo_88 ?_
    refine lv_istore_n (lv' := [(3, .int (a3 + 1)), (0, .ref (ad g 0)), (2, .int a2), (4, .int a4), (5, .int a5), (6, .int a6), (7, .int a7)]) hx hb dX12_comesTo_89 rfl hl (by decide) rfl (fun ls hl => ?_)
    refine lv_goto (tgt := 230) hx hb dX12_comesTo_90 (by decide) ?_
    refine lv_goto (tgt := 16) hx hb dX12_comesTo_230 (by decide) ?_
    exact k1 ((a3 + 1), a5, μ7) (Option.some.inj h).symm _ _ _ (lv_sub hl [1, 2, 0, 3, 4] rfl) hW
  · replace h := if_p hc5 h
    refine lv_iload hx hb dX12_comesTo_73 (lv_at hl 6 rfl) ?_
    refine lv_goto (tgt := 85) hx hb dX12_comesTo_75 (by decide) ?_
    obtain ⟨μ8, eμ8, hin, h⟩ := mwr_ex h
    refine kr_iast hC hW (wm_42 g μ) (wms_42 eμ8) hin dX12_comesTo_85 (fun H locs hW => ?_)
    refine lv_iload_n hx hb dX12_comesTo_86 rfl (lv_at hl 2 rfl) ?_
    refine lv_iconst (v := 1) hx hb dX12_comesTo_87 (by decide) ?_
    refine lv_iadd hx hb dX12_comesTo_88 ?_
    refine lv_istore_n (lv' := [(3, .int (a3 + 1)), (0, .ref (ad g 0)), (2, .int a2), (4, .int a4), (5, .int a5), (6, .int a6), (7, .int a7)]) hx hb dX12_comesTo_89 rfl hl (by decide) rfl (fun ls hl => ?_)
    refine lv_goto (tgt := 230) hx hb dX12_comesTo_90 (by decide) ?_
    refine lv_goto (tgt := 16) hx hb dX12_comesTo_230 (by decide) ?_
    exact k1 ((a3 + 1), a5, μ8) (Option.some.inj h).symm _ _ _ (lv_sub hl [1, 2, 0, 3, 4] rfl) hW
set_option maxHeartbeats 4000000 in
set_option maxRecDepth 100000 in
theorem tj_md_comesTo_135 {μ : Mm} (a2 : Int32) (a3 : Int32) (a4 : Int32) (a5 : Int32) (a6 : Int32) (a7 : Int32) (hC : Cx g RX12 cX12_comesTo 8 p s m args c) {e0 : (Mm) ⊕ (Mm)} {r : (Int32 × Int32 × Mm) ⊕ ((Mm) ⊕ (Mm))} (k1 : ∀ q, r = .inl q → ∀ (ls : Array Slot) (H : Heap) (locs : List Loc), lv_has ls 8 [(0, .ref (ad g 0)), (2, .int a2), (3, .int q.1), (4, .int a4), (5, .int q.2.1)] → wP g wm A s.heap q.2.2 H locs → W p l e (rmD 1) s m args below meth c H locs 0 0 Q (F0 m 16 ls [])) (k2 : ∀ e', r = .inr e' → e' = e0) (kx0 : (Sum.elim (fun a => ∀ (ls : Array Slot) (H : Heap) (locs : List Loc), lv_has ls 8 [] → wP g wm A s.heap a H locs → W p l e (rmD 1) s m args below meth c H locs 0 0 Q (F0 m 201 ls [])) (fun _ => True)) e0) (kx1 : (Sum.elim (fun _ => True) (fun a => ∀ (ls : Array Slot) (H : Heap) (locs : List Loc), lv_has ls 8 [(0, .ref (ad g 0))] → wP g wm A s.heap a H locs → W p l e (rmD 1) s m args below meth c H locs 0 0 Q (F0 m 233 ls []))) e0)  (hl : lv_has ls 8 [(0, .ref (ad g 0)), (2, .int a2), (3, .int a3), (4, .int a4), (5, .int a5), (6, .int a6), (7, .int a7)]) (hW : wP g wm A s.heap μ H locs) (h : md_comesTo_j135 μ a2 a3 a4 a5 a6 a7 = some r) : W p l e (rmD 1) s m args below meth c H locs 0 0 Q (F0 m 135 ls []) := by
  obtain ⟨hx, hb, hml, hown, hts, hK, hN⟩ := id hC
  unfold md_comesTo_j135 at h
  refine lv_aload_n hx hb dX12_comesTo_135 rfl (lv_at hl 0 rfl) ?_
  refine gf_X12_135_m0 hC hW dX12_comesTo_136 ?_
  refine lv_iload_n hx hb dX12_comesTo_139 rfl (lv_at hl 2 rfl) ?_
  refine lv_iconst (v := 1) hx hb dX12_comesTo_140 (by decide) ?_
  refine lv_isub hx hb dX12_comesTo_141 ?_
  obtain ⟨x12, ex12, hin, h⟩ := mrd_ex h
  refine kr_iald hC hW (wm_42 g μ) hin ex12 dX12_comesTo_142 ?_
  refine lv_iload hx hb dX12_comesTo_143 (lv_at hl 5 rfl) ?_
  refine lv_bipush (v := 12) hx hb dX12_comesTo_145 (by decide) ?_
  refine lv_icmp_ne (tgt := 154) hx hb dX12_comesTo_147 (by decide) (fun hc13 => ?_) (fun hc13 => ?_)
  · replace h := if_n hc13 h
    refine lv_iconst (v := 0) hx hb dX12_comesTo_154 (by decide) ?_
    refine lv_icmp_ne (tgt := 168) hx hb dX12_comesTo_155 (by decide) (fun hc14 => ?_) (fun hc14 => ?_)
    · replace h := if_n hc14 h
      refine lv_iload_n hx hb dX12_comesTo_168 rfl (lv_at hl 2 rfl) ?_
      refine lv_iconst (v := 1) hx hb dX12_comesTo_169 (by decide) ?_
      refine lv_isub hx hb dX12_comesTo_170 ?_
      refine lv_istore_n (lv' := [(3, .int (a3 - 1)), (0, .ref (ad g 0)), (2, .int a2), (4, .int a4), (5, .int a5), (6, .int a6), (7, .int a7)]) hx hb dX12_comesTo_171 rfl hl (by decide) rfl (fun ls hl => ?_)
      refine lv_goto (tgt := 230) hx hb dX12_comesTo_172 (by decide) ?_
      refine lv_goto (tgt := 16) hx hb dX12_comesTo_230 (by decide) ?_
      exact k1 ((a3 - 1), a5, μ) (Option.some.inj h).symm _ _ _ (lv_sub hl [1, 2, 0, 3, 4] rfl) hW
    · replace h := if_p hc14 h
      refine lv_iload hx hb dX12_comesTo_158 (lv_at hl 3 rfl) ?_
      refine lv_iload hx hb dX12_comesTo_160 (lv_at hl 6 rfl) ?_
      refine lv_iadd hx hb dX12_comesTo_162 ?_
      refine lv_istore (lv' := [(5, .int (a4 + a7)), (0, .ref (ad g 0)), (2, .int a2), (3, .int a3), (4, .int a4), (6, .int a6), (7, .int a7)]) hx hb dX12_comesTo_163 hl (by decide) rfl (fun ls hl => ?_)
      refine lv_goto (tgt := 230) hx hb dX12_comesTo_165 (by decide) ?_
      refine lv_goto (tgt := 16) hx hb dX12_comesTo_230 (by decide) ?_
      exact k1 (a3, (a4 + a7), μ) (Option.some.inj h).symm _ _ _ (lv_sub hl [1, 2, 3, 4, 0] rfl) hW
  · replace h := if_p hc13 h
    refine lv_iconst (v := 1) hx hb dX12_comesTo_150 (by decide) ?_
    refine lv_goto (tgt := 155) hx hb dX12_comesTo_151 (by decide) ?_
    refine lv_icmp_ne (tgt := 168) hx hb dX12_comesTo_155 (by decide) (fun hc15 => ?_) (fun hc15 => ?_)
    · replace h := if_n hc15 h
      refine lv_iload_n hx hb dX12_comesTo_168 rfl (lv_at hl 2 rfl) ?_
      refine lv_iconst (v := 1) hx hb dX12_comesTo_169 (by decide) ?_
      refine lv_isub hx hb dX12_comesTo_170 ?_
      refine lv_istore_n (lv' := [(3, .int (a3 - 1)), (0, .ref (ad g 0)), (2, .int a2), (4, .int a4), (5, .int a5), (6, .int a6), (7, .int a7)]) hx hb dX12_comesTo_171 rfl hl (by decide) rfl (fun ls hl => ?_)
      refine lv_goto (tgt := 230) hx hb dX12_comesTo_172 (by decide) ?_
      refine lv_goto (tgt := 16) hx hb dX12_comesTo_230 (by decide) ?_
      exact k1 ((a3 - 1), a5, μ) (Option.some.inj h).symm _ _ _ (lv_sub hl [1, 2, 0, 3, 4] rfl) hW
    · replace h := if_p hc15 h
      refine lv_iload hx hb dX12_comesTo_158 (lv_at hl 3 rfl) ?_
      refine lv_iload hx hb dX12_comesTo_160 (lv_at hl 6 rfl) ?_
      refine lv_iadd hx hb dX12_comesTo_162 ?_
      refine lv_istore (lv' := [(5, .int (a4 + a7)), (0, .ref (ad g 0)), (2, .int a2), (3, .int a3), (4, .int a4), (6, .int a6), (7, .int a7)]) hx hb dX12_comesTo_163 hl (by decide) rfl (fun ls hl => ?_)
      refine lv_goto (tgt := 230) hx hb dX12_comesTo_165 (by decide) ?_
      refine lv_goto (tgt := 16) hx hb dX12_comesTo_230 (by decide) ?_
      exact k1 (a3, (a4 + a7), μ) (Option.some.inj h).symm _ _ _ (lv_sub hl [1, 2, 3, 4, 0] rfl) hW
set_option maxHeartbeats 4000000 in
set_option maxRecDepth 100000 in
theorem tj_md_comesTo_203 {μ : Mm} (a2 : Int32) (a3 : Int32) (a4 : Int32) (a5 : Int32) (a6 : Int32) (hC : Cx g RX12 cX12_comesTo 8 p s m args c) {e0 : (Mm) ⊕ (Mm)} {r : (Int32 × Int32 × Mm) ⊕ ((Mm) ⊕ (Mm))} (k1 : ∀ q, r = .inl q → ∀ (ls : Array Slot) (H : Heap) (locs : List Loc), lv_has ls 8 [(0, .ref (ad g 0)), (2, .int a2), (3, .int q.1), (4, .int a4), (5, .int q.2.1)] → wP g wm A s.heap q.2.2 H locs → W p l e (rmD 1) s m args below meth c H locs 0 0 Q (F0 m 16 ls [])) (k2 : ∀ e', r = .inr e' → e' = e0) (kx0 : (Sum.elim (fun a => ∀ (ls : Array Slot) (H : Heap) (locs : List Loc), lv_has ls 8 [] → wP g wm A s.heap a H locs → W p l e (rmD 1) s m args below meth c H locs 0 0 Q (F0 m 201 ls [])) (fun _ => True)) e0) (kx1 : (Sum.elim (fun _ => True) (fun a => ∀ (ls : Array Slot) (H : Heap) (locs : List Loc), lv_has ls 8 [(0, .ref (ad g 0))] → wP g wm A s.heap a H locs → W p l e (rmD 1) s m args below meth c H locs 0 0 Q (F0 m 233 ls []))) e0)  (hl : lv_has ls 8 [(0, .ref (ad g 0)), (2, .int a2), (3, .int a3), (4, .int a4), (5, .int a5), (6, .int a6)]) (hW : wP g wm A s.heap μ H locs) (h : md_comesTo_j203 μ a2 a3 a4 a5 a6 = some r) : W p l e (rmD 1) s m args below meth c H locs 0 0 Q (F0 m 203 ls []) := by
  obtain ⟨hx, hb, hml, hown, hts, hK, hN⟩ := id hC
  unfold md_comesTo_j203 at h
  refine lv_aload_n hx hb dX12_comesTo_203 rfl (lv_at hl 0 rfl) ?_
  refine gf_X12_135_m0 hC hW dX12_comesTo_204 ?_
  refine lv_iload_n hx hb dX12_comesTo_207 rfl (lv_at hl 2 rfl) ?_
  refine lv_iconst (v := 1) hx hb dX12_comesTo_208 (by decide) ?_
  refine lv_isub hx hb dX12_comesTo_209 ?_
  refine lv_iload hx hb dX12_comesTo_210 (lv_at hl 5 rfl) ?_
  refine lv_aload_n hx hb dX12_comesTo_212 rfl (lv_at hl 0 rfl) ?_
  refine gf_X12_135_m0 hC hW dX12_comesTo_213 ?_
  refine lv_iload_n hx hb dX12_comesTo_216 rfl (lv_at hl 2 rfl) ?_
  refine lv_iconst (v := 1) hx hb dX12_comesTo_217 (by decide) ?_
  refine lv_isub hx hb dX12_comesTo_218 ?_
  obtain ⟨x20, ex20, hin, h⟩ := mrd_ex h
  refine kr_iald hC hW (wm_42 g μ) hin ex20 dX12_comesTo_219 ?_
  refine lv_aload_n hx hb dX12_comesTo_220 rfl (lv_at hl 0 rfl) ?_
  refine gf_X12_135_m0 hC hW dX12_comesTo_221 ?_
  refine lv_iload_n hx hb dX12_comesTo_224 rfl (lv_at hl 2 rfl) ?_
  obtain ⟨x21, ex21, hin, h⟩ := mrd_ex h
  refine kr_iald hC hW (wm_42 g μ) hin ex21 dX12_comesTo_225 ?_
  obtain ⟨x22, hx22, h⟩ := mbv_some h
  refine kr_ci hC hW (kr_runS hC hW hl.1 (t_md_reckon hx22) cw_X12_320 rfl rfl (Nat.le_of_ble_eq_true rfl) dX12_comesTo_226 (by decide)) (fun H locs hW => ?_)
  obtain ⟨μ23, eμ23, hin, h⟩ := mwr_ex h
  refine kr_iast hC hW (wm_42 g μ) (wms_42 eμ23) hin dX12_comesTo_229 (fun H locs hW => ?_)
  refine lv_goto (tgt := 16) hx hb dX12_comesTo_230 (by decide) ?_
  exact k1 (a3, a5, μ23) (Option.some.inj h).symm _ _ _ (lv_sub hl [0, 1, 2, 3, 4] rfl) hW
set_option maxHeartbeats 4000000 in
set_option maxRecDepth 100000 in
theorem tj_md_comesTo_192 {μ : Mm} (a2 : Int32) (a3 : Int32) (a4 : Int32) (a5 : Int32) (a6 : Int32) (hC : Cx g RX12 cX12_comesTo 8 p s m args c) {e0 : (Mm) ⊕ (Mm)} {r : (Int32 × Int32 × Mm) ⊕ ((Mm) ⊕ (Mm))} (k1 : ∀ q, r = .inl q → ∀ (ls : Array Slot) (H : Heap) (locs : List Loc), lv_has ls 8 [(0, .ref (ad g 0)), (2, .int a2), (3, .int q.1), (4, .int a4), (5, .int q.2.1)] → wP g wm A s.heap q.2.2 H locs → W p l e (rmD 1) s m args below meth c H locs 0 0 Q (F0 m 16 ls [])) (k2 : ∀ e', r = .inr e' → e' = e0) (kx0 : (Sum.elim (fun a => ∀ (ls : Array Slot) (H : Heap) (locs : List Loc), lv_has ls 8 [] → wP g wm A s.heap a H locs → W p l e (rmD 1) s m args below meth c H locs 0 0 Q (F0 m 201 ls [])) (fun _ => True)) e0) (kx1 : (Sum.elim (fun _ => True) (fun a => ∀ (ls : Array Slot) (H : Heap) (locs : List Loc), lv_has ls 8 [(0, .ref (ad g 0))] → wP g wm A s.heap a H locs → W p l e (rmD 1) s m args below meth c H locs 0 0 Q (F0 m 233 ls []))) e0)  (hl : lv_has ls 8 [(0, .ref (ad g 0)), (2, .int a2), (3, .int a3), (4, .int a4), (5, .int a5), (6, .int a6)]) (hW : wP g wm A s.heap μ H locs) (h : md_comesTo_j192 μ a2 a3 a4 a5 a6 = some r) : W p l e (rmD 1) s m args below meth c H locs 0 0 Q (F0 m 192 ls []) := by
  obtain ⟨hx, hb, hml, hown, hts, hK, hN⟩ := id hC
  unfold md_comesTo_j192 at h
  refine lv_aload_n hx hb dX12_comesTo_192 rfl (lv_at hl 0 rfl) ?_
  refine gf_X12_135_m0 hC hW dX12_comesTo_193 ?_
  refine lv_iload_n hx hb dX12_comesTo_196 rfl (lv_at hl 2 rfl) ?_
  obtain ⟨x18, ex18, hin, h⟩ := mrd_ex h
  refine kr_iald hC hW (wm_42 g μ) hin ex18 dX12_comesTo_197 ?_
  refine lv_if_ne (tgt := 203) hx hb dX12_comesTo_198 (by decide) (fun hc19 => ?_) (fun hc19 => ?_)
  · replace h := if_n hc19 h
    exact tj_md_comesTo_203 a2 a3 a4 a5 a6 hC k1 k2 kx0 kx1 (lv_sub hl [0, 1, 2, 3, 4, 5] rfl) hW h
  · replace h := if_p hc19 h
    obtain rfl := k2 _ (Option.some.inj h).symm
    exact kx0 _ _ _ (lv_sub hl [] rfl) hW
set_option maxHeartbeats 4000000 in
set_option maxRecDepth 100000 in
theorem tl_md_comesTo_16 (a2 : Int32) (a4 : Int32) (hC : Cx g RX12 cX12_comesTo 8 p s m args c) {e0 : (Mm) ⊕ (Mm)} (kx0 : (Sum.elim (fun a => ∀ (ls : Array Slot) (H : Heap) (locs : List Loc), lv_has ls 8 [] → wP g wm A s.heap a H locs → W p l e (rmD 1) s m args below meth c H locs 0 0 Q (F0 m 201 ls [])) (fun _ => True)) e0) (kx1 : (Sum.elim (fun _ => True) (fun a => ∀ (ls : Array Slot) (H : Heap) (locs : List Loc), lv_has ls 8 [(0, .ref (ad g 0))] → wP g wm A s.heap a H locs → W p l e (rmD 1) s m args below meth c H locs 0 0 Q (F0 m 233 ls []))) e0) : ∀ (n : Nat) (q : Int32 × Int32 × Mm), miter (fun q => md_comesTo_b16 q.2.2 a2 a4 q.1 q.2.1) n q = some e0 → ∀ (ls : Array Slot) (H : Heap) (locs : List Loc), lv_has ls 8 [(0, .ref (ad g 0)), (2, .int a2), (3, .int q.1), (4, .int a4), (5, .int q.2.1)] → wP g wm A s.heap q.2.2 H locs → W p l e (rmD 1) s m args below meth c H locs 0 0 Q (F0 m 16 ls []) := by
  obtain ⟨hx, hb, hml, hown, hts, hK, hN⟩ := id hC
  refine miter_ind (fun q r hf k1 k2 => ?_)
  obtain ⟨xs3, xs5, μ⟩ := q
  intro ls H locs hl hW
  have h : md_comesTo_b16 μ a2 a4 xs3 xs5 = some r := hf
  unfold md_comesTo_b16 at h
  refine lv_iload hx hb dX12_comesTo_16 (lv_at hl 4 rfl) ?_
  refine lv_iload_n hx hb dX12_comesTo_18 rfl (lv_at hl 1 rfl) ?_
  refine lv_icmp_ge (tgt := 233) hx hb dX12_comesTo_19 (by decide) (fun hc1 => ?_) (fun hc1 => ?_)
  · replace h := if_p hc1 h
    obtain rfl := k2 _ (Option.some.inj h).symm
    exact kx1 _ _ _ (lv_sub hl [0] rfl) hW
  · replace h := if_n hc1 h
    refine lv_aload_n hx hb dX12_comesTo_22 rfl (lv_at hl 0 rfl) ?_
    refine gf_X12_120_m0 hC hW dX12_comesTo_23 ?_
    refine lv_iload hx hb dX12_comesTo_26 (lv_at hl 4 rfl) ?_
    obtain ⟨x2, ex2, hin, h⟩ := mrd_ex h
    refine kr_iald hC hW (wm_37 g μ) hin ex2 dX12_comesTo_28 ?_
    refine lv_ldc hx hb hown (hts _ tw_1487) dX12_comesTo_29 ?_
    refine lv_idiv hx hb dX12_comesTo_31 (by decide) ?_
    refine lv_istore (lv' := [(6, .int (x2 / 1048576)), (0, .ref (ad g 0)), (2, .int a2), (3, .int xs3), (4, .int a4), (5, .int xs5)]) hx hb dX12_comesTo_32 hl (by decide) rfl (fun ls hl => ?_)
    refine lv_aload_n hx hb dX12_comesTo_34 rfl (lv_at hl 1 rfl) ?_
    refine gf_X12_120_m0 hC hW dX12_comesTo_35 ?_
    refine lv_iload hx hb dX12_comesTo_38 (lv_at hl 5 rfl) ?_
    obtain ⟨x3, ex3, hin, h⟩ := mrd_ex h
    refine kr_iald hC hW (wm_37 g μ) hin ex3 dX12_comesTo_40 ?_
    refine lv_ldc hx hb hown (hts _ tw_1487) dX12_comesTo_41 ?_
    refine lv_irem hx hb dX12_comesTo_43 (by decide) ?_
    refine lv_istore (lv' := [(7, .int (x3 - x3 / 1048576 * 1048576)), (6, .int (x2 / 1048576)), (0, .ref (ad g 0)), (2, .int a2), (3, .int xs3), (4, .int a4), (5, .int xs5)]) hx hb dX12_comesTo_44 hl (by decide) rfl (fun ls hl => ?_)
    refine lv_iload hx hb dX12_comesTo_46 (lv_at hl 6 rfl) ?_
    refine lv_iconst (v := 1) hx hb dX12_comesTo_48 (by decide) ?_
    refine lv_iadd hx hb dX12_comesTo_49 ?_
    refine lv_istore (lv' := [(5, .int (xs5 + 1)), (7, .int (x3 - x3 / 1048576 * 1048576)), (6, .int (x2 / 1048576)), (0, .ref (ad g 0)), (2, .int a2), (3, .int xs3), (4, .int a4)]) hx hb dX12_comesTo_50 hl (by decide) rfl (fun ls hl => ?_)
    refine lv_iload hx hb dX12_comesTo_52 (lv_at hl 2 rfl) ?_
    refine lv_if_eq (tgt := 63) hx hb dX12_comesTo_54 (by decide) (fun hc4 => ?_) (fun hc4 => ?_)
    · replace h := if_p hc4 h
      exact tj_md_comesTo_63 a2 xs3 a4 (xs5 + 1) (x2 / 1048576) (x3 - x3 / 1048576 * 1048576) hC k1 k2 kx0 kx1 (lv_sub hl [3, 4, 5, 6, 0, 2, 1] rfl) hW h
    · replace h := if_n hc4 h
      refine lv_iload hx hb dX12_comesTo_57 (lv_at hl 2 rfl) ?_
      refine lv_iconst (v := 1) hx hb dX12_comesTo_59 (by decide) ?_
      refine lv_icmp_ne (tgt := 93) hx hb dX12_comesTo_60 (by decide) (fun hc9 => ?_) (fun hc9 => ?_)
      · replace h := if_n hc9 h
        refine lv_iload hx hb dX12_comesTo_93 (lv_at hl 2 rfl) ?_
        refine lv_bipush (v := 10) hx hb dX12_comesTo_95 (by decide) ?_
        refine lv_icmp_ne (tgt := 121) hx hb dX12_comesTo_97 (by decide) (fun hc10 => ?_) (fun hc10 => ?_)
        · replace h := if_n hc10 h
          refine lv_iload hx hb dX12_comesTo_121 (lv_at hl 2 rfl) ?_
          refine lv_bipush (v := 11) hx hb dX12_comesTo_123 (by decide) ?_
          refine lv_icmp_eq (tgt := 135) hx hb dX12_comesTo_125 (by decide) (fun hc11 => ?_) (fun hc11 => ?_)
          · replace h := if_p hc11 h
            exact tj_md_comesTo_135 a2 xs3 a4 (xs5 + 1) (x2 / 1048576) (x3 - x3 / 1048576 * 1048576) hC k1 k2 kx0 kx1 (lv_sub hl [3, 4, 5, 6, 0, 2, 1] rfl) hW h
          · replace h := if_n hc11 h
            refine lv_iload hx hb dX12_comesTo_128 (lv_at hl 2 rfl) ?_
            refine lv_bipush (v := 12) hx hb dX12_comesTo_130 (by decide) ?_
            refine lv_icmp_ne (tgt := 175) hx hb dX12_comesTo_132 (by decide) (fun hc16 => ?_) (fun hc16 => ?_)
            · replace h := if_n hc16 h
              refine lv_iload_n hx hb dX12_comesTo_175 rfl (lv_at hl 5 rfl) ?_
              refine lv_iconst (v := 1) hx hb dX12_comesTo_176 (by decide) ?_
              refine lv_isub hx hb dX12_comesTo_177 ?_
              refine lv_istore_n (lv' := [(3, .int (xs3 - 1)), (5, .int (xs5 + 1)), (7, .int (x3 - x3 / 1048576 * 1048576)), (6, .int (x2 / 1048576)), (0, .ref (ad g 0)), (2, .int a2), (4, .int a4)]) hx hb dX12_comesTo_178 rfl hl (by decide) rfl (fun ls hl => ?_)
              refine lv_iload hx hb dX12_comesTo_179 (lv_at hl 3 rfl) ?_
              refine lv_iconst (v := 5) hx hb dX12_comesTo_181 (by decide) ?_
              refine lv_icmp_eq (tgt := 192) hx hb dX12_comesTo_182 (by decide) (fun hc17 => ?_) (fun hc17 => ?_)
              · replace h := if_p hc17 h
                exact tj_md_comesTo_192 a2 (xs3 - 1) a4 (xs5 + 1) (x2 / 1048576) hC k1 k2 kx0 kx1 (lv_sub hl [4, 5, 0, 6, 1, 3] rfl) hW h
              · replace h := if_n hc17 h
                refine lv_iload hx hb dX12_comesTo_185 (lv_at hl 3 rfl) ?_
                refine lv_bipush (v := 6) hx hb dX12_comesTo_187 (by decide) ?_
                refine lv_icmp_ne (tgt := 203) hx hb dX12_comesTo_189 (by decide) (fun hc24 => ?_) (fun hc24 => ?_)
                · replace h := if_n hc24 h
                  exact tj_md_comesTo_203 a2 (xs3 - 1) a4 (xs5 + 1) (x2 / 1048576) hC k1 k2 kx0 kx1 (lv_sub hl [4, 5, 0, 6, 1, 3] rfl) hW h
                · replace h := if_p hc24 h
                  exact tj_md_comesTo_192 a2 (xs3 - 1) a4 (xs5 + 1) (x2 / 1048576) hC k1 k2 kx0 kx1 (lv_sub hl [4, 5, 0, 6, 1, 3] rfl) hW h
            · replace h := if_p hc16 h
              exact tj_md_comesTo_135 a2 xs3 a4 (xs5 + 1) (x2 / 1048576) (x3 - x3 / 1048576 * 1048576) hC k1 k2 kx0 kx1 (lv_sub hl [3, 4, 5, 6, 0, 2, 1] rfl) hW h
        · replace h := if_p hc10 h
          refine lv_aload_n hx hb dX12_comesTo_100 rfl (lv_at hl 3 rfl) ?_
          refine gf_X12_135_m0 hC hW dX12_comesTo_101 ?_
          refine lv_iload_n hx hb dX12_comesTo_104 rfl (lv_at hl 5 rfl) ?_
          refine lv_iconst (v := 1) hx hb dX12_comesTo_105 (by decide) ?_
          refine lv_isub hx hb dX12_comesTo_106 ?_
          refine lv_iconst (v := 1) hx hb dX12_comesTo_107 (by decide) ?_
          refine lv_aload_n hx hb dX12_comesTo_108 rfl (lv_at hl 3 rfl) ?_
          refine gf_X12_135_m0 hC hW dX12_comesTo_109 ?_
          refine lv_iload_n hx hb dX12_comesTo_112 rfl (lv_at hl 5 rfl) ?_
          refine lv_iconst (v := 1) hx hb dX12_comesTo_113 (by decide) ?_
          refine lv_isub hx hb dX12_comesTo_114 ?_
          obtain ⟨x25, ex25, hin, h⟩ := mrd_ex h
          refine kr_iald hC hW (wm_42 g μ) hin ex25 dX12_comesTo_115 ?_
          refine lv_isub hx hb dX12_comesTo_116 ?_
          obtain ⟨μ26, eμ26, hin, h⟩ := mwr_ex h
          refine kr_iast hC hW (wm_42 g μ) (wms_42 eμ26) hin dX12_comesTo_117 (fun H locs hW => ?_)
          refine lv_goto (tgt := 230) hx hb dX12_comesTo_118 (by decide) ?_
          refine lv_goto (tgt := 16) hx hb dX12_comesTo_230 (by decide) ?_
          exact k1 (xs3, (xs5 + 1), μ26) (Option.some.inj h).symm _ _ _ (lv_sub hl [3, 4, 5, 6, 0] rfl) hW
      · replace h := if_p hc9 h
        exact tj_md_comesTo_63 a2 xs3 a4 (xs5 + 1) (x2 / 1048576) (x3 - x3 / 1048576 * 1048576) hC k1 k2 kx0 kx1 (lv_sub hl [3, 4, 5, 6, 0, 2, 1] rfl) hW h
set_option maxHeartbeats 4000000 in
set_option maxRecDepth 100000 in
theorem t_md_comesTo {l : Launch} {g : Gx} {A : Nat → Prop} {μ : Mm} {a1 : Int32} {a2 : Int32} {v : Int32} {u : Mm} (h : md_comesTo μ a1 a2 = some (v, u)) : Cti l g A wm yX12_comesTo cX12_comesTo 8 (some .int) 1 [.ref (ad g 0), .int a1, .int a2] μ v u := by
  refine ent (lv := [(0, .ref (ad g 0)), (1, .int a1), (2, .int a2)]) (by decide) (Nat.le_of_ble_eq_true rfl) rfl ?_
  intro p e s m args below meth c hC hr hlocks hnm hW ls hl
  replace hC : Cx g RX12 cX12_comesTo 8 p s m args c := hC
  obtain ⟨hx, hb, hml, hown, hts, hK, hN⟩ := id hC
  unfold md_comesTo at h
  refine lv_iconst (v := 0) hx hb dX12_comesTo_0 (by decide) ?_
  refine lv_istore_n (lv' := [(3, .int 0), (0, .ref (ad g 0)), (1, .int a1), (2, .int a2)]) hx hb dX12_comesTo_1 rfl hl (by decide) rfl (fun ls hl => ?_)
  refine lv_sipush (v := 220) hx hb dX12_comesTo_2 (by decide) ?_
  refine lv_iload_n hx hb dX12_comesTo_5 rfl (lv_at hl 2 rfl) ?_
  refine lv_sipush (v := 220) hx hb dX12_comesTo_6 (by decide) ?_
  refine lv_idiv hx hb dX12_comesTo_9 (by decide) ?_
  refine lv_imul hx hb dX12_comesTo_10 ?_
  refine lv_istore (lv' := [(4, .int (220 * (a1 / 220))), (3, .int 0), (0, .ref (ad g 0)), (1, .int a1), (2, .int a2)]) hx hb dX12_comesTo_11 hl (by decide) rfl (fun ls hl => ?_)
  refine lv_iload_n hx hb dX12_comesTo_13 rfl (lv_at hl 3 rfl) ?_
  refine lv_istore (lv' := [(5, .int a1), (4, .int (220 * (a1 / 220))), (3, .int 0), (0, .ref (ad g 0)), (1, .int a1), (2, .int a2)]) hx hb dX12_comesTo_14 hl (by decide) rfl (fun ls hl => ?_)
  rcases msum2_ex h with ⟨μ28, he27, h⟩ | ⟨μ29, he27, h⟩
  · refine tl_md_comesTo_16 a2 (220 * (a1 / 220)) hC (e0 := (.inl μ28)) (fun ls H locs hl hW => ?_) trivial FU (0, a1, μ) he27 _ _ _ (lv_sub hl [3, 5, 2, 1, 0] rfl) hW
    refine lv_iconst (v := 0) hx hb dX12_comesTo_201 (by decide) ?_
    cases h
    exact kr_iret hC hr hlocks hW dX12_comesTo_202
  · refine tl_md_comesTo_16 a2 (220 * (a1 / 220)) hC (e0 := (.inr μ29)) trivial (fun ls H locs hl hW => ?_) FU (0, a1, μ) he27 _ _ _ (lv_sub hl [3, 5, 2, 1, 0] rfl) hW
    refine lv_aload_n hx hb dX12_comesTo_233 rfl (lv_at hl 0 rfl) ?_
    refine gf_X12_135_m0 hC hW dX12_comesTo_234 ?_
    refine lv_iconst (v := 0) hx hb dX12_comesTo_237 (by decide) ?_
    obtain ⟨x30, ex30, hin, h⟩ := mrd_ex h
    refine kr_iald hC hW (wm_42 g μ29) hin ex30 dX12_comesTo_238 ?_
    cases h
    exact kr_iret hC hr hlocks hW dX12_comesTo_239
end
