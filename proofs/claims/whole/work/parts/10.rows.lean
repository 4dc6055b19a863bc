section
variable {p : Program} {l : Launch} {e : Env} {s : State} {m : MethodId} {args : Array Value} {below : List Frame} {meth : Method} {c : Code} {H : Heap} {locs : List Loc} {Q : State → Prop} {g : Gx} {A : Nat → Prop} {ls : Array Slot} {Wd : Gx → Mm → va_W}
set_option maxHeartbeats 4000000 in
set_option maxRecDepth 100000 in
theorem t_vs_within {l : Launch} {g : Gx} {A : Nat → Prop} {Wd : Gx → Mm → va_W} {μ : Mm} {a0 : Int32} {a1 : Int32} {a2 : Int32} {v : Bool} (h : vs_within a0 a1 a2 = some v) : Cti l g A Wd yX11_within cX11_within 3 (some .boolean) 0 [.int a0, .int a1, .int a2] μ (bI v) μ := by
  refine ent (lv := [(0, .int a0), (1, .int a1), (2, .int a2)]) (by decide) (Nat.le_of_ble_eq_true rfl) rfl ?_
  intro p e s m args below meth c hC hr hlocks hnm hW ls hl
  replace hC : Cx g RX11 cX11_within 3 p s m args c := hC
  obtain ⟨hx, hb, hml, hown, hts, hK, hN⟩ := id hC
  unfold vs_within at h
  refine lv_iload_n hx hb dX11_within_0 rfl (lv_at hl 0 rfl) ?_
  refine lv_iload_n hx hb dX11_within_1 rfl (lv_at hl 1 rfl) ?_
  refine lv_icmp_lt (tgt := 14) hx hb dX11_within_2 (by decide) (fun hc1 => ?_) (fun hc1 => ?_)
  · replace h := if_p hc1 h
    refine lv_iconst (v := 0) hx hb dX11_within_14 (by decide) ?_
    cases h
    exact kr_zret hC hr hlocks _ rfl hW dX11_within_15
  · replace h := if_n hc1 h
    refine lv_iload_n hx hb dX11_within_5 rfl (lv_at hl 0 rfl) ?_
    refine lv_iload_n hx hb dX11_within_6 rfl (lv_at hl 2 rfl) ?_
    refine lv_icmp_gt (tgt := 14) hx hb dX11_within_7 (by decide) (fun hc2 => ?_) (fun hc2 => ?_)
    · replace h := if_p hc2 h
      refine lv_iconst (v := 0) hx hb dX11_within_14 (by decide) ?_
      cases h
      exact kr_zret hC hr hlocks _ rfl hW dX11_within_15
    · replace h := if_n hc2 h
      refine lv_iconst (v := 1) hx hb dX11_within_10 (by decide) ?_
      refine lv_goto (tgt := 15) hx hb dX11_within_11 (by decide) ?_
      cases h
      exact kr_zret hC hr hlocks _ rfl hW dX11_within_15
set_option maxHeartbeats 4000000 in
set_option maxRecDepth 100000 in
theorem t_vs_now {l : Launch} {g : Gx} {A : Nat → Prop} {μ : Mm} {a1 : Int32} {v : Bool} {u : Mm} (h : vs_now μ a1 = some (v, u)) : Cti l g A wx yX11_now cX11_now 2 (some .boolean) 1 [.ref (ad g 0), .int a1] μ (bI v) u := by
  refine ent (lv := [(0, .ref (ad g 0)), (1, .int a1)]) (by decide) (Nat.le_of_ble_eq_true rfl) rfl ?_
  intro p e s m args below meth c hC hr hlocks hnm hW ls hl
  replace hC : Cx g RX11 cX11_now 2 p s m args c := hC
  obtain ⟨hx, hb, hml, hown, hts, hK, hN⟩ := id hC
  unfold vs_now at h
  refine lv_iload_n hx hb dX11_now_0 rfl (lv_at hl 1 rfl) ?_
  refine lv_aload_n hx hb dX11_now_1 rfl (lv_at hl 0 rfl) ?_
  refine gf_X11_96_x0 hC hW dX11_now_2 ?_
  refine lv_sipush (v := 199) hx hb dX11_now_5 (by decide) ?_
  obtain ⟨x1, hx1, h⟩ := mbv_some h
  refine kr_ci hC hW (kr_runS hC hW hl.1 (t_vs_within hx1) cw_X11_100 rfl rfl (Nat.le_of_ble_eq_true rfl) dX11_now_8 (by decide)) (fun H locs hW => ?_)
  refine lv_if_ne (tgt := 16) hx hb dX11_now_11 (by decide) (fun hc2 => ?_) (fun hc2 => ?_)
  · replace h := if_n hc2 h
    refine lv_aload_n hx hb dX11_now_16 rfl (lv_at hl 0 rfl) ?_
    refine lv_iload_n hx hb dX11_now_17 rfl (lv_at hl 1 rfl) ?_
    obtain ⟨μ3, eμ3, h⟩ := mst_some h
    refine pf_X11_96_x0 hC hW eμ3 dX11_now_18 (fun H locs hW => ?_)
    refine lv_iconst (v := 1) hx hb dX11_now_21 (by decide) ?_
    cases h
    exact kr_zret hC hr hlocks _ rfl hW dX11_now_22
  · replace h := if_p hc2 h
    refine lv_iconst (v := 0) hx hb dX11_now_14 (by decide) ?_
    cases h
    exact kr_zret hC hr hlocks _ rfl hW dX11_now_15
set_option maxHeartbeats 4000000 in
set_option maxRecDepth 100000 in
theorem t_vs_Books_add {l : Launch} {g : Gx} {A : Nat → Prop} {μ : Mm} {a1 : Int32} {a2 : Int32} {a3 : Int32} {a4 : Int32} {v : Int32} {u : Mm} (h : vs_Books_add μ a1 a2 a3 a4 = some (v, u)) : Cti l g A wx yX2_add cX2_add 5 (some .int) 0 [.ref (ad g 2), .int a1, .int a2, .int a3, .int a4] μ v u := by
  refine ent (lv := [(0, .ref (ad g 2)), (1, .int a1), (2, .int a2), (3, .int a3), (4, .int a4)]) (by decide) (Nat.le_of_ble_eq_true rfl) rfl ?_
  intro p e s m args below meth c hC hr hlocks hnm hW ls hl
  replace hC : Cx g RX2 cX2_add 5 p s m args c := hC
  obtain ⟨hx, hb, hml, hown, hts, hK, hN⟩ := id hC
  unfold vs_Books_add at h
  refine lv_aload_n hx hb dX2_add_0 rfl (lv_at hl 0 rfl) ?_
  refine gf_X2_42_x2 hC hW dX2_add_1 ?_
  refine lv_bipush (v := 32) hx hb dX2_add_4 (by decide) ?_
  refine lv_icmp_lt (tgt := 11) hx hb dX2_add_6 (by decide) (fun hc1 => ?_) (fun hc1 => ?_)
  · replace h := if_p hc1 h
    refine lv_aload_n hx hb dX2_add_11 rfl (lv_at hl 0 rfl) ?_
    refine gf_X2_9_x2 hC hW dX2_add_12 ?_
    refine lv_aload_n hx hb dX2_add_15 rfl (lv_at hl 0 rfl) ?_
    refine gf_X2_42_x2 hC hW dX2_add_16 ?_
    refine lv_iload_n hx hb dX2_add_19 rfl (lv_at hl 1 rfl) ?_
    obtain ⟨μ2, eμ2, hin, h⟩ := mwr_ex h
    refine kr_iast hC hW (wx_15 g μ) (wxs_15 eμ2) hin dX2_add_20 (fun H locs hW => ?_)
    refine lv_aload_n hx hb dX2_add_21 rfl (lv_at hl 0 rfl) ?_
    refine gf_X2_15_x2 hC hW dX2_add_22 ?_
    refine lv_aload_n hx hb dX2_add_25 rfl (lv_at hl 0 rfl) ?_
    refine gf_X2_42_x2 hC hW dX2_add_26 ?_
    refine lv_iload_n hx hb dX2_add_29 rfl (lv_at hl 2 rfl) ?_
    obtain ⟨μ3, eμ3, hin, h⟩ := mwr_ex h
    refine kr_iast hC hW (wx_16 g μ2) (wxs_16 eμ3) hin dX2_add_30 (fun H locs hW => ?_)
    refine lv_aload_n hx hb dX2_add_31 rfl (lv_at hl 0 rfl) ?_
    refine gf_X2_18_x2 hC hW dX2_add_32 ?_
    refine lv_aload_n hx hb dX2_add_35 rfl (lv_at hl 0 rfl) ?_
    refine gf_X2_42_x2 hC hW dX2_add_36 ?_
    refine lv_iload_n hx hb dX2_add_39 rfl (lv_at hl 3 rfl) ?_
    obtain ⟨μ4, eμ4, hin, h⟩ := mwr_ex h
    refine kr_iast hC hW (wx_17 g μ3) (wxs_17 eμ4) hin dX2_add_40 (fun H locs hW => ?_)
    refine lv_aload_n hx hb dX2_add_41 rfl (lv_at hl 0 rfl) ?_
    refine gf_X2_21_x2 hC hW dX2_add_42 ?_
    refine lv_aload_n hx hb dX2_add_45 rfl (lv_at hl 0 rfl) ?_
    refine gf_X2_42_x2 hC hW dX2_add_46 ?_
    refine lv_iload hx hb dX2_add_49 (lv_at hl 4 rfl) ?_
    obtain ⟨μ5, eμ5, hin, h⟩ := mwr_ex h
    refine kr_iast hC hW (wx_18 g μ4) (wxs_18 eμ5) hin dX2_add_51 (fun H locs hW => ?_)
    refine lv_aload_n hx hb dX2_add_52 rfl (lv_at hl 0 rfl) ?_
    refine gf_X2_24_x2 hC hW dX2_add_53 ?_
    refine lv_aload_n hx hb dX2_add_56 rfl (lv_at hl 0 rfl) ?_
    refine gf_X2_42_x2 hC hW dX2_add_57 ?_
    refine lv_iconst (v := 0) hx hb dX2_add_60 (by decide) ?_
    obtain ⟨μ6, eμ6, hin, h⟩ := mwr_ex h
    refine kr_iast hC hW (wx_19 g μ5) (wxs_19 eμ6) hin dX2_add_61 (fun H locs hW => ?_)
    refine lv_aload_n hx hb dX2_add_62 rfl (lv_at hl 0 rfl) ?_
    refine gf_X2_27_x2 hC hW dX2_add_63 ?_
    refine lv_aload_n hx hb dX2_add_66 rfl (lv_at hl 0 rfl) ?_
    refine gf_X2_42_x2 hC hW dX2_add_67 ?_
    refine lv_iconst (v := (-1)) hx hb dX2_add_70 (by decide) ?_
    obtain ⟨μ7, eμ7, hin, h⟩ := mwr_ex h
    refine kr_iast hC hW (wx_20 g μ6) (wxs_20 eμ7) hin dX2_add_71 (fun H locs hW => ?_)
    refine lv_aload_n hx hb dX2_add_72 rfl (lv_at hl 0 rfl) ?_
    refine gf_X2_39_x2 hC hW dX2_add_73 ?_
    refine lv_iload_n hx hb dX2_add_76 rfl (lv_at hl 1 rfl) ?_
    refine lv_dup2_11 hx hb dX2_add_77 rfl rfl ?_
    obtain ⟨x8, ex8, hin, h⟩ := mrd_ex h
    refine kr_iald hC hW (wx_24 g μ7) hin ex8 dX2_add_78 ?_
    refine lv_iconst (v := 1) hx hb dX2_add_79 (by decide) ?_
    refine lv_aload_n hx hb dX2_add_80 rfl (lv_at hl 0 rfl) ?_
    refine gf_X2_42_x2 hC hW dX2_add_81 ?_
    refine lv_ishl hx hb dX2_add_84 ?_
    refine lv_ior hx hb dX2_add_85 ?_
    obtain ⟨μ9, eμ9, hin, h⟩ := mwr_ex h
    refine kr_iast hC hW (wx_24 g μ7) (wxs_24 eμ9) hin dX2_add_86 (fun H locs hW => ?_)
    refine lv_aload_n hx hb dX2_add_87 rfl (lv_at hl 0 rfl) ?_
    refine lv_dup hx hb dX2_add_88 rfl ?_
    refine gf_X2_42_x2 hC hW dX2_add_89 ?_
    refine lv_iconst (v := 1) hx hb dX2_add_92 (by decide) ?_
    refine lv_iadd hx hb dX2_add_93 ?_
    obtain ⟨μ10, eμ10, h⟩ := mst_some h
    refine pf_X2_42_x2 hC hW eμ10 dX2_add_94 (fun H locs hW => ?_)
    refine lv_aload_n hx hb dX2_add_97 rfl (lv_at hl 0 rfl) ?_
    refine gf_X2_42_x2 hC hW dX2_add_98 ?_
    refine lv_iconst (v := 1) hx hb dX2_add_101 (by decide) ?_
    refine lv_isub hx hb dX2_add_102 ?_
    cases h
    exact kr_iret hC hr hlocks hW dX2_add_103
  · replace h := if_n hc1 h
    refine lv_iconst (v := (-1)) hx hb dX2_add_9 (by decide) ?_
    cases h
    exact kr_iret hC hr hlocks hW dX2_add_10
set_option maxHeartbeats 4000000 in
set_option maxRecDepth 100000 in
theorem t_vs_book {l : Launch} {g : Gx} {A : Nat → Prop} {μ : Mm} {a1 : Int32} {a2 : Int32} {a3 : Int32} {a4 : Int32} {v : Int32} {u : Mm} (h : vs_book μ a1 a2 a3 a4 = some (v, u)) : Cti l g A wx yX11_book cX11_book 6 (some .int) 1 [.ref (ad g 0), .int a1, .int a2, .int a3, .int a4] μ v u := by
  refine ent (lv := [(0, .ref (ad g 0)), (1, .int a1), (2, .int a2), (3, .int a3), (4, .int a4)]) (by decide) (Nat.le_of_ble_eq_true rfl) rfl ?_
  intro p e s m args below meth c hC hr hlocks hnm hW ls hl
  replace hC : Cx g RX11 cX11_book 6 p s m args c := hC
  obtain ⟨hx, hb, hml, hown, hts, hK, hN⟩ := id hC
  unfold vs_book at h
  refine lv_iload_n hx hb dX11_book_0 rfl (lv_at hl 1 rfl) ?_
  refine lv_iconst (v := 0) hx hb dX11_book_1 (by decide) ?_
  refine lv_bipush (v := 7) hx hb dX11_book_2 (by decide) ?_
  obtain ⟨x1, hx1, h⟩ := mbv_some h
  refine kr_ci hC hW (kr_runS hC hW hl.1 (t_vs_within hx1) cw_X11_100 rfl rfl (Nat.le_of_ble_eq_true rfl) dX11_book_4 (by decide)) (fun H locs hW => ?_)
  refine lv_if_eq (tgt := 45) hx hb dX11_book_7 (by decide) (fun hc2 => ?_) (fun hc2 => ?_)
  · replace h := if_p hc2 h
    refine lv_iconst (v := 0) hx hb dX11_book_45 (by decide) ?_
    refine lv_istore (lv' := [(5, .int 0), (0, .ref (ad g 0)), (1, .int a1), (2, .int a2), (3, .int a3), (4, .int a4)]) hx hb dX11_book_46 hl (by decide) rfl (fun ls hl => ?_)
    refine lv_iload hx hb dX11_book_48 (lv_at hl 0 rfl) ?_
    refine lv_if_eq (tgt := 68) hx hb dX11_book_50 (by decide) (fun _ => ?_) (fun hc => absurd (by decide) hc)
    refine lv_iconst (v := (-1)) hx hb dX11_book_68 (by decide) ?_
    cases h
    exact kr_iret hC hr hlocks hW dX11_book_69
  · replace h := if_n hc2 h
    refine lv_iload_n hx hb dX11_book_10 rfl (lv_at hl 2 rfl) ?_
    refine lv_iconst (v := 1) hx hb dX11_book_11 (by decide) ?_
    refine lv_bipush (v := 9) hx hb dX11_book_12 (by decide) ?_
    obtain ⟨x3, hx3, h⟩ := mbv_some h
    refine kr_ci hC hW (kr_runS hC hW hl.1 (t_vs_within hx3) cw_X11_100 rfl rfl (Nat.le_of_ble_eq_true rfl) dX11_book_14 (by decide)) (fun H locs hW => ?_)
    refine lv_if_eq (tgt := 45) hx hb dX11_book_17 (by decide) (fun hc4 => ?_) (fun hc4 => ?_)
    · replace h := if_p hc4 h
      refine lv_iconst (v := 0) hx hb dX11_book_45 (by decide) ?_
      refine lv_istore (lv' := [(5, .int 0), (0, .ref (ad g 0)), (1, .int a1), (2, .int a2), (3, .int a3), (4, .int a4)]) hx hb dX11_book_46 hl (by decide) rfl (fun ls hl => ?_)
      refine lv_iload hx hb dX11_book_48 (lv_at hl 0 rfl) ?_
      refine lv_if_eq (tgt := 68) hx hb dX11_book_50 (by decide) (fun _ => ?_) (fun hc => absurd (by decide) hc)
      refine lv_iconst (v := (-1)) hx hb dX11_book_68 (by decide) ?_
      cases h
      exact kr_iret hC hr hlocks hW dX11_book_69
    · replace h := if_n hc4 h
      refine lv_iload_n hx hb dX11_book_20 rfl (lv_at hl 3 rfl) ?_
      refine lv_iconst (v := 0) hx hb dX11_book_21 (by decide) ?_
      refine lv_iconst (v := 2) hx hb dX11_book_22 (by decide) ?_
      obtain ⟨x5, hx5, h⟩ := mbv_some h
      refine kr_ci hC hW (kr_runS hC hW hl.1 (t_vs_within hx5) cw_X11_100 rfl rfl (Nat.le_of_ble_eq_true rfl) dX11_book_23 (by decide)) (fun H locs hW => ?_)
      refine lv_if_eq (tgt := 45) hx hb dX11_book_26 (by decide) (fun hc6 => ?_) (fun hc6 => ?_)
      · replace h := if_p hc6 h
        refine lv_iconst (v := 0) hx hb dX11_book_45 (by decide) ?_
        refine lv_istore (lv' := [(5, .int 0), (0, .ref (ad g 0)), (1, .int a1), (2, .int a2), (3, .int a3), (4, .int a4)]) hx hb dX11_book_46 hl (by decide) rfl (fun ls hl => ?_)
        refine lv_iload hx hb dX11_book_48 (lv_at hl 0 rfl) ?_
        refine lv_if_eq (tgt := 68) hx hb dX11_book_50 (by decide) (fun _ => ?_) (fun hc => absurd (by decide) hc)
        refine lv_iconst (v := (-1)) hx hb dX11_book_68 (by decide) ?_
        cases h
        exact kr_iret hC hr hlocks hW dX11_book_69
      · replace h := if_n hc6 h
        refine lv_iload hx hb dX11_book_29 (lv_at hl 4 rfl) ?_
        refine lv_iconst (v := 0) hx hb dX11_book_31 (by decide) ?_
        refine lv_sipush (v := 1000) hx hb dX11_book_32 (by decide) ?_
        obtain ⟨x7, hx7, h⟩ := mbv_some h
        refine kr_ci hC hW (kr_runS hC hW hl.1 (t_vs_within hx7) cw_X11_100 rfl rfl (Nat.le_of_ble_eq_true rfl) dX11_book_35 (by decide)) (fun H locs hW => ?_)
        refine lv_if_eq (tgt := 45) hx hb dX11_book_38 (by decide) (fun hc8 => ?_) (fun hc8 => ?_)
        · replace h := if_p hc8 h
          refine lv_iconst (v := 0) hx hb dX11_book_45 (by decide) ?_
          refine lv_istore (lv' := [(5, .int 0), (0, .ref (ad g 0)), (1, .int a1), (2, .int a2), (3, .int a3), (4, .int a4)]) hx hb dX11_book_46 hl (by decide) rfl (fun ls hl => ?_)
          refine lv_iload hx hb dX11_book_48 (lv_at hl 0 rfl) ?_
          refine lv_if_eq (tgt := 68) hx hb dX11_book_50 (by decide) (fun _ => ?_) (fun hc => absurd (by decide) hc)
          refine lv_iconst (v := (-1)) hx hb dX11_book_68 (by decide) ?_
          cases h
          exact kr_iret hC hr hlocks hW dX11_book_69
        · replace h := if_n hc8 h
          refine lv_iconst (v := 1) hx hb dX11_book_41 (by decide) ?_
          refine lv_goto (tgt := 46) hx hb dX11_book_42 (by decide) ?_
          refine lv_istore (lv' := [(5, .int 1), (0, .ref (ad g 0)), (1, .int a1), (2, .int a2), (3, .int a3), (4, .int a4)]) hx hb dX11_book_46 hl (by decide) rfl (fun ls hl => ?_)
          refine lv_iload hx hb dX11_book_48 (lv_at hl 0 rfl) ?_
          refine lv_if_eq (tgt := 68) hx hb dX11_book_50 (by decide) (fun hc => absurd hc (by decide)) (fun _ => ?_)
          refine lv_aload_n hx hb dX11_book_53 rfl (lv_at hl 1 rfl) ?_
          refine gf_X11_19_x0 hC hW dX11_book_54 ?_
          refine lv_iload_n hx hb dX11_book_57 rfl (lv_at hl 2 rfl) ?_
          refine lv_iload_n hx hb dX11_book_58 rfl (lv_at hl 3 rfl) ?_
          refine lv_iload_n hx hb dX11_book_59 rfl (lv_at hl 4 rfl) ?_
          refine lv_iload hx hb dX11_book_60 (lv_at hl 5 rfl) ?_
          obtain ⟨x9, μ10, hx9, h⟩ := mbm_some h
          refine kr_ci hC hW (kr_runV hC hW hl.1 (t_vs_Books_add hx9) cw_X11_104 (wx_2 g μ) rfl rfl rfl (Nat.le_of_ble_eq_true rfl) dX11_book_62 (by decide)) (fun H locs hW => ?_)
          refine lv_goto (tgt := 69) hx hb dX11_book_65 (by decide) ?_
          cases h
          exact kr_iret hC hr hlocks hW dX11_book_69
set_option maxHeartbeats 4000000 in
set_option maxRecDepth 100000 in
theorem t_vs_isVan {l : Launch} {g : Gx} {A : Nat → Prop} {Wd : Gx → Mm → va_W} {μ : Mm} {a0 : Int32} {v : Bool} (h : vs_isVan a0 = some v) : Cti l g A Wd yX11_isVan cX11_isVan 1 (some .boolean) 1 [.int a0] μ (bI v) μ := by
  refine ent (lv := [(0, .int a0)]) (by decide) (Nat.le_of_ble_eq_true rfl) rfl ?_
  intro p e s m args below meth c hC hr hlocks hnm hW ls hl
  replace hC : Cx g RX11 cX11_isVan 1 p s m args c := hC
  obtain ⟨hx, hb, hml, hown, hts, hK, hN⟩ := id hC
  unfold vs_isVan at h
  refine lv_iload_n hx hb dX11_isVan_0 rfl (lv_at hl 0 rfl) ?_
  refine lv_iconst (v := 0) hx hb dX11_isVan_1 (by decide) ?_
  refine lv_iconst (v := 2) hx hb dX11_isVan_2 (by decide) ?_
  obtain ⟨x1, hx1, h⟩ := mbv_some h
  refine kr_ci hC hW (kr_runS hC hW hl.1 (t_vs_within hx1) cw_X11_100 rfl rfl (Nat.le_of_ble_eq_true rfl) dX11_isVan_3 (by decide)) (fun H locs hW => ?_)
  cases h
  exact kr_zret hC hr hlocks _ rfl hW dX11_isVan_6
set_option maxHeartbeats 4000000 in
set_option maxRecDepth 100000 in
theorem t_vs_Books_vanOf {l : Launch} {g : Gx} {A : Nat → Prop} {μ : Mm} {a1 : Int32} {v : Int32} (h : vs_Books_vanOf μ a1 = some v) : Cti l g A wx yX2_vanOf cX2_vanOf 2 (some .int) 1 [.ref (ad g 2), .int a1] μ v μ := by
  refine ent (lv := [(0, .ref (ad g 2)), (1, .int a1)]) (by decide) (Nat.le_of_ble_eq_true rfl) rfl ?_
  intro p e s m args below meth c hC hr hlocks hnm hW ls hl
  replace hC : Cx g RX2 cX2_vanOf 2 p s m args c := hC
  obtain ⟨hx, hb, hml, hown, hts, hK, hN⟩ := id hC
  unfold vs_Books_vanOf at h
  refine lv_aload_n hx hb dX2_vanOf_0 rfl (lv_at hl 0 rfl) ?_
  refine gf_X2_24_x2 hC hW dX2_vanOf_1 ?_
  refine lv_iload_n hx hb dX2_vanOf_4 rfl (lv_at hl 1 rfl) ?_
  obtain ⟨x1, ex1, hin, h⟩ := mrd_ex h
  refine kr_iald hC hW (wx_19 g μ) hin ex1 dX2_vanOf_5 ?_
  refine lv_iconst (v := 1) hx hb dX2_vanOf_6 (by decide) ?_
  refine lv_iconst (v := 3) hx hb dX2_vanOf_7 (by decide) ?_
  obtain ⟨x2, hx2, h⟩ := mbv_some h
  refine kr_ci hC hW (kr_runN hC hW hl.1 (t_vs_within hx2) cw_X2_46 rfl rfl (Nat.le_of_ble_eq_true rfl) dX2_vanOf_8 (by decide)) (fun H locs hW => ?_)
  refine lv_if_eq (tgt := 25) hx hb dX2_vanOf_11 (by decide) (fun hc3 => ?_) (fun hc3 => ?_)
  · replace h := if_p hc3 h
    refine lv_iconst (v := (-1)) hx hb dX2_vanOf_25 (by decide) ?_
    cases h
    exact kr_iret hC hr hlocks hW dX2_vanOf_26
  · replace h := if_n hc3 h
    refine lv_aload_n hx hb dX2_vanOf_14 rfl (lv_at hl 0 rfl) ?_
    refine gf_X2_24_x2 hC hW dX2_vanOf_15 ?_
    refine lv_iload_n hx hb dX2_vanOf_18 rfl (lv_at hl 1 rfl) ?_
    obtain ⟨x4, ex4, hin, h⟩ := mrd_ex h
    refine kr_iald hC hW (wx_19 g μ) hin ex4 dX2_vanOf_19 ?_
    refine lv_iconst (v := 1) hx hb dX2_vanOf_20 (by decide) ?_
    refine lv_isub hx hb dX2_vanOf_21 ?_
    refine lv_goto (tgt := 26) hx hb dX2_vanOf_22 (by decide) ?_
    cases h
    exact kr_iret hC hr hlocks hW dX2_vanOf_26
set_option maxHeartbeats 4000000 in
set_option maxRecDepth 100000 in
theorem tl_vs_Books_lengthOn_4 (μ : Mm) (a1 : Int32) (hC : Cx g RX2 cX2_lengthOn 4 p s m args c) {e0 : (Int32)} (kx0 : ∀ (ls : Array Slot) (H : Heap) (locs : List Loc), lv_has ls 4 [(2, .int e0)] → wP g wx A s.heap μ H locs → W p l e (rmD 2) s m args below meth c H locs 0 0 Q (F0 m 36 ls [])) : ∀ (n : Nat) (q : Int32 × Int32), miter (fun q => vs_Books_lengthOn_b4 μ a1 q.1 q.2) n q = some e0 → ∀ (ls : Array Slot) (H : Heap) (locs : List Loc), lv_has ls 4 [(0, .ref (ad g 2)), (1, .int a1), (2, .int q.1), (3, .int q.2)] → wP g wx A s.heap μ H locs → W p l e (rmD 2) s m args below meth c H locs 0 0 Q (F0 m 4 ls []) := by
  obtain ⟨hx, hb, hml, hown, hts, hK, hN⟩ := id hC
  refine miter_ind (fun q r hf k1 k2 => ?_)
  obtain ⟨xs2, xs3⟩ := q
  intro ls H locs hl hW
  have h : vs_Books_lengthOn_b4 μ a1 xs2 xs3 = some r := hf
  unfold vs_Books_lengthOn_b4 at h
  refine lv_iload_n hx hb dX2_lengthOn_4 rfl (lv_at hl 3 rfl) ?_
  refine lv_aload_n hx hb dX2_lengthOn_5 rfl (lv_at hl 0 rfl) ?_
  refine gf_X2_42_x2 hC hW dX2_lengthOn_6 ?_
  refine lv_icmp_ge (tgt := 36) hx hb dX2_lengthOn_9 (by decide) (fun hc1 => ?_) (fun hc1 => ?_)
  · replace h := if_p hc1 h
    obtain rfl := k2 _ (Option.some.inj h).symm
    exact kx0 _ _ _ (lv_sub hl [2] rfl) hW
  · replace h := if_n hc1 h
    refine lv_aload_n hx hb dX2_lengthOn_12 rfl (lv_at hl 0 rfl) ?_
    refine lv_iload_n hx hb dX2_lengthOn_13 rfl (lv_at hl 3 rfl) ?_
    obtain ⟨x2, hx2, h⟩ := mbv_some h
    refine kr_ci hC hW (kr_runV hC hW hl.1 (t_vs_Books_vanOf hx2) cw_X2_54 (wx_2 g μ) rfl rfl rfl (Nat.le_of_ble_eq_true rfl) dX2_lengthOn_14 (by decide)) (fun H locs hW => ?_)
    refine lv_iload_n hx hb dX2_lengthOn_17 rfl (lv_at hl 1 rfl) ?_
    refine lv_icmp_ne (tgt := 30) hx hb dX2_lengthOn_18 (by decide) (fun hc3 => ?_) (fun hc3 => ?_)
    · replace h := if_n hc3 h
      refine lv_iinc (v := (xs3 + 1)) (lv' := [(3, .int (xs3 + 1)), (0, .ref (ad g 2)), (1, .int a1), (2, .int xs2)]) hx hb dX2_lengthOn_30 hl (k := 3) rfl (by rw [oi_1]) (by decide) rfl (fun ls hl => ?_)
      refine lv_goto (tgt := 4) hx hb dX2_lengthOn_33 (by decide) ?_
      exact k1 (xs2, (xs3 + 1)) (Option.some.inj h).symm _ _ _ (lv_sub hl [1, 2, 3, 0] rfl) hW
    · replace h := if_p hc3 h
      refine lv_iload_n hx hb dX2_lengthOn_21 rfl (lv_at hl 2 rfl) ?_
      refine lv_aload_n hx hb dX2_lengthOn_22 rfl (lv_at hl 0 rfl) ?_
      refine gf_X2_15_x2 hC hW dX2_lengthOn_23 ?_
      refine lv_iload_n hx hb dX2_lengthOn_26 rfl (lv_at hl 3 rfl) ?_
      obtain ⟨x4, ex4, hin, h⟩ := mrd_ex h
      refine kr_iald hC hW (wx_16 g μ) hin ex4 dX2_lengthOn_27 ?_
      refine lv_iadd hx hb dX2_lengthOn_28 ?_
      refine lv_istore_n (lv' := [(2, .int (xs2 + x4)), (0, .ref (ad g 2)), (1, .int a1), (3, .int xs3)]) hx hb dX2_lengthOn_29 rfl hl (by decide) rfl (fun ls hl => ?_)
      refine lv_iinc (v := (xs3 + 1)) (lv' := [(3, .int (xs3 + 1)), (2, .int (xs2 + x4)), (0, .ref (ad g 2)), (1, .int a1)]) hx hb dX2_lengthOn_30 hl (k := 3) rfl (by rw [oi_1]) (by decide) rfl (fun ls hl => ?_)
      refine lv_goto (tgt := 4) hx hb dX2_lengthOn_33 (by decide) ?_
      exact k1 ((xs2 + x4), (xs3 + 1)) (Option.some.inj h).symm _ _ _ (lv_sub hl [2, 3, 1, 0] rfl) hW
set_option maxHeartbeats 4000000 in
set_option maxRecDepth 100000 in
theorem t_vs_Books_lengthOn {l : Launch} {g : Gx} {A : Nat → Prop} {μ : Mm} {a1 : Int32} {v : Int32} (h : vs_Books_lengthOn μ a1 = some v) : Cti l g A wx yX2_lengthOn cX2_lengthOn 4 (some .int) 2 [.ref (ad g 2), .int a1] μ v μ := by
  refine ent (lv := [(0, .ref (ad g 2)), (1, .int a1)]) (by decide) (Nat.le_of_ble_eq_true rfl) rfl ?_
  intro p e s m args below meth c hC hr hlocks hnm hW ls hl
  replace hC : Cx g RX2 cX2_lengthOn 4 p s m args c := hC
  obtain ⟨hx, hb, hml, hown, hts, hK, hN⟩ := id hC
  unfold vs_Books_lengthOn at h
  refine lv_iconst (v := 0) hx hb dX2_lengthOn_0 (by decide) ?_
  refine lv_istore_n (lv' := [(2, .int 0), (0, .ref (ad g 2)), (1, .int a1)]) hx hb dX2_lengthOn_1 rfl hl (by decide) rfl (fun ls hl => ?_)
  refine lv_iconst (v := 0) hx hb dX2_lengthOn_2 (by decide) ?_
  refine lv_istore_n (lv' := [(3, .int 0), (2, .int 0), (0, .ref (ad g 2)), (1, .int a1)]) hx hb dX2_lengthOn_3 rfl hl (by decide) rfl (fun ls hl => ?_)
  obtain ⟨x5, he6, h⟩ := mbv_some h
  refine tl_vs_Books_lengthOn_4 μ a1 hC (fun ls H locs hl hW => ?_) FU (0, 0) he6 _ _ _ (lv_sub hl [2, 3, 1, 0] rfl) hW
  refine lv_iload_n hx hb dX2_lengthOn_36 rfl (lv_at hl 0 rfl) ?_
  cases h
  exact kr_iret hC hr hlocks hW dX2_lengthOn_37
set_option maxHeartbeats 4000000 in
set_option maxRecDepth 100000 in
theorem t_vs_shelf {l : Launch} {g : Gx} {A : Nat → Prop} {μ : Mm} {a1 : Int32} {a2 : Int32} {v : Bool} {u : Mm} (h : vs_shelf μ a1 a2 = some (v, u)) : Cti l g A wx yX11_shelf cX11_shelf 3 (some .boolean) 3 [.ref (ad g 0), .int a1, .int a2] μ (bI v) u := by
  refine ent (lv := [(0, .ref (ad g 0)), (1, .int a1), (2, .int a2)]) (by decide) (Nat.le_of_ble_eq_true rfl) rfl ?_
  intro p e s m args below meth c hC hr hlocks hnm hW ls hl
  replace hC : Cx g RX11 cX11_shelf 3 p s m args c := hC
  obtain ⟨hx, hb, hml, hown, hts, hK, hN⟩ := id hC
  unfold vs_shelf at h
  refine lv_iload_n hx hb dX11_shelf_0 rfl (lv_at hl 1 rfl) ?_
  obtain ⟨x1, hx1, h⟩ := mbv_some h
  refine kr_ci hC hW (kr_runS hC hW hl.1 (t_vs_isVan hx1) cw_X11_108 rfl rfl (Nat.le_of_ble_eq_true rfl) dX11_shelf_1 (by decide)) (fun H locs hW => ?_)
  refine lv_if_eq (tgt := 29) hx hb dX11_shelf_4 (by decide) (fun hc2 => ?_) (fun hc2 => ?_)
  · replace h := if_p hc2 h
    refine lv_iconst (v := 0) hx hb dX11_shelf_29 (by decide) ?_
    cases h
    exact kr_zret hC hr hlocks _ rfl hW dX11_shelf_30
  · replace h := if_n hc2 h
    refine lv_iload_n hx hb dX11_shelf_7 rfl (lv_at hl 2 rfl) ?_
    refine lv_iconst (v := 0) hx hb dX11_shelf_8 (by decide) ?_
    refine lv_bipush (v := 99) hx hb dX11_shelf_9 (by decide) ?_
    obtain ⟨x3, hx3, h⟩ := mbv_some h
    refine kr_ci hC hW (kr_runS hC hW hl.1 (t_vs_within hx3) cw_X11_100 rfl rfl (Nat.le_of_ble_eq_true rfl) dX11_shelf_11 (by decide)) (fun H locs hW => ?_)
    refine lv_if_eq (tgt := 29) hx hb dX11_shelf_14 (by decide) (fun hc4 => ?_) (fun hc4 => ?_)
    · replace h := if_p hc4 h
      refine lv_iconst (v := 0) hx hb dX11_shelf_29 (by decide) ?_
      cases h
      exact kr_zret hC hr hlocks _ rfl hW dX11_shelf_30
    · replace h := if_n hc4 h
      refine lv_aload_n hx hb dX11_shelf_17 rfl (lv_at hl 0 rfl) ?_
      refine gf_X11_19_x0 hC hW dX11_shelf_18 ?_
      refine lv_iload_n hx hb dX11_shelf_21 rfl (lv_at hl 1 rfl) ?_
      obtain ⟨x5, hx5, h⟩ := mbv_some h
      refine kr_ci hC hW (kr_runV hC hW hl.1 (t_vs_Books_lengthOn hx5) cw_X11_112 (wx_2 g μ) rfl rfl rfl (Nat.le_of_ble_eq_true rfl) dX11_shelf_22 (by decide)) (fun H locs hW => ?_)
      refine lv_iload_n hx hb dX11_shelf_25 rfl (lv_at hl 2 rfl) ?_
      refine lv_icmp_le (tgt := 31) hx hb dX11_shelf_26 (by decide) (fun hc6 => ?_) (fun hc6 => ?_)
      · replace h := if_p hc6 h
        refine lv_aload_n hx hb dX11_shelf_31 rfl (lv_at hl 0 rfl) ?_
        refine gf_X11_76_x0 hC hW dX11_shelf_32 ?_
        refine lv_iload_n hx hb dX11_shelf_35 rfl (lv_at hl 1 rfl) ?_
        refine lv_iload_n hx hb dX11_shelf_36 rfl (lv_at hl 2 rfl) ?_
        obtain ⟨μ7, eμ7, hin, h⟩ := mwr_ex h
        refine kr_iast hC hW (wx_12 g μ) (wxs_12 eμ7) hin dX11_shelf_37 (fun H locs hW => ?_)
        refine lv_iconst (v := 1) hx hb dX11_shelf_38 (by decide) ?_
        cases h
        exact kr_zret hC hr hlocks _ rfl hW dX11_shelf_39
      · replace h := if_n hc6 h
        refine lv_iconst (v := 0) hx hb dX11_shelf_29 (by decide) ?_
        cases h
        exact kr_zret hC hr hlocks _ rfl hW dX11_shelf_30
set_option maxHeartbeats 4000000 in
set_option maxRecDepth 100000 in
theorem t_vs_Stops_add {l : Launch} {g : Gx} {A : Nat → Prop} {μ : Mm} {a1 : Int32} {a2 : Int32} {a3 : Int32} {v : Int32} {u : Mm} (h : vs_Stops_add μ a1 a2 a3 = some (v, u)) : Cti l g A wx yX8_add cX8_add 4 (some .int) 0 [.ref (ad g 4), .int a1, .int a2, .int a3] μ v u := by
  refine ent (lv := [(0, .ref (ad g 4)), (1, .int a1), (2, .int a2), (3, .int a3)]) (by decide) (Nat.le_of_ble_eq_true rfl) rfl ?_
  intro p e s m args below meth c hC hr hlocks hnm hW ls hl
  replace hC : Cx g RX8 cX8_add 4 p s m args c := hC
  obtain ⟨hx, hb, hml, hown, hts, hK, hN⟩ := id hC
  unfold vs_Stops_add at h
  refine lv_aload_n hx hb dX8_add_0 rfl (lv_at hl 0 rfl) ?_
  refine gf_X8_48_x4 hC hW dX8_add_1 ?_
  refine lv_bipush (v := 10) hx hb dX8_add_4 (by decide) ?_
  refine lv_icmp_lt (tgt := 11) hx hb dX8_add_6 (by decide) (fun hc1 => ?_) (fun hc1 => ?_)
  · replace h := if_p hc1 h
    refine lv_aload_n hx hb dX8_add_11 rfl (lv_at hl 0 rfl) ?_
    refine gf_X8_9_x4 hC hW dX8_add_12 ?_
    refine lv_aload_n hx hb dX8_add_15 rfl (lv_at hl 0 rfl) ?_
    refine gf_X8_48_x4 hC hW dX8_add_16 ?_
    refine lv_iload_n hx hb dX8_add_19 rfl (lv_at hl 1 rfl) ?_
    obtain ⟨μ2, eμ2, hin, h⟩ := mwr_ex h
    refine kr_iast hC hW (wx_32 g μ) (wxs_32 eμ2) hin dX8_add_20 (fun H locs hW => ?_)
    refine lv_aload_n hx hb dX8_add_21 rfl (lv_at hl 0 rfl) ?_
    refine gf_X8_15_x4 hC hW dX8_add_22 ?_
    refine lv_aload_n hx hb dX8_add_25 rfl (lv_at hl 0 rfl) ?_
    refine gf_X8_48_x4 hC hW dX8_add_26 ?_
    refine lv_iload_n hx hb dX8_add_29 rfl (lv_at hl 2 rfl) ?_
    obtain ⟨μ3, eμ3, hin, h⟩ := mwr_ex h
    refine kr_iast hC hW (wx_33 g μ2) (wxs_33 eμ3) hin dX8_add_30 (fun H locs hW => ?_)
    refine lv_aload_n hx hb dX8_add_31 rfl (lv_at hl 0 rfl) ?_
    refine gf_X8_18_x4 hC hW dX8_add_32 ?_
    refine lv_aload_n hx hb dX8_add_35 rfl (lv_at hl 0 rfl) ?_
    refine gf_X8_48_x4 hC hW dX8_add_36 ?_
    refine lv_iload_n hx hb dX8_add_39 rfl (lv_at hl 3 rfl) ?_
    obtain ⟨μ4, eμ4, hin, h⟩ := mwr_ex h
    refine kr_iast hC hW (wx_34 g μ3) (wxs_34 eμ4) hin dX8_add_40 (fun H locs hW => ?_)
    refine lv_aload_n hx hb dX8_add_41 rfl (lv_at hl 0 rfl) ?_
    refine gf_X8_21_x4 hC hW dX8_add_42 ?_
    refine lv_aload_n hx hb dX8_add_45 rfl (lv_at hl 0 rfl) ?_
    refine gf_X8_48_x4 hC hW dX8_add_46 ?_
    refine lv_iconst (v := (-1)) hx hb dX8_add_49 (by decide) ?_
    obtain ⟨μ5, eμ5, hin, h⟩ := mwr_ex h
    refine kr_iast hC hW (wx_35 g μ4) (wxs_35 eμ5) hin dX8_add_50 (fun H locs hW => ?_)
    refine lv_aload_n hx hb dX8_add_51 rfl (lv_at hl 0 rfl) ?_
    refine gf_X8_27_x4 hC hW dX8_add_52 ?_
    refine lv_aload_n hx hb dX8_add_55 rfl (lv_at hl 0 rfl) ?_
    refine gf_X8_48_x4 hC hW dX8_add_56 ?_
    refine lv_iconst (v := (-1)) hx hb dX8_add_59 (by decide) ?_
    obtain ⟨μ6, eμ6, hin, h⟩ := mwr_ex h
    refine kr_iast hC hW (wx_37 g μ5) (wxs_37 eμ6) hin dX8_add_60 (fun H locs hW => ?_)
    refine lv_aload_n hx hb dX8_add_61 rfl (lv_at hl 0 rfl) ?_
    refine gf_X8_30_x4 hC hW dX8_add_62 ?_
    refine lv_aload_n hx hb dX8_add_65 rfl (lv_at hl 0 rfl) ?_
    refine gf_X8_48_x4 hC hW dX8_add_66 ?_
    refine lv_iconst (v := (-1)) hx hb dX8_add_69 (by decide) ?_
    obtain ⟨μ7, eμ7, hin, h⟩ := mwr_ex h
    refine kr_iast hC hW (wx_38 g μ6) (wxs_38 eμ7) hin dX8_add_70 (fun H locs hW => ?_)
    refine lv_aload_n hx hb dX8_add_71 rfl (lv_at hl 0 rfl) ?_
    refine lv_dup hx hb dX8_add_72 rfl ?_
    refine gf_X8_48_x4 hC hW dX8_add_73 ?_
    refine lv_iconst (v := 1) hx hb dX8_add_76 (by decide) ?_
    refine lv_iadd hx hb dX8_add_77 ?_
    obtain ⟨μ8, eμ8, h⟩ := mst_some h
    refine pf_X8_48_x4 hC hW eμ8 dX8_add_78 (fun H locs hW => ?_)
    refine lv_aload_n hx hb dX8_add_81 rfl (lv_at hl 0 rfl) ?_
    refine gf_X8_48_x4 hC hW dX8_add_82 ?_
    refine lv_iconst (v := 1) hx hb dX8_add_85 (by decide) ?_
    refine lv_isub hx hb dX8_add_86 ?_
    cases h
    exact kr_iret hC hr hlocks hW dX8_add_87
  · replace h := if_n hc1 h
    refine lv_iconst (v := (-1)) hx hb dX8_add_9 (by decide) ?_
    cases h
    exact kr_iret hC hr hlocks hW dX8_add_10
set_option maxHeartbeats 4000000 in
set_option maxRecDepth 100000 in
theorem t_vs_stop {l : Launch} {g : Gx} {A : Nat → Prop} {μ : Mm} {a1 : Int32} {a2 : Int32} {a3 : Int32} {v : Int32} {u : Mm} (h : vs_stop μ a1 a2 a3 = some (v, u)) : Cti l g A wx yX11_stop cX11_stop 5 (some .int) 1 [.ref (ad g 0), .int a1, .int a2, .int a3] μ v u := by
  refine ent (lv := [(0, .ref (ad g 0)), (1, .int a1), (2, .int a2), (3, .int a3)]) (by decide) (Nat.le_of_ble_eq_true rfl) rfl ?_
  intro p e s m args below meth c hC hr hlocks hnm hW ls hl
  replace hC : Cx g RX11 cX11_stop 5 p s m args c := hC
  obtain ⟨hx, hb, hml, hown, hts, hK, hN⟩ := id hC
  unfold vs_stop at h
  refine lv_iload_n hx hb dX11_stop_0 rfl (lv_at hl 1 rfl) ?_
  refine lv_iconst (v := 0) hx hb dX11_stop_1 (by decide) ?_
  refine lv_bipush (v := 99) hx hb dX11_stop_2 (by decide) ?_
  obtain ⟨x1, hx1, h⟩ := mbv_some h
  refine kr_ci hC hW (kr_runS hC hW hl.1 (t_vs_within hx1) cw_X11_100 rfl rfl (Nat.le_of_ble_eq_true rfl) dX11_stop_4 (by decide)) (fun H locs hW => ?_)
  refine lv_if_eq (tgt := 35) hx hb dX11_stop_7 (by decide) (fun hc2 => ?_) (fun hc2 => ?_)
  · replace h := if_p hc2 h
    refine lv_iconst (v := 0) hx hb dX11_stop_35 (by decide) ?_
    refine lv_istore (lv' := [(4, .int 0), (0, .ref (ad g 0)), (1, .int a1), (2, .int a2), (3, .int a3)]) hx hb dX11_stop_36 hl (by decide) rfl (fun ls hl => ?_)
    refine lv_iload hx hb dX11_stop_38 (lv_at hl 0 rfl) ?_
    refine lv_if_eq (tgt := 56) hx hb dX11_stop_40 (by decide) (fun _ => ?_) (fun hc => absurd (by decide) hc)
    refine lv_iconst (v := (-1)) hx hb dX11_stop_56 (by decide) ?_
    cases h
    exact kr_iret hC hr hlocks hW dX11_stop_57
  · replace h := if_n hc2 h
    refine lv_iload_n hx hb dX11_stop_10 rfl (lv_at hl 2 rfl) ?_
    refine lv_iconst (v := 0) hx hb dX11_stop_11 (by decide) ?_
    refine lv_bipush (v := 99) hx hb dX11_stop_12 (by decide) ?_
    obtain ⟨x3, hx3, h⟩ := mbv_some h
    refine kr_ci hC hW (kr_runS hC hW hl.1 (t_vs_within hx3) cw_X11_100 rfl rfl (Nat.le_of_ble_eq_true rfl) dX11_stop_14 (by decide)) (fun H locs hW => ?_)
    refine lv_if_eq (tgt := 35) hx hb dX11_stop_17 (by decide) (fun hc4 => ?_) (fun hc4 => ?_)
    · replace h := if_p hc4 h
      refine lv_iconst (v := 0) hx hb dX11_stop_35 (by decide) ?_
      refine lv_istore (lv' := [(4, .int 0), (0, .ref (ad g 0)), (1, .int a1), (2, .int a2), (3, .int a3)]) hx hb dX11_stop_36 hl (by decide) rfl (fun ls hl => ?_)
      refine lv_iload hx hb dX11_stop_38 (lv_at hl 0 rfl) ?_
      refine lv_if_eq (tgt := 56) hx hb dX11_stop_40 (by decide) (fun _ => ?_) (fun hc => absurd (by decide) hc)
      refine lv_iconst (v := (-1)) hx hb dX11_stop_56 (by decide) ?_
      cases h
      exact kr_iret hC hr hlocks hW dX11_stop_57
    · replace h := if_n hc4 h
      refine lv_iload_n hx hb dX11_stop_20 rfl (lv_at hl 3 rfl) ?_
      refine lv_iconst (v := 1) hx hb dX11_stop_21 (by decide) ?_
      refine lv_sipush (v := 200) hx hb dX11_stop_22 (by decide) ?_
      obtain ⟨x5, hx5, h⟩ := mbv_some h
      refine kr_ci hC hW (kr_runS hC hW hl.1 (t_vs_within hx5) cw_X11_100 rfl rfl (Nat.le_of_ble_eq_true rfl) dX11_stop_25 (by decide)) (fun H locs hW => ?_)
      refine lv_if_eq (tgt := 35) hx hb dX11_stop_28 (by decide) (fun hc6 => ?_) (fun hc6 => ?_)
      · replace h := if_p hc6 h
        refine lv_iconst (v := 0) hx hb dX11_stop_35 (by decide) ?_
        refine lv_istore (lv' := [(4, .int 0), (0, .ref (ad g 0)), (1, .int a1), (2, .int a2), (3, .int a3)]) hx hb dX11_stop_36 hl (by decide) rfl (fun ls hl => ?_)
        refine lv_iload hx hb dX11_stop_38 (lv_at hl 0 rfl) ?_
        refine lv_if_eq (tgt := 56) hx hb dX11_stop_40 (by decide) (fun _ => ?_) (fun hc => absurd (by decide) hc)
        refine lv_iconst (v := (-1)) hx hb dX11_stop_56 (by decide) ?_
        cases h
        exact kr_iret hC hr hlocks hW dX11_stop_57
      · replace h := if_n hc6 h
        refine lv_iconst (v := 1) hx hb dX11_stop_31 (by decide) ?_
        refine lv_goto (tgt := 36) hx hb dX11_stop_32 (by decide) ?_
        refine lv_istore (lv' := [(4, .int 1), (0, .ref (ad g 0)), (1, .int a1), (2, .int a2), (3, .int a3)]) hx hb dX11_stop_36 hl (by decide) rfl (fun ls hl => ?_)
        refine lv_iload hx hb dX11_stop_38 (lv_at hl 0 rfl) ?_
        refine lv_if_eq (tgt := 56) hx hb dX11_stop_40 (by decide) (fun hc => absurd hc (by decide)) (fun _ => ?_)
        refine lv_aload_n hx hb dX11_stop_43 rfl (lv_at hl 1 rfl) ?_
        refine gf_X11_33_x0 hC hW dX11_stop_44 ?_
        refine lv_iload_n hx hb dX11_stop_47 rfl (lv_at hl 2 rfl) ?_
        refine lv_iload_n hx hb dX11_stop_48 rfl (lv_at hl 3 rfl) ?_
        refine lv_iload_n hx hb dX11_stop_49 rfl (lv_at hl 4 rfl) ?_
        obtain ⟨x7, μ8, hx7, h⟩ := mbm_some h
        refine kr_ci hC hW (kr_runV hC hW hl.1 (t_vs_Stops_add hx7) cw_X11_116 (wx_4 g μ) rfl rfl rfl (Nat.le_of_ble_eq_true rfl) dX11_stop_50 (by decide)) (fun H locs hW => ?_)
        refine lv_goto (tgt := 57) hx hb dX11_stop_53 (by decide) ?_
        cases h
        exact kr_iret hC hr hlocks hW dX11_stop_57
set_option maxHeartbeats 4000000 in
set_option maxRecDepth 100000 in
theorem t_vs_Stops_has {l : Launch} {g : Gx} {A : Nat → Prop} {μ : Mm} {a1 : Int32} {v : Bool} (h : vs_Stops_has μ a1 = some v) : Cti l g A wx yX8_has cX8_has 2 (some .boolean) 1 [.ref (ad g 4), .int a1] μ (bI v) μ := by
  refine ent (lv := [(0, .ref (ad g 4)), (1, .int a1)]) (by decide) (Nat.le_of_ble_eq_true rfl) rfl ?_
  intro p e s m args below meth c hC hr hlocks hnm hW ls hl
  replace hC : Cx g RX8 cX8_has 2 p s m args c := hC
  obtain ⟨hx, hb, hml, hown, hts, hK, hN⟩ := id hC
  unfold vs_Stops_has at h
  refine lv_iload_n hx hb dX8_has_0 rfl (lv_at hl 1 rfl) ?_
  refine lv_iconst (v := 0) hx hb dX8_has_1 (by decide) ?_
  refine lv_aload_n hx hb dX8_has_2 rfl (lv_at hl 0 rfl) ?_
  refine gf_X8_48_x4 hC hW dX8_has_3 ?_
  refine lv_iconst (v := 1) hx hb dX8_has_6 (by decide) ?_
  refine lv_isub hx hb dX8_has_7 ?_
  obtain ⟨x1, hx1, h⟩ := mbv_some h
  refine kr_ci hC hW (kr_runN hC hW hl.1 (t_vs_within hx1) cw_X8_52 rfl rfl (Nat.le_of_ble_eq_true rfl) dX8_has_8 (by decide)) (fun H locs hW => ?_)
  cases h
  exact kr_zret hC hr hlocks _ rfl hW dX8_has_11
set_option maxHeartbeats 4000000 in
set_option maxRecDepth 100000 in
theorem tj_vs_Stops_tell_39 {μ : Mm} (a1 : Int32) (a2 : Int32) (a3 : Int32) (hC : Cx g RX8 cX8_tell 4 p s m args c) (hr : meth.sig.returnType = none) (hlocks : meth.locks = false) {u : Mm} (hl : lv_has ls 4 [(0, .ref (ad g 4)), (1, .int a1), (2, .int a2), (3, .int a3)]) (hW : wP g wx A s.heap μ H locs) (h : vs_Stops_tell_j39 μ a1 a2 a3 = some u) : W p l e (rmD 0) s m args below meth c H locs 0 0 (MQ below (Qv g A wx u) args s 0 0 A) (F0 m 39 ls []) := by
  obtain ⟨hx, hb, hml, hown, hts, hK, hN⟩ := id hC
  unfold vs_Stops_tell_j39 at h
  refine lv_iload_n hx hb dX8_tell_39 rfl (lv_at hl 2 rfl) ?_
  refine lv_iconst (v := (-1)) hx hb dX8_tell_40 (by decide) ?_
  refine lv_icmp_eq (tgt := 61) hx hb dX8_tell_41 (by decide) (fun hc3 => ?_) (fun hc3 => ?_)
  · replace h := if_p hc3 h
    refine lv_aload_n hx hb dX8_tell_61 rfl (lv_at hl 0 rfl) ?_
    refine gf_X8_21_x4 hC hW dX8_tell_62 ?_
    refine lv_iload_n hx hb dX8_tell_65 rfl (lv_at hl 1 rfl) ?_
    refine lv_iload_n hx hb dX8_tell_66 rfl (lv_at hl 2 rfl) ?_
    obtain ⟨μ4, eμ4, hin, h⟩ := mwr_ex h
    refine kr_iast hC hW (wx_35 g μ) (wxs_35 eμ4) hin dX8_tell_67 (fun H locs hW => ?_)
    refine lv_aload_n hx hb dX8_tell_68 rfl (lv_at hl 0 rfl) ?_
    refine gf_X8_24_x4 hC hW dX8_tell_69 ?_
    refine lv_iload_n hx hb dX8_tell_72 rfl (lv_at hl 1 rfl) ?_
    refine lv_iload_n hx hb dX8_tell_73 rfl (lv_at hl 3 rfl) ?_
    obtain ⟨μ5, eμ5, hin, h⟩ := mwr_ex h
    refine kr_iast hC hW (wx_36 g μ4) (wxs_36 eμ5) hin dX8_tell_74 (fun H locs hW => ?_)
    cases h
    exact kr_vret hC hr hlocks hW dX8_tell_75
  · replace h := if_n hc3 h
    refine lv_aload_n hx hb dX8_tell_44 rfl (lv_at hl 0 rfl) ?_
    refine gf_X8_39_x4 hC hW dX8_tell_45 ?_
    refine lv_iload_n hx hb dX8_tell_48 rfl (lv_at hl 2 rfl) ?_
    refine lv_bipush (v := 14) hx hb dX8_tell_49 (by decide) ?_
    refine lv_imul hx hb dX8_tell_51 ?_
    refine lv_iload_n hx hb dX8_tell_52 rfl (lv_at hl 3 rfl) ?_
    refine lv_iadd hx hb dX8_tell_53 ?_
    refine lv_dup2_11 hx hb dX8_tell_54 rfl rfl ?_
    obtain ⟨x6, ex6, hin, h⟩ := mrd_ex h
    refine kr_iald hC hW (wx_41 g μ) hin ex6 dX8_tell_55 ?_
    refine lv_iconst (v := 1) hx hb dX8_tell_56 (by decide) ?_
    refine lv_iload_n hx hb dX8_tell_57 rfl (lv_at hl 1 rfl) ?_
    refine lv_ishl hx hb dX8_tell_58 ?_
    refine lv_ior hx hb dX8_tell_59 ?_
    obtain ⟨μ7, eμ7, hin, h⟩ := mwr_ex h
    refine kr_iast hC hW (wx_41 g μ) (wxs_41 eμ7) hin dX8_tell_60 (fun H locs hW => ?_)
    refine lv_aload_n hx hb dX8_tell_61 rfl (lv_at hl 0 rfl) ?_
    refine gf_X8_21_x4 hC hW dX8_tell_62 ?_
    refine lv_iload_n hx hb dX8_tell_65 rfl (lv_at hl 1 rfl) ?_
    refine lv_iload_n hx hb dX8_tell_66 rfl (lv_at hl 2 rfl) ?_
    obtain ⟨μ8, eμ8, hin, h⟩ := mwr_ex h
    refine kr_iast hC hW (wx_35 g μ7) (wxs_35 eμ8) hin dX8_tell_67 (fun H locs hW => ?_)
    refine lv_aload_n hx hb dX8_tell_68 rfl (lv_at hl 0 rfl) ?_
    refine gf_X8_24_x4 hC hW dX8_tell_69 ?_
    refine lv_iload_n hx hb dX8_tell_72 rfl (lv_at hl 1 rfl) ?_
    refine lv_iload_n hx hb dX8_tell_73 rfl (lv_at hl 3 rfl) ?_
    obtain ⟨μ9, eμ9, hin, h⟩ := mwr_ex h
    refine kr_iast hC hW (wx_36 g μ8) (wxs_36 eμ9) hin dX8_tell_74 (fun H locs hW => ?_)
    cases h
    exact kr_vret hC hr hlocks hW dX8_tell_75
set_option maxHeartbeats 4000000 in
set_option maxRecDepth 100000 in
theorem t_vs_Stops_tell {l : Launch} {g : Gx} {A : Nat → Prop} {μ : Mm} {a1 : Int32} {a2 : Int32} {a3 : Int32} {u : Mm} (h : vs_Stops_tell μ a1 a2 a3 = some u) : Ctv l g A wx yX8_tell cX8_tell 4 none 0 [.ref (ad g 4), .int a1, .int a2, .int a3] μ u := by
  refine ent (lv := [(0, .ref (ad g 4)), (1, .int a1), (2, .int a2), (3, .int a3)]) (by decide) (Nat.le_of_ble_eq_true rfl) rfl ?_
  intro p e s m args below meth c hC hr hlocks hnm hW ls hl
  replace hC : Cx g RX8 cX8_tell 4 p s m args c := hC
  obtain ⟨hx, hb, hml, hown, hts, hK, hN⟩ := id hC
  unfold vs_Stops_tell at h
  refine lv_aload_n hx hb dX8_tell_0 rfl (lv_at hl 0 rfl) ?_
  refine gf_X8_21_x4 hC hW dX8_tell_1 ?_
  refine lv_iload_n hx hb dX8_tell_4 rfl (lv_at hl 1 rfl) ?_
  obtain ⟨x1, ex1, hin, h⟩ := mrd_ex h
  refine kr_iald hC hW (wx_35 g μ) hin ex1 dX8_tell_5 ?_
  refine lv_iconst (v := (-1)) hx hb dX8_tell_6 (by decide) ?_
  refine lv_icmp_eq (tgt := 39) hx hb dX8_tell_7 (by decide) (fun hc2 => ?_) (fun hc2 => ?_)
  · replace h := if_p hc2 h
    exact tj_vs_Stops_tell_39 a1 a2 a3 hC hr hlocks (lv_sub hl [0, 1, 2, 3] rfl) hW h
  · replace h := if_n hc2 h
    refine lv_aload_n hx hb dX8_tell_10 rfl (lv_at hl 0 rfl) ?_
    refine gf_X8_39_x4 hC hW dX8_tell_11 ?_
    refine lv_aload_n hx hb dX8_tell_14 rfl (lv_at hl 0 rfl) ?_
    refine gf_X8_21_x4 hC hW dX8_tell_15 ?_
    refine lv_iload_n hx hb dX8_tell_18 rfl (lv_at hl 1 rfl) ?_
    obtain ⟨x10, ex10, hin, h⟩ := mrd_ex h
    refine kr_iald hC hW (wx_35 g μ) hin ex10 dX8_tell_19 ?_
    refine lv_bipush (v := 14) hx hb dX8_tell_20 (by decide) ?_
    refine lv_imul hx hb dX8_tell_22 ?_
    refine lv_aload_n hx hb dX8_tell_23 rfl (lv_at hl 0 rfl) ?_
    refine gf_X8_24_x4 hC hW dX8_tell_24 ?_
    refine lv_iload_n hx hb dX8_tell_27 rfl (lv_at hl 1 rfl) ?_
    obtain ⟨x11, ex11, hin, h⟩ := mrd_ex h
    refine kr_iald hC hW (wx_36 g μ) hin ex11 dX8_tell_28 ?_
    refine lv_iadd hx hb dX8_tell_29 ?_
    refine lv_dup2_11 hx hb dX8_tell_30 rfl rfl ?_
    obtain ⟨x12, ex12, hin, h⟩ := mrd_ex h
    refine kr_iald hC hW (wx_41 g μ) hin ex12 dX8_tell_31 ?_
    refine lv_iconst (v := 1) hx hb dX8_tell_32 (by decide) ?_
    refine lv_iload_n hx hb dX8_tell_33 rfl (lv_at hl 1 rfl) ?_
    refine lv_ishl hx hb dX8_tell_34 ?_
    refine lv_iconst (v := (-1)) hx hb dX8_tell_35 (by decide) ?_
    refine lv_ixor hx hb dX8_tell_36 ?_
    refine lv_iand hx hb dX8_tell_37 ?_
    obtain ⟨μ13, eμ13, hin, h⟩ := mwr_ex h
    refine kr_iast hC hW (wx_41 g μ) (wxs_41 eμ13) hin dX8_tell_38 (fun H locs hW => ?_)
    exact tj_vs_Stops_tell_39 a1 a2 a3 hC hr hlocks (lv_sub hl [0, 1, 2, 3] rfl) hW h
set_option maxHeartbeats 4000000 in
set_option maxRecDepth 100000 in
theorem tj_vs_visit_23 {μ : Mm} (a1 : Int32) (a2 : Int32) (a3 : Int32) (hC : Cx g RX11 cX11_visit 4 p s m args c) (hr : meth.sig.returnType = some .boolean) (hlocks : meth.locks = false) {v : Bool} {u : Mm} (hl : lv_has ls 4 [(0, .ref (ad g 0)), (1, .int a1), (2, .int a2), (3, .int a3)]) (hW : wP g wx A s.heap μ H locs) (h : vs_visit_j23 μ a1 a2 a3 = some (v, u)) : W p l e (rmD 2) s m args below meth c H locs 0 0 (MQ below (Qi g A wx (bI v) u) args s 0 0 A) (F0 m 23 ls []) := by
  obtain ⟨hx, hb, hml, hown, hts, hK, hN⟩ := id hC
  unfold vs_visit_j23 at h
  refine lv_iload_n hx hb dX11_visit_23 rfl (lv_at hl 3 rfl) ?_
  refine lv_iconst (v := 0) hx hb dX11_visit_24 (by decide) ?_
  refine lv_bipush (v := 13) hx hb dX11_visit_25 (by decide) ?_
  obtain ⟨x4, hx4, h⟩ := mbv_some h
  refine kr_ci hC hW (kr_runS hC hW hl.1 (t_vs_within hx4) cw_X11_100 rfl rfl (Nat.le_of_ble_eq_true rfl) dX11_visit_27 (by decide)) (fun H locs hW => ?_)
  refine lv_if_ne (tgt := 35) hx hb dX11_visit_30 (by decide) (fun hc5 => ?_) (fun hc5 => ?_)
  · replace h := if_n hc5 h
    refine lv_aload_n hx hb dX11_visit_35 rfl (lv_at hl 0 rfl) ?_
    refine gf_X11_33_x0 hC hW dX11_visit_36 ?_
    refine lv_iload_n hx hb dX11_visit_39 rfl (lv_at hl 1 rfl) ?_
    refine lv_iload_n hx hb dX11_visit_40 rfl (lv_at hl 2 rfl) ?_
    refine lv_iload_n hx hb dX11_visit_41 rfl (lv_at hl 3 rfl) ?_
    obtain ⟨μ7, hxμ7, h⟩ := mbv_some h
    refine kr_cv hC hW (kr_runV hC hW hl.1 (t_vs_Stops_tell hxμ7) cw_X11_122 (wx_4 g μ) rfl rfl rfl (Nat.le_of_ble_eq_true rfl) dX11_visit_42 (by decide)) (fun H locs hW => ?_)
    refine lv_iconst (v := 1) hx hb dX11_visit_45 (by decide) ?_
    cases h
    exact kr_zret hC hr hlocks _ rfl hW dX11_visit_46
  · replace h := if_p hc5 h
    refine lv_iconst (v := 0) hx hb dX11_visit_33 (by decide) ?_
    cases h
    exact kr_zret hC hr hlocks _ rfl hW dX11_visit_34
set_option maxHeartbeats 4000000 in
set_option maxRecDepth 100000 in
theorem t_vs_visit {l : Launch} {g : Gx} {A : Nat → Prop} {μ : Mm} {a1 : Int32} {a2 : Int32} {a3 : Int32} {v : Bool} {u : Mm} (h : vs_visit μ a1 a2 a3 = some (v, u)) : Cti l g A wx yX11_visit cX11_visit 4 (some .boolean) 2 [.ref (ad g 0), .int a1, .int a2, .int a3] μ (bI v) u := by
  refine ent (lv := [(0, .ref (ad g 0)), (1, .int a1), (2, .int a2), (3, .int a3)]) (by decide) (Nat.le_of_ble_eq_true rfl) rfl ?_
  intro p e s m args below meth c hC hr hlocks hnm hW ls hl
  replace hC : Cx g RX11 cX11_visit 4 p s m args c := hC
  obtain ⟨hx, hb, hml, hown, hts, hK, hN⟩ := id hC
  unfold vs_visit at h
  refine lv_aload_n hx hb dX11_visit_0 rfl (lv_at hl 0 rfl) ?_
  refine gf_X11_33_x0 hC hW dX11_visit_1 ?_
  refine lv_iload_n hx hb dX11_visit_4 rfl (lv_at hl 1 rfl) ?_
  obtain ⟨x1, hx1, h⟩ := mbv_some h
  refine kr_ci hC hW (kr_runV hC hW hl.1 (t_vs_Stops_has hx1) cw_X11_119 (wx_4 g μ) rfl rfl rfl (Nat.le_of_ble_eq_true rfl) dX11_visit_5 (by decide)) (fun H locs hW => ?_)
  refine lv_if_eq (tgt := 33) hx hb dX11_visit_8 (by decide) (fun hc2 => ?_) (fun hc2 => ?_)
  · replace h := if_p hc2 h
    refine lv_iconst (v := 0) hx hb dX11_visit_33 (by decide) ?_
    cases h
    exact kr_zret hC hr hlocks _ rfl hW dX11_visit_34
  · replace h := if_n hc2 h
    refine lv_iload_n hx hb dX11_visit_11 rfl (lv_at hl 2 rfl) ?_
    refine lv_iconst (v := (-1)) hx hb dX11_visit_12 (by decide) ?_
    refine lv_icmp_eq (tgt := 23) hx hb dX11_visit_13 (by decide) (fun hc3 => ?_) (fun hc3 => ?_)
    · replace h := if_p hc3 h
      exact tj_vs_visit_23 a1 a2 a3 hC hr hlocks (lv_sub hl [0, 1, 2, 3] rfl) hW h
    · replace h := if_n hc3 h
      refine lv_iload_n hx hb dX11_visit_16 rfl (lv_at hl 2 rfl) ?_
      obtain ⟨x8, hx8, h⟩ := mbv_some h
      refine kr_ci hC hW (kr_runS hC hW hl.1 (t_vs_isVan hx8) cw_X11_108 rfl rfl (Nat.le_of_ble_eq_true rfl) dX11_visit_17 (by decide)) (fun H locs hW => ?_)
      refine lv_if_eq (tgt := 33) hx hb dX11_visit_20 (by decide) (fun hc9 => ?_) (fun hc9 => ?_)
      · replace h := if_p hc9 h
        refine lv_iconst (v := 0) hx hb dX11_visit_33 (by decide) ?_
        cases h
        exact kr_zret hC hr hlocks _ rfl hW dX11_visit_34
      · replace h := if_n hc9 h
        exact tj_vs_visit_23 a1 a2 a3 hC hr hlocks (lv_sub hl [0, 1, 2, 3] rfl) hW h
set_option maxHeartbeats 4000000 in
set_option maxRecDepth 100000 in
theorem t_vs_Readers_add {l : Launch} {g : Gx} {A : Nat → Prop} {μ : Mm} {a1 : Int32} {a2 : Int32} {v : Int32} {u : Mm} (h : vs_Readers_add μ a1 a2 = some (v, u)) : Cti l g A wx yX5_add cX5_add 3 (some .int) 0 [.ref (ad g 3), .int a1, .int a2] μ v u := by
  refine ent (lv := [(0, .ref (ad g 3)), (1, .int a1), (2, .int a2)]) (by decide) (Nat.le_of_ble_eq_true rfl) rfl ?_
  intro p e s m args below meth c hC hr hlocks hnm hW ls hl
  replace hC : Cx g RX5 cX5_add 3 p s m args c := hC
  obtain ⟨hx, hb, hml, hown, hts, hK, hN⟩ := id hC
  unfold vs_Readers_add at h
  refine lv_aload_n hx hb dX5_add_0 rfl (lv_at hl 0 rfl) ?_
  refine gf_X5_33_x3 hC hW dX5_add_1 ?_
  refine lv_bipush (v := 16) hx hb dX5_add_4 (by decide) ?_
  refine lv_icmp_lt (tgt := 11) hx hb dX5_add_6 (by decide) (fun hc1 => ?_) (fun hc1 => ?_)
  · replace h := if_p hc1 h
    refine lv_aload_n hx hb dX5_add_11 rfl (lv_at hl 0 rfl) ?_
    refine gf_X5_9_x3 hC hW dX5_add_12 ?_
    refine lv_aload_n hx hb dX5_add_15 rfl (lv_at hl 0 rfl) ?_
    refine gf_X5_33_x3 hC hW dX5_add_16 ?_
    refine lv_iload_n hx hb dX5_add_19 rfl (lv_at hl 1 rfl) ?_
    obtain ⟨μ2, eμ2, hin, h⟩ := mwr_ex h
    refine kr_iast hC hW (wx_25 g μ) (wxs_25 eμ2) hin dX5_add_20 (fun H locs hW => ?_)
    refine lv_aload_n hx hb dX5_add_21 rfl (lv_at hl 0 rfl) ?_
    refine gf_X5_15_x3 hC hW dX5_add_22 ?_
    refine lv_aload_n hx hb dX5_add_25 rfl (lv_at hl 0 rfl) ?_
    refine gf_X5_33_x3 hC hW dX5_add_26 ?_
    refine lv_iload_n hx hb dX5_add_29 rfl (lv_at hl 2 rfl) ?_
    obtain ⟨μ3, eμ3, hin, h⟩ := mwr_ex h
    refine kr_iast hC hW (wx_26 g μ2) (wxs_26 eμ3) hin dX5_add_30 (fun H locs hW => ?_)
    refine lv_aload_n hx hb dX5_add_31 rfl (lv_at hl 0 rfl) ?_
    refine lv_dup hx hb dX5_add_32 rfl ?_
    refine gf_X5_33_x3 hC hW dX5_add_33 ?_
    refine lv_iconst (v := 1) hx hb dX5_add_36 (by decide) ?_
    refine lv_iadd hx hb dX5_add_37 ?_
    obtain ⟨μ4, eμ4, h⟩ := mst_some h
    refine pf_X5_33_x3 hC hW eμ4 dX5_add_38 (fun H locs hW => ?_)
    refine lv_aload_n hx hb dX5_add_41 rfl (lv_at hl 0 rfl) ?_
    refine gf_X5_33_x3 hC hW dX5_add_42 ?_
    refine lv_iconst (v := 1) hx hb dX5_add_45 (by decide) ?_
    refine lv_isub hx hb dX5_add_46 ?_
    cases h
    exact kr_iret hC hr hlocks hW dX5_add_47
  · replace h := if_n hc1 h
    refine lv_iconst (v := (-1)) hx hb dX5_add_9 (by decide) ?_
    cases h
    exact kr_iret hC hr hlocks hW dX5_add_10
set_option maxHeartbeats 4000000 in
set_option maxRecDepth 100000 in
theorem t_vs_reader {l : Launch} {g : Gx} {A : Nat → Prop} {μ : Mm} {a1 : Int32} {a2 : Int32} {v : Int32} {u : Mm} (h : vs_reader μ a1 a2 = some (v, u)) : Cti l g A wx yX11_reader cX11_reader 4 (some .int) 2 [.ref (ad g 0), .int a1, .int a2] μ v u := by
  refine ent (lv := [(0, .ref (ad g 0)), (1, .int a1), (2, .int a2)]) (by decide) (Nat.le_of_ble_eq_true rfl) rfl ?_
  intro p e s m args below meth c hC hr hlocks hnm hW ls hl
  replace hC : Cx g RX11 cX11_reader 4 p s m args c := hC
  obtain ⟨hx, hb, hml, hown, hts, hK, hN⟩ := id hC
  unfold vs_reader at h
  refine lv_aload_n hx hb dX11_reader_0 rfl (lv_at hl 0 rfl) ?_
  refine gf_X11_33_x0 hC hW dX11_reader_1 ?_
  refine lv_iload_n hx hb dX11_reader_4 rfl (lv_at hl 1 rfl) ?_
  obtain ⟨x1, hx1, h⟩ := mbv_some h
  refine kr_ci hC hW (kr_runV hC hW hl.1 (t_vs_Stops_has hx1) cw_X11_119 (wx_4 g μ) rfl rfl rfl (Nat.le_of_ble_eq_true rfl) dX11_reader_5 (by decide)) (fun H locs hW => ?_)
  refine lv_if_eq (tgt := 20) hx hb dX11_reader_8 (by decide) (fun hc2 => ?_) (fun hc2 => ?_)
  · replace h := if_p hc2 h
    refine lv_iconst (v := (-1)) hx hb dX11_reader_20 (by decide) ?_
    cases h
    exact kr_iret hC hr hlocks hW dX11_reader_21
  · replace h := if_n hc2 h
    refine lv_iload_n hx hb dX11_reader_11 rfl (lv_at hl 2 rfl) ?_
    refine lv_iconst (v := 0) hx hb dX11_reader_12 (by decide) ?_
    refine lv_iconst (v := 2) hx hb dX11_reader_13 (by decide) ?_
    obtain ⟨x3, hx3, h⟩ := mbv_some h
    refine kr_ci hC hW (kr_runS hC hW hl.1 (t_vs_within hx3) cw_X11_100 rfl rfl (Nat.le_of_ble_eq_true rfl) dX11_reader_14 (by decide)) (fun H locs hW => ?_)
    refine lv_if_ne (tgt := 22) hx hb dX11_reader_17 (by decide) (fun hc4 => ?_) (fun hc4 => ?_)
    · replace h := if_n hc4 h
      refine lv_aload_n hx hb dX11_reader_22 rfl (lv_at hl 0 rfl) ?_
      refine gf_X11_26_x0 hC hW dX11_reader_23 ?_
      refine lv_iload_n hx hb dX11_reader_26 rfl (lv_at hl 1 rfl) ?_
      refine lv_iload_n hx hb dX11_reader_27 rfl (lv_at hl 2 rfl) ?_
      obtain ⟨x5, μ6, hx5, h⟩ := mbm_some h
      refine kr_ci hC hW (kr_runV hC hW hl.1 (t_vs_Readers_add hx5) cw_X11_126 (wx_3 g μ) rfl rfl rfl (Nat.le_of_ble_eq_true rfl) dX11_reader_28 (by decide)) (fun H locs hW => ?_)
      refine lv_istore_n (lv' := [(3, .int x5), (0, .ref (ad g 0)), (1, .int a1), (2, .int a2)]) hx hb dX11_reader_31 rfl hl (by decide) rfl (fun ls hl => ?_)
      refine lv_iload_n hx hb dX11_reader_32 rfl (lv_at hl 0 rfl) ?_
      refine lv_iconst (v := (-1)) hx hb dX11_reader_33 (by decide) ?_
      refine lv_icmp_eq (tgt := 52) hx hb dX11_reader_34 (by decide) (fun hc7 => ?_) (fun hc7 => ?_)
      · replace h := if_p hc7 h
        refine lv_iload_n hx hb dX11_reader_52 rfl (lv_at hl 0 rfl) ?_
        cases h
        exact kr_iret hC hr hlocks hW dX11_reader_53
      · replace h := if_n hc7 h
        refine lv_aload_n hx hb dX11_reader_37 rfl (lv_at hl 1 rfl) ?_
        refine gf_X11_33_x0 hC hW dX11_reader_38 ?_
        refine gf_X11_129_x4 hC hW dX11_reader_41 ?_
        refine lv_iload_n hx hb dX11_reader_44 rfl (lv_at hl 2 rfl) ?_
        refine lv_dup2_11 hx hb dX11_reader_45 rfl rfl ?_
        obtain ⟨x8, ex8, hin, h⟩ := mrd_ex h
        refine kr_iald hC hW (wx_39 g μ6) hin ex8 dX11_reader_46 ?_
        refine lv_iconst (v := 1) hx hb dX11_reader_47 (by decide) ?_
        refine lv_iload_n hx hb dX11_reader_48 rfl (lv_at hl 0 rfl) ?_
        refine lv_ishl hx hb dX11_reader_49 ?_
        refine lv_ior hx hb dX11_reader_50 ?_
        obtain ⟨μ9, eμ9, hin, h⟩ := mwr_ex h
        refine kr_iast hC hW (wx_39 g μ6) (wxs_39 eμ9) hin dX11_reader_51 (fun H locs hW => ?_)
        refine lv_iload_n hx hb dX11_reader_52 rfl (lv_at hl 0 rfl) ?_
        cases h
        exact kr_iret hC hr hlocks hW dX11_reader_53
    · replace h := if_p hc4 h
      refine lv_iconst (v := (-1)) hx hb dX11_reader_20 (by decide) ?_
      cases h
      exact kr_iret hC hr hlocks hW dX11_reader_21
set_option maxHeartbeats 4000000 in
set_option maxRecDepth 100000 in
theorem t_vs_Readers_has {l : Launch} {g : Gx} {A : Nat → Prop} {μ : Mm} {a1 : Int32} {v : Bool} (h : vs_Readers_has μ a1 = some v) : Cti l g A wx yX5_has cX5_has 2 (some .boolean) 1 [.ref (ad g 3), .int a1] μ (bI v) μ := by
  refine ent (lv := [(0, .ref (ad g 3)), (1, .int a1)]) (by decide) (Nat.le_of_ble_eq_true rfl) rfl ?_
  intro p e s m args below meth c hC hr hlocks hnm hW ls hl
  replace hC : Cx g RX5 cX5_has 2 p s m args c := hC
  obtain ⟨hx, hb, hml, hown, hts, hK, hN⟩ := id hC
  unfold vs_Readers_has at h
  refine lv_iload_n hx hb dX5_has_0 rfl (lv_at hl 1 rfl) ?_
  refine lv_iconst (v := 0) hx hb dX5_has_1 (by decide) ?_
  refine lv_aload_n hx hb dX5_has_2 rfl (lv_at hl 0 rfl) ?_
  refine gf_X5_33_x3 hC hW dX5_has_3 ?_
  refine lv_iconst (v := 1) hx hb dX5_has_6 (by decide) ?_
  refine lv_isub hx hb dX5_has_7 ?_
  obtain ⟨x1, hx1, h⟩ := mbv_some h
  refine kr_ci hC hW (kr_runN hC hW hl.1 (t_vs_within hx1) cw_X5_37 rfl rfl (Nat.le_of_ble_eq_true rfl) dX5_has_8 (by decide)) (fun H locs hW => ?_)
  cases h
  exact kr_zret hC hr hlocks _ rfl hW dX5_has_11
set_option maxHeartbeats 4000000 in
set_option maxRecDepth 100000 in
theorem t_vs_taste {l : Launch} {g : Gx} {A : Nat → Prop} {μ : Mm} {a1 : Int32} {a2 : Int32} {a3 : Int32} {v : Bool} {u : Mm} (h : vs_taste μ a1 a2 a3 = some (v, u)) : Cti l g A wx yX11_taste cX11_taste 4 (some .boolean) 2 [.ref (ad g 0), .int a1, .int a2, .int a3] μ (bI v) u := by
  refine ent (lv := [(0, .ref (ad g 0)), (1, .int a1), (2, .int a2), (3, .int a3)]) (by decide) (Nat.le_of_ble_eq_true rfl) rfl ?_
  intro p e s m args below meth c hC hr hlocks hnm hW ls hl
  replace hC : Cx g RX11 cX11_taste 4 p s m args c := hC
  obtain ⟨hx, hb, hml, hown, hts, hK, hN⟩ := id hC
  unfold vs_taste at h
  refine lv_aload_n hx hb dX11_taste_0 rfl (lv_at hl 0 rfl) ?_
  refine gf_X11_26_x0 hC hW dX11_taste_1 ?_
  refine lv_iload_n hx hb dX11_taste_4 rfl (lv_at hl 1 rfl) ?_
  obtain ⟨x1, hx1, h⟩ := mbv_some h
  refine kr_ci hC hW (kr_runV hC hW hl.1 (t_vs_Readers_has hx1) cw_X11_131 (wx_3 g μ) rfl rfl rfl (Nat.le_of_ble_eq_true rfl) dX11_taste_5 (by decide)) (fun H locs hW => ?_)
  refine lv_if_eq (tgt := 31) hx hb dX11_taste_8 (by decide) (fun hc2 => ?_) (fun hc2 => ?_)
  · replace h := if_p hc2 h
    refine lv_iconst (v := 0) hx hb dX11_taste_31 (by decide) ?_
    cases h
    exact kr_zret hC hr hlocks _ rfl hW dX11_taste_32
  · replace h := if_n hc2 h
    refine lv_iload_n hx hb dX11_taste_11 rfl (lv_at hl 2 rfl) ?_
    refine lv_iconst (v := 0) hx hb dX11_taste_12 (by decide) ?_
    refine lv_bipush (v := 7) hx hb dX11_taste_13 (by decide) ?_
    obtain ⟨x3, hx3, h⟩ := mbv_some h
    refine kr_ci hC hW (kr_runS hC hW hl.1 (t_vs_within hx3) cw_X11_100 rfl rfl (Nat.le_of_ble_eq_true rfl) dX11_taste_15 (by decide)) (fun H locs hW => ?_)
    refine lv_if_eq (tgt := 31) hx hb dX11_taste_18 (by decide) (fun hc4 => ?_) (fun hc4 => ?_)
    · replace h := if_p hc4 h
      refine lv_iconst (v := 0) hx hb dX11_taste_31 (by decide) ?_
      cases h
      exact kr_zret hC hr hlocks _ rfl hW dX11_taste_32
    · replace h := if_n hc4 h
      refine lv_iload_n hx hb dX11_taste_21 rfl (lv_at hl 3 rfl) ?_
      refine lv_iconst (v := 0) hx hb dX11_taste_22 (by decide) ?_
      refine lv_bipush (v := 9) hx hb dX11_taste_23 (by decide) ?_
      obtain ⟨x5, hx5, h⟩ := mbv_some h
      refine kr_ci hC hW (kr_runS hC hW hl.1 (t_vs_within hx5) cw_X11_100 rfl rfl (Nat.le_of_ble_eq_true rfl) dX11_taste_25 (by decide)) (fun H locs hW => ?_)
      refine lv_if_ne (tgt := 33) hx hb dX11_taste_28 (by decide) (fun hc6 => ?_) (fun hc6 => ?_)
      · replace h := if_n hc6 h
        refine lv_aload_n hx hb dX11_taste_33 rfl (lv_at hl 0 rfl) ?_
        refine gf_X11_26_x0 hC hW dX11_taste_34 ?_
        refine gf_X11_132_x3 hC hW dX11_taste_37 ?_
        refine lv_iload_n hx hb dX11_taste_40 rfl (lv_at hl 1 rfl) ?_
        refine lv_bipush (v := 8) hx hb dX11_taste_41 (by decide) ?_
        refine lv_imul hx hb dX11_taste_43 ?_
        refine lv_iload_n hx hb dX11_taste_44 rfl (lv_at hl 2 rfl) ?_
        refine lv_iadd hx hb dX11_taste_45 ?_
        refine lv_iload_n hx hb dX11_taste_46 rfl (lv_at hl 3 rfl) ?_
        obtain ⟨μ7, eμ7, hin, h⟩ := mwr_ex h
        refine kr_iast hC hW (wx_27 g μ) (wxs_27 eμ7) hin dX11_taste_47 (fun H locs hW => ?_)
        refine lv_iconst (v := 1) hx hb dX11_taste_48 (by decide) ?_
        cases h
        exact kr_zret hC hr hlocks _ rfl hW dX11_taste_49
      · replace h := if_p hc6 h
        refine lv_iconst (v := 0) hx hb dX11_taste_31 (by decide) ?_
        cases h
        exact kr_zret hC hr hlocks _ rfl hW dX11_taste_32
set_option maxHeartbeats 4000000 in
set_option maxRecDepth 100000 in
theorem t_vs_Books_has {l : Launch} {g : Gx} {A : Nat → Prop} {μ : Mm} {a1 : Int32} {v : Bool} (h : vs_Books_has μ a1 = some v) : Cti l g A wx yX2_has cX2_has 2 (some .boolean) 1 [.ref (ad g 2), .int a1] μ (bI v) μ := by
  refine ent (lv := [(0, .ref (ad g 2)), (1, .int a1)]) (by decide) (Nat.le_of_ble_eq_true rfl) rfl ?_
  intro p e s m args below meth c hC hr hlocks hnm hW ls hl
  replace hC : Cx g RX2 cX2_has 2 p s m args c := hC
  obtain ⟨hx, hb, hml, hown, hts, hK, hN⟩ := id hC
  unfold vs_Books_has at h
  refine lv_iload_n hx hb dX2_has_0 rfl (lv_at hl 1 rfl) ?_
  refine lv_iconst (v := 0) hx hb dX2_has_1 (by decide) ?_
  refine lv_aload_n hx hb dX2_has_2 rfl (lv_at hl 0 rfl) ?_
  refine gf_X2_42_x2 hC hW dX2_has_3 ?_
  refine lv_iconst (v := 1) hx hb dX2_has_6 (by decide) ?_
  refine lv_isub hx hb dX2_has_7 ?_
  obtain ⟨x1, hx1, h⟩ := mbv_some h
  refine kr_ci hC hW (kr_runN hC hW hl.1 (t_vs_within hx1) cw_X2_46 rfl rfl (Nat.le_of_ble_eq_true rfl) dX2_has_8 (by decide)) (fun H locs hW => ?_)
  cases h
  exact kr_zret hC hr hlocks _ rfl hW dX2_has_11
set_option maxHeartbeats 4000000 in
set_option maxRecDepth 100000 in
theorem t_vs_isPair {l : Launch} {g : Gx} {A : Nat → Prop} {μ : Mm} {a1 : Int32} {a2 : Int32} {v : Bool} (h : vs_isPair μ a1 a2 = some v) : Cti l g A wx yX11_isPair cX11_isPair 3 (some .boolean) 2 [.ref (ad g 0), .int a1, .int a2] μ (bI v) μ := by
  refine ent (lv := [(0, .ref (ad g 0)), (1, .int a1), (2, .int a2)]) (by decide) (Nat.le_of_ble_eq_true rfl) rfl ?_
  intro p e s m args below meth c hC hr hlocks hnm hW ls hl
  replace hC : Cx g RX11 cX11_isPair 3 p s m args c := hC
  obtain ⟨hx, hb, hml, hown, hts, hK, hN⟩ := id hC
  unfold vs_isPair at h
  refine lv_aload_n hx hb dX11_isPair_0 rfl (lv_at hl 0 rfl) ?_
  refine gf_X11_26_x0 hC hW dX11_isPair_1 ?_
  refine lv_iload_n hx hb dX11_isPair_4 rfl (lv_at hl 1 rfl) ?_
  obtain ⟨x1, hx1, h⟩ := mbv_some h
  refine kr_ci hC hW (kr_runV hC hW hl.1 (t_vs_Readers_has hx1) cw_X11_131 (wx_3 g μ) rfl rfl rfl (Nat.le_of_ble_eq_true rfl) dX11_isPair_5 (by decide)) (fun H locs hW => ?_)
  refine lv_if_eq (tgt := 26) hx hb dX11_isPair_8 (by decide) (fun hc2 => ?_) (fun hc2 => ?_)
  · replace h := if_p hc2 h
    refine lv_iconst (v := 0) hx hb dX11_isPair_26 (by decide) ?_
    cases h
    exact kr_zret hC hr hlocks _ rfl hW dX11_isPair_27
  · replace h := if_n hc2 h
    refine lv_aload_n hx hb dX11_isPair_11 rfl (lv_at hl 0 rfl) ?_
    refine gf_X11_19_x0 hC hW dX11_isPair_12 ?_
    refine lv_iload_n hx hb dX11_isPair_15 rfl (lv_at hl 2 rfl) ?_
    obtain ⟨x3, hx3, h⟩ := mbv_some h
    refine kr_ci hC hW (kr_runV hC hW hl.1 (t_vs_Books_has hx3) cw_X11_185 (wx_2 g μ) rfl rfl rfl (Nat.le_of_ble_eq_true rfl) dX11_isPair_16 (by decide)) (fun H locs hW => ?_)
    refine lv_if_eq (tgt := 26) hx hb dX11_isPair_19 (by decide) (fun hc4 => ?_) (fun hc4 => ?_)
    · replace h := if_p hc4 h
      refine lv_iconst (v := 0) hx hb dX11_isPair_26 (by decide) ?_
      cases h
      exact kr_zret hC hr hlocks _ rfl hW dX11_isPair_27
    · replace h := if_n hc4 h
      refine lv_iconst (v := 1) hx hb dX11_isPair_22 (by decide) ?_
      refine lv_goto (tgt := 27) hx hb dX11_isPair_23 (by decide) ?_
      cases h
      exact kr_zret hC hr hlocks _ rfl hW dX11_isPair_27
set_option maxHeartbeats 4000000 in
set_option maxRecDepth 100000 in
theorem t_vs_hasBit {l : Launch} {g : Gx} {A : Nat → Prop} {Wd : Gx → Mm → va_W} {μ : Mm} {a0 : Int32} {a1 : Int32} {v : Bool} (h : vs_hasBit a0 a1 = some v) : Cti l g A Wd yX11_hasBit cX11_hasBit 2 (some .boolean) 0 [.int a0, .int a1] μ (bI v) μ := by
  refine ent (lv := [(0, .int a0), (1, .int a1)]) (by decide) (Nat.le_of_ble_eq_true rfl) rfl ?_
  intro p e s m args below meth c hC hr hlocks hnm hW ls hl
  replace hC : Cx g RX11 cX11_hasBit 2 p s m args c := hC
  obtain ⟨hx, hb, hml, hown, hts, hK, hN⟩ := id hC
  unfold vs_hasBit at h
  refine lv_iload_n hx hb dX11_hasBit_0 rfl (lv_at hl 0 rfl) ?_
  refine lv_iload_n hx hb dX11_hasBit_1 rfl (lv_at hl 1 rfl) ?_
  refine lv_iushr (v := (ush a0 a1)) hx hb dX11_hasBit_2 rfl ?_
  refine lv_iconst (v := 1) hx hb dX11_hasBit_3 (by decide) ?_
  refine lv_iand hx hb dX11_hasBit_4 ?_
  refine lv_if_eq (tgt := 12) hx hb dX11_hasBit_5 (by decide) (fun hc1 => ?_) (fun hc1 => ?_)
  · replace h := if_p hc1 h
    refine lv_iconst (v := 0) hx hb dX11_hasBit_12 (by decide) ?_
    cases h
    exact kr_zret hC hr hlocks _ rfl hW dX11_hasBit_13
  · replace h := if_n hc1 h
    refine lv_iconst (v := 1) hx hb dX11_hasBit_8 (by decide) ?_
    refine lv_goto (tgt := 13) hx hb dX11_hasBit_9 (by decide) ?_
    cases h
    exact kr_zret hC hr hlocks _ rfl hW dX11_hasBit_13
set_option maxHeartbeats 4000000 in
set_option maxRecDepth 100000 in
theorem t_vs_Books_wasHad {l : Launch} {g : Gx} {A : Nat → Prop} {μ : Mm} {a1 : Int32} {a2 : Int32} {v : Bool} (h : vs_Books_wasHad μ a1 a2 = some v) : Cti l g A wx yX2_wasHad cX2_wasHad 3 (some .boolean) 1 [.ref (ad g 2), .int a1, .int a2] μ (bI v) μ := by
  refine ent (lv := [(0, .ref (ad g 2)), (1, .int a1), (2, .int a2)]) (by decide) (Nat.le_of_ble_eq_true rfl) rfl ?_
  intro p e s m args below meth c hC hr hlocks hnm hW ls hl
  replace hC : Cx g RX2 cX2_wasHad 3 p s m args c := hC
  obtain ⟨hx, hb, hml, hown, hts, hK, hN⟩ := id hC
  unfold vs_Books_wasHad at h
  refine lv_aload_n hx hb dX2_wasHad_0 rfl (lv_at hl 0 rfl) ?_
  refine gf_X2_36_x2 hC hW dX2_wasHad_1 ?_
  refine lv_iload_n hx hb dX2_wasHad_4 rfl (lv_at hl 1 rfl) ?_
  obtain ⟨x1, ex1, hin, h⟩ := mrd_ex h
  refine kr_iald hC hW (wx_23 g μ) hin ex1 dX2_wasHad_5 ?_
  refine lv_iload_n hx hb dX2_wasHad_6 rfl (lv_at hl 2 rfl) ?_
  obtain ⟨x2, hx2, h⟩ := mbv_some h
  refine kr_ci hC hW (kr_runN hC hW hl.1 (t_vs_hasBit hx2) cw_X2_50 rfl rfl (Nat.le_of_ble_eq_true rfl) dX2_wasHad_7 (by decide)) (fun H locs hW => ?_)
  cases h
  exact kr_zret hC hr hlocks _ rfl hW dX2_wasHad_10
set_option maxHeartbeats 4000000 in
set_option maxRecDepth 100000 in
theorem t_vs_remember {l : Launch} {g : Gx} {A : Nat → Prop} {μ : Mm} {a1 : Int32} {a2 : Int32} {u : Mm} (h : vs_remember μ a1 a2 = some u) : Ctv l g A wx yX11_remember cX11_remember 3 none 0 [.ref (ad g 0), .int a1, .int a2] μ u := by
  refine ent (lv := [(0, .ref (ad g 0)), (1, .int a1), (2, .int a2)]) (by decide) (Nat.le_of_ble_eq_true rfl) rfl ?_
  intro p e s m args below meth c hC hr hlocks hnm hW ls hl
  replace hC : Cx g RX11 cX11_remember 3 p s m args c := hC
  obtain ⟨hx, hb, hml, hown, hts, hK, hN⟩ := id hC
  unfold vs_remember at h
  refine lv_aload_n hx hb dX11_remember_0 rfl (lv_at hl 0 rfl) ?_
  refine gf_X11_19_x0 hC hW dX11_remember_1 ?_
  refine gf_X11_238_x2 hC hW dX11_remember_4 ?_
  refine lv_iload_n hx hb dX11_remember_7 rfl (lv_at hl 2 rfl) ?_
  refine lv_dup2_11 hx hb dX11_remember_8 rfl rfl ?_
  obtain ⟨x1, ex1, hin, h⟩ := mrd_ex h
  refine kr_iald hC hW (wx_23 g μ) hin ex1 dX11_remember_9 ?_
  refine lv_iconst (v := 1) hx hb dX11_remember_10 (by decide) ?_
  refine lv_iload_n hx hb dX11_remember_11 rfl (lv_at hl 1 rfl) ?_
  refine lv_ishl hx hb dX11_remember_12 ?_
  refine lv_ior hx hb dX11_remember_13 ?_
  obtain ⟨μ2, eμ2, hin, h⟩ := mwr_ex h
  refine kr_iast hC hW (wx_23 g μ) (wxs_23 eμ2) hin dX11_remember_14 (fun H locs hW => ?_)
  refine lv_aload_n hx hb dX11_remember_15 rfl (lv_at hl 0 rfl) ?_
  refine gf_X11_26_x0 hC hW dX11_remember_16 ?_
  refine gf_X11_249_x3 hC hW dX11_remember_19 ?_
  refine lv_iload_n hx hb dX11_remember_22 rfl (lv_at hl 1 rfl) ?_
  refine lv_dup2_11 hx hb dX11_remember_23 rfl rfl ?_
  obtain ⟨x3, ex3, hin, h⟩ := mrd_ex h
  refine kr_iald hC hW (wx_28 g μ2) hin ex3 dX11_remember_24 ?_
  refine lv_iconst (v := 1) hx hb dX11_remember_25 (by decide) ?_
  refine lv_iload_n hx hb dX11_remember_26 rfl (lv_at hl 2 rfl) ?_
  refine lv_ishl hx hb dX11_remember_27 ?_
  refine lv_ior hx hb dX11_remember_28 ?_
  obtain ⟨μ4, eμ4, hin, h⟩ := mwr_ex h
  refine kr_iast hC hW (wx_28 g μ2) (wxs_28 eμ4) hin dX11_remember_29 (fun H locs hW => ?_)
  cases h
  exact kr_vret hC hr hlocks hW dX11_remember_30
set_option maxHeartbeats 4000000 in
set_option maxRecDepth 100000 in
theorem t_vs_had {l : Launch} {g : Gx} {A : Nat → Prop} {μ : Mm} {a1 : Int32} {a2 : Int32} {v : Bool} {u : Mm} (h : vs_had μ a1 a2 = some (v, u)) : Cti l g A wx yX11_had cX11_had 3 (some .boolean) 3 [.ref (ad g 0), .int a1, .int a2] μ (bI v) u := by
  refine ent (lv := [(0, .ref (ad g 0)), (1, .int a1), (2, .int a2)]) (by decide) (Nat.le_of_ble_eq_true rfl) rfl ?_
  intro p e s m args below meth c hC hr hlocks hnm hW ls hl
  replace hC : Cx g RX11 cX11_had 3 p s m args c := hC
  obtain ⟨hx, hb, hml, hown, hts, hK, hN⟩ := id hC
  unfold vs_had at h
  refine lv_aload_n hx hb dX11_had_0 rfl (lv_at hl 0 rfl) ?_
  refine lv_iload_n hx hb dX11_had_1 rfl (lv_at hl 1 rfl) ?_
  refine lv_iload_n hx hb dX11_had_2 rfl (lv_at hl 2 rfl) ?_
  obtain ⟨x1, hx1, h⟩ := mbv_some h
  refine kr_ci hC hW (kr_runV hC hW hl.1 (t_vs_isPair hx1) cw_X11_135 (wx_0 g μ) rfl rfl rfl (Nat.le_of_ble_eq_true rfl) dX11_had_3 (by decide)) (fun H locs hW => ?_)
  refine lv_if_eq (tgt := 21) hx hb dX11_had_6 (by decide) (fun hc2 => ?_) (fun hc2 => ?_)
  · replace h := if_p hc2 h
    refine lv_iconst (v := 0) hx hb dX11_had_21 (by decide) ?_
    cases h
    exact kr_zret hC hr hlocks _ rfl hW dX11_had_22
  · replace h := if_n hc2 h
    refine lv_aload_n hx hb dX11_had_9 rfl (lv_at hl 0 rfl) ?_
    refine gf_X11_19_x0 hC hW dX11_had_10 ?_
    refine lv_iload_n hx hb dX11_had_13 rfl (lv_at hl 2 rfl) ?_
    refine lv_iload_n hx hb dX11_had_14 rfl (lv_at hl 1 rfl) ?_
    obtain ⟨x3, hx3, h⟩ := mbv_some h
    refine kr_ci hC hW (kr_runV hC hW hl.1 (t_vs_Books_wasHad hx3) cw_X11_139 (wx_2 g μ) rfl rfl rfl (Nat.le_of_ble_eq_true rfl) dX11_had_15 (by decide)) (fun H locs hW => ?_)
    refine lv_if_eq (tgt := 23) hx hb dX11_had_18 (by decide) (fun hc4 => ?_) (fun hc4 => ?_)
    · replace h := if_p hc4 h
      refine lv_aload_n hx hb dX11_had_23 rfl (lv_at hl 0 rfl) ?_
      refine lv_iload_n hx hb dX11_had_24 rfl (lv_at hl 1 rfl) ?_
      refine lv_iload_n hx hb dX11_had_25 rfl (lv_at hl 2 rfl) ?_
      obtain ⟨μ6, hxμ6, h⟩ := mbv_some h
      refine kr_cv hC hW (kr_runV hC hW hl.1 (t_vs_remember hxμ6) cw_X11_142 (wx_0 g μ) rfl rfl rfl (Nat.le_of_ble_eq_true rfl) dX11_had_26 (by decide)) (fun H locs hW => ?_)
      refine lv_iconst (v := 1) hx hb dX11_had_29 (by decide) ?_
      cases h
      exact kr_zret hC hr hlocks _ rfl hW dX11_had_30
    · replace h := if_n hc4 h
      refine lv_iconst (v := 0) hx hb dX11_had_21 (by decide) ?_
      cases h
      exact kr_zret hC hr hlocks _ rfl hW dX11_had_22
set_option maxHeartbeats 4000000 in
set_option maxRecDepth 100000 in
theorem tl_vs_Tape_append_3 (a1 : Int32) (hC : Cx g RX9 cX9_append 3 p s m args c) {e0 : (Mm)} (kx0 : ∀ (ls : Array Slot) (H : Heap) (locs : List Loc), lv_has ls 3 [] → wP g wx A s.heap e0 H locs → W p l e (rmD 0) s m args below meth c H locs 0 0 Q (F0 m 49 ls [])) : ∀ (n : Nat) (q : Int32 × Mm), miter (fun q => vs_Tape_append_b3 q.2 a1 q.1) n q = some e0 → ∀ (ls : Array Slot) (H : Heap) (locs : List Loc), lv_has ls 3 [(0, .ref (ad g 1)), (1, .int a1), (2, .int q.1)] → wP g wx A s.heap q.2 H locs → W p l e (rmD 0) s m args below meth c H locs 0 0 Q (F0 m 3 ls []) := by
  obtain ⟨hx, hb, hml, hown, hts, hK, hN⟩ := id hC
  refine miter_ind (fun q r hf k1 k2 => ?_)
  obtain ⟨xs2, μ⟩ := q
  intro ls H locs hl hW
  have h : vs_Tape_append_b3 μ a1 xs2 = some r := hf
  unfold vs_Tape_append_b3 at h
  refine lv_iload_n hx hb dX9_append_3 rfl (lv_at hl 2 rfl) ?_
  refine lv_if_lt (tgt := 49) hx hb dX9_append_4 (by decide) (fun hc1 => ?_) (fun hc1 => ?_)
  · replace h := if_p hc1 h
    obtain rfl := k2 _ (Option.some.inj h).symm
    exact kx0 _ _ _ (lv_sub hl [] rfl) hW
  · replace h := if_n hc1 h
    refine lv_aload_n hx hb dX9_append_7 rfl (lv_at hl 0 rfl) ?_
    refine gf_X9_15_x1 hC hW dX9_append_8 ?_
    refine lv_sipush (v := 400) hx hb dX9_append_11 (by decide) ?_
    refine lv_icmp_ge (tgt := 49) hx hb dX9_append_14 (by decide) (fun hc2 => ?_) (fun hc2 => ?_)
    · replace h := if_p hc2 h
      obtain rfl := k2 _ (Option.some.inj h).symm
      exact kx0 _ _ _ (lv_sub hl [] rfl) hW
    · replace h := if_n hc2 h
      refine lv_aload_n hx hb dX9_append_17 rfl (lv_at hl 0 rfl) ?_
      refine gf_X9_9_x1 hC hW dX9_append_18 ?_
      refine lv_aload_n hx hb dX9_append_21 rfl (lv_at hl 0 rfl) ?_
      refine gf_X9_15_x1 hC hW dX9_append_22 ?_
      refine lv_iload_n hx hb dX9_append_25 rfl (lv_at hl 1 rfl) ?_
      refine lv_iload_n hx hb dX9_append_26 rfl (lv_at hl 2 rfl) ?_
      refine lv_iushr (v := (ush a1 xs2)) hx hb dX9_append_27 rfl ?_
      refine lv_sipush (v := 255) hx hb dX9_append_28 (by decide) ?_
      refine lv_iand hx hb dX9_append_31 ?_
      obtain ⟨μ3, eμ3, hin, h⟩ := mwr_ex h
      refine kr_iast hC hW (wx_14 g μ) (wxs_14 eμ3) hin dX9_append_32 (fun H locs hW => ?_)
      refine lv_aload_n hx hb dX9_append_33 rfl (lv_at hl 0 rfl) ?_
      refine lv_dup hx hb dX9_append_34 rfl ?_
      refine gf_X9_15_x1 hC hW dX9_append_35 ?_
      refine lv_iconst (v := 1) hx hb dX9_append_38 (by decide) ?_
      refine lv_iadd hx hb dX9_append_39 ?_
      obtain ⟨μ4, eμ4, h⟩ := mst_some h
      refine pf_X9_15_x1 hC hW eμ4 dX9_append_40 (fun H locs hW => ?_)
      refine lv_iinc (v := (xs2 + (-8))) (lv' := [(2, .int (xs2 + (-8))), (0, .ref (ad g 1)), (1, .int a1)]) hx hb dX9_append_43 hl (k := 2) rfl (by rw [oi_m8]) (by decide) rfl (fun ls hl => ?_)
      refine lv_goto (tgt := 3) hx hb dX9_append_46 (by decide) ?_
      exact k1 ((xs2 + (-8)), μ4) (Option.some.inj h).symm _ _ _ (lv_sub hl [1, 2, 0] rfl) hW
set_option maxHeartbeats 4000000 in
set_option maxRecDepth 100000 in
theorem t_vs_Tape_append {l : Launch} {g : Gx} {A : Nat → Prop} {μ : Mm} {a1 : Int32} {u : Mm} (h : vs_Tape_append μ a1 = some u) : Ctv l g A wx yX9_append cX9_append 3 none 0 [.ref (ad g 1), .int a1] μ u := by
  refine ent (lv := [(0, .ref (ad g 1)), (1, .int a1)]) (by decide) (Nat.le_of_ble_eq_true rfl) rfl ?_
  intro p e s m args below meth c hC hr hlocks hnm hW ls hl
  replace hC : Cx g RX9 cX9_append 3 p s m args c := hC
  obtain ⟨hx, hb, hml, hown, hts, hK, hN⟩ := id hC
  unfold vs_Tape_append at h
  refine lv_bipush (v := 24) hx hb dX9_append_0 (by decide) ?_
  refine lv_istore_n (lv' := [(2, .int 24), (0, .ref (ad g 1)), (1, .int a1)]) hx hb dX9_append_2 rfl hl (by decide) rfl (fun ls hl => ?_)
  obtain ⟨μ5, he6, h⟩ := mbv_some h
  refine tl_vs_Tape_append_3 a1 hC (fun ls H locs hl hW => ?_) FU (24, μ) he6 _ _ _ (lv_sub hl [1, 2, 0] rfl) hW
  cases h
  exact kr_vret hC hr hlocks hW dX9_append_49
set_option maxHeartbeats 4000000 in
set_option maxRecDepth 100000 in
theorem t_vs_feed {l : Launch} {g : Gx} {A : Nat → Prop} {μ : Mm} {a1 : Int32} {a2 : Int32} {a3 : Int32} {a4 : Int32} {a5 : Int32} {v : Int32} {u : Mm} (h : vs_feed μ a1 a2 a3 a4 a5 = some (v, u)) : Cti l g A wx yX11_feed cX11_feed 6 (some .int) 1 [.ref (ad g 0), .int a1, .int a2, .int a3, .int a4, .int a5] μ v u := by
  refine ent (lv := [(0, .ref (ad g 0)), (1, .int a1), (2, .int a2), (3, .int a3), (4, .int a4), (5, .int a5)]) (by decide) (Nat.le_of_ble_eq_true rfl) rfl ?_
  intro p e s m args below meth c hC hr hlocks hnm hW ls hl
  replace hC : Cx g RX11 cX11_feed 6 p s m args c := hC
  obtain ⟨hx, hb, hml, hown, hts, hK, hN⟩ := id hC
  unfold vs_feed at h
  refine lv_aload_n hx hb dX11_feed_0 rfl (lv_at hl 0 rfl) ?_
  refine gf_X11_12_x0 hC hW dX11_feed_1 ?_
  refine gf_X11_146_x1 hC hW dX11_feed_4 ?_
  refine lv_sipush (v := 380) hx hb dX11_feed_7 (by decide) ?_
  refine lv_icmp_le (tgt := 15) hx hb dX11_feed_10 (by decide) (fun hc1 => ?_) (fun hc1 => ?_)
  · replace h := if_p hc1 h
    refine lv_aload_n hx hb dX11_feed_15 rfl (lv_at hl 0 rfl) ?_
    refine gf_X11_12_x0 hC hW dX11_feed_16 ?_
    refine lv_iload_n hx hb dX11_feed_19 rfl (lv_at hl 1 rfl) ?_
    obtain ⟨μ3, hxμ3, h⟩ := mbv_some h
    refine kr_cv hC hW (kr_runV hC hW hl.1 (t_vs_Tape_append hxμ3) cw_X11_149 (wx_1 g μ) rfl rfl rfl (Nat.le_of_ble_eq_true rfl) dX11_feed_20 (by decide)) (fun H locs hW => ?_)
    refine lv_aload_n hx hb dX11_feed_23 rfl (lv_at hl 0 rfl) ?_
    refine gf_X11_12_x0 hC hW dX11_feed_24 ?_
    refine lv_iload_n hx hb dX11_feed_27 rfl (lv_at hl 2 rfl) ?_
    obtain ⟨μ5, hxμ5, h⟩ := mbv_some h
    refine kr_cv hC hW (kr_runV hC hW hl.1 (t_vs_Tape_append hxμ5) cw_X11_149 (wx_1 g μ3) rfl rfl rfl (Nat.le_of_ble_eq_true rfl) dX11_feed_28 (by decide)) (fun H locs hW => ?_)
    refine lv_aload_n hx hb dX11_feed_31 rfl (lv_at hl 0 rfl) ?_
    refine gf_X11_12_x0 hC hW dX11_feed_32 ?_
    refine lv_iload_n hx hb dX11_feed_35 rfl (lv_at hl 3 rfl) ?_
    obtain ⟨μ7, hxμ7, h⟩ := mbv_some h
    refine kr_cv hC hW (kr_runV hC hW hl.1 (t_vs_Tape_append hxμ7) cw_X11_149 (wx_1 g μ5) rfl rfl rfl (Nat.le_of_ble_eq_true rfl) dX11_feed_36 (by decide)) (fun H locs hW => ?_)
    refine lv_aload_n hx hb dX11_feed_39 rfl (lv_at hl 0 rfl) ?_
    refine gf_X11_12_x0 hC hW dX11_feed_40 ?_
    refine lv_iload hx hb dX11_feed_43 (lv_at hl 4 rfl) ?_
    obtain ⟨μ9, hxμ9, h⟩ := mbv_some h
    refine kr_cv hC hW (kr_runV hC hW hl.1 (t_vs_Tape_append hxμ9) cw_X11_149 (wx_1 g μ7) rfl rfl rfl (Nat.le_of_ble_eq_true rfl) dX11_feed_45 (by decide)) (fun H locs hW => ?_)
    refine lv_aload_n hx hb dX11_feed_48 rfl (lv_at hl 0 rfl) ?_
    refine gf_X11_12_x0 hC hW dX11_feed_49 ?_
    refine lv_iload hx hb dX11_feed_52 (lv_at hl 5 rfl) ?_
    obtain ⟨μ11, hxμ11, h⟩ := mbv_some h
    refine kr_cv hC hW (kr_runV hC hW hl.1 (t_vs_Tape_append hxμ11) cw_X11_149 (wx_1 g μ9) rfl rfl rfl (Nat.le_of_ble_eq_true rfl) dX11_feed_54 (by decide)) (fun H locs hW => ?_)
    refine lv_aload_n hx hb dX11_feed_57 rfl (lv_at hl 0 rfl) ?_
    refine gf_X11_12_x0 hC hW dX11_feed_58 ?_
    refine gf_X11_146_x1 hC hW dX11_feed_61 ?_
    cases h
    exact kr_iret hC hr hlocks hW dX11_feed_64
  · replace h := if_n hc1 h
    refine lv_iconst (v := (-1)) hx hb dX11_feed_13 (by decide) ?_
    cases h
    exact kr_iret hC hr hlocks hW dX11_feed_14
set_option maxHeartbeats 4000000 in
set_option maxRecDepth 100000 in
theorem t_vs_Integer_bitCount_0f7a4 {l : Launch} {g : Gx} {A : Nat → Prop} {Wd : Gx → Mm → va_W} {μ : Mm} {a0 : Int32} {v : Int32} (h : vs_Integer_bitCount_0f7a4 a0 = some v) : Cti l g A Wd yJ6_bitCount_0f7a4 cJ6_bitCount_0f7a4 1 (some .int) 0 [.int a0] μ v μ := by
  refine ent (lv := [(0, .int a0)]) (by decide) (Nat.le_of_ble_eq_true rfl) rfl ?_
  intro p e s m args below meth c hC hr hlocks hnm hW ls hl
  replace hC : Cx g RJ6 cJ6_bitCount_0f7a4 1 p s m args c := hC
  obtain ⟨hx, hb, hml, hown, hts, hK, hN⟩ := id hC
  unfold vs_Integer_bitCount_0f7a4 at h
  refine lv_iload_n hx hb dJ6_bitCount_0f7a4_0 rfl (lv_at hl 0 rfl) ?_
  refine lv_iload_n hx hb dJ6_bitCount_0f7a4_1 rfl (lv_at hl 0 rfl) ?_
  refine lv_iconst (v := 1) hx hb dJ6_bitCount_0f7a4_2 (by decide) ?_
  refine lv_iushr (v := (ush a0 1)) hx hb dJ6_bitCount_0f7a4_3 rfl ?_
  refine lv_ldcw hx hb hown (hts _ tw_677) dJ6_bitCount_0f7a4_4 ?_
  refine lv_iand hx hb dJ6_bitCount_0f7a4_7 ?_
  refine lv_isub hx hb dJ6_bitCount_0f7a4_8 ?_
  refine lv_istore_n (lv' := [(0, .int (a0 - ((ush a0 1) &&& 1431655765)))]) hx hb dJ6_bitCount_0f7a4_9 rfl hl (by decide) rfl (fun ls hl => ?_)
  refine lv_iload_n hx hb dJ6_bitCount_0f7a4_10 rfl (lv_at hl 0 rfl) ?_
  refine lv_ldcw hx hb hown (hts _ tw_678) dJ6_bitCount_0f7a4_11 ?_
  refine lv_iand hx hb dJ6_bitCount_0f7a4_14 ?_
  refine lv_iload_n hx hb dJ6_bitCount_0f7a4_15 rfl (lv_at hl 0 rfl) ?_
  refine lv_iconst (v := 2) hx hb dJ6_bitCount_0f7a4_16 (by decide) ?_
  refine lv_iushr (v := (ush (a0 - ((ush a0 1) &&& 1431655765)) 2)) hx hb dJ6_bitCount_0f7a4_17 rfl ?_
  refine lv_ldcw hx hb hown (hts _ tw_678) dJ6_bitCount_0f7a4_18 ?_
  refine lv_iand hx hb dJ6_bitCount_0f7a4_21 ?_
  refine lv_iadd hx hb dJ6_bitCount_0f7a4_22 ?_
  refine lv_istore_n (lv' := [(0, .int (((a0 - ((ush a0 1) &&& 1431655765)) &&& 858993459) + ((ush (a0 - ((ush a0 1) &&& 1431655765)) 2) &&& 858993459)))]) hx hb dJ6_bitCount_0f7a4_23 rfl hl (by decide) rfl (fun ls hl => ?_)
  refine lv_iload_n hx hb dJ6_bitCount_0f7a4_24 rfl (lv_at hl 0 rfl) ?_
  refine lv_iload_n hx hb dJ6_bitCount_0f7a4_25 rfl (lv_at hl 0 rfl) ?_
  refine lv_iconst (v := 4) hx hb dJ6_bitCount_0f7a4_26 (by decide) ?_
  refine lv_iushr (v := (ush (((a0 - ((ush a0 1) &&& 1431655765)) &&& 858993459) + ((ush (a0 - ((ush a0 1) &&& 1431655765)) 2) &&& 858993459)) 4)) hx hb dJ6_bitCount_0f7a4_27 rfl ?_
  refine lv_iadd hx hb dJ6_bitCount_0f7a4_28 ?_
  refine lv_ldcw hx hb hown (hts _ tw_679) dJ6_bitCount_0f7a4_29 ?_
  refine lv_iand hx hb dJ6_bitCount_0f7a4_32 ?_
  refine lv_istore_n (lv' := [(0, .int (((((a0 - ((ush a0 1) &&& 1431655765)) &&& 858993459) + ((ush (a0 - ((ush a0 1) &&& 1431655765)) 2) &&& 858993459)) + (ush (((a0 - ((ush a0 1) &&& 1431655765)) &&& 858993459) + ((ush (a0 - ((ush a0 1) &&& 1431655765)) 2) &&& 858993459)) 4)) &&& 252645135))]) hx hb dJ6_bitCount_0f7a4_33 rfl hl (by decide) rfl (fun ls hl => ?_)
  refine lv_iload_n hx hb dJ6_bitCount_0f7a4_34 rfl (lv_at hl 0 rfl) ?_
  refine lv_iload_n hx hb dJ6_bitCount_0f7a4_35 rfl (lv_at hl 0 rfl) ?_
  refine lv_bipush (v := 8) hx hb dJ6_bitCount_0f7a4_36 (by decide) ?_
  refine lv_iushr (v := (ush (((((a0 - ((ush a0 1) &&& 1431655765)) &&& 858993459) + ((ush (a0 - ((ush a0 1) &&& 1431655765)) 2) &&& 858993459)) + (ush (((a0 - ((ush a0 1) &&& 1431655765)) &&& 858993459) + ((ush (a0 - ((ush a0 1) &&& 1431655765)) 2) &&& 858993459)) 4)) &&& 252645135) 8)) hx hb dJ6_bitCount_0f7a4_38 rfl ?_
  refine lv_iadd hx hb dJ6_bitCount_0f7a4_39 ?_
  refine lv_istore_n (lv' := [(0, .int ((((((a0 - ((ush a0 1) &&& 1431655765)) &&& 858993459) + ((ush (a0 - ((ush a0 1) &&& 1431655765)) 2) &&& 858993459)) + (ush (((a0 - ((ush a0 1) &&& 1431655765)) &&& 858993459) + ((ush (a0 - ((ush a0 1) &&& 1431655765)) 2) &&& 858993459)) 4)) &&& 252645135) + (ush (((((a0 - ((ush a0 1) &&& 1431655765)) &&& 858993459) + ((ush (a0 - ((ush a0 1) &&& 1431655765)) 2) &&& 858993459)) + (ush (((a0 - ((ush a0 1) &&& 1431655765)) &&& 858993459) + ((ush (a0 - ((ush a0 1) &&& 1431655765)) 2) &&& 858993459)) 4)) &&& 252645135) 8)))]) hx hb dJ6_bitCount_0f7a4_40 rfl hl (by decide) rfl (fun ls hl => ?_)
  refine lv_iload_n hx hb dJ6_bitCount_0f7a4_41 rfl (lv_at hl 0 rfl) ?_
  refine lv_iload_n hx hb dJ6_bitCount_0f7a4_42 rfl (lv_at hl 0 rfl) ?_
  refine lv_bipush (v := 16) hx hb dJ6_bitCount_0f7a4_43 (by decide) ?_
  refine lv_iushr (v := (ush ((((((a0 - ((ush a0 1) &&& 1431655765)) &&& 858993459) + ((ush (a0 - ((ush a0 1) &&& 1431655765)) 2) &&& 858993459)) + (ush (((a0 - ((ush a0 1) &&& 1431655765)) &&& 858993459) + ((ush (a0 - ((ush a0 1) &&& 1431655765)) 2) &&& 858993459)) 4)) &&& 252645135) + (ush (((((a0 - ((ush a0 1) &&& 1431655765)) &&& 858993459) + ((ush (a0 - ((ush a0 1) &&& 1431655765)) 2) &&& 858993459)) + (ush (((a0 - ((ush a0 1) &&& 1431655765)) &&& 858993459) + ((ush (a0 - ((ush a0 1) &&& 1431655765)) 2) &&& 858993459)) 4)) &&& 252645135) 8)) 16)) hx hb dJ6_bitCount_0f7a4_45 rfl ?_
  refine lv_iadd hx hb dJ6_bitCount_0f7a4_46 ?_
  refine lv_istore_n (lv' := [(0, .int (((((((a0 - ((ush a0 1) &&& 1431655765)) &&& 858993459) + ((ush (a0 - ((ush a0 1) &&& 1431655765)) 2) &&& 858993459)) + (ush (((a0 - ((ush a0 1) &&& 1431655765)) &&& 858993459) + ((ush (a0 - ((ush a0 1) &&& 1431655765)) 2) &&& 858993459)) 4)) &&& 252645135) + (ush (((((a0 - ((ush a0 1) &&& 1431655765)) &&& 858993459) + ((ush (a0 - ((ush a0 1) &&& 1431655765)) 2) &&& 858993459)) + (ush (((a0 - ((ush a0 1) &&& 1431655765)) &&& 858993459) + ((ush (a0 - ((ush a0 1) &&& 1431655765)) 2) &&& 858993459)) 4)) &&& 252645135) 8)) + (ush ((((((a0 - ((ush a0 1) &&& 1431655765)) &&& 858993459) + ((ush (a0 - ((ush a0 1) &&& 1431655765)) 2) &&& 858993459)) + (ush (((a0 - ((ush a0 1) &&& 1431655765)) &&& 858993459) + ((ush (a0 - ((ush a0 1) &&& 1431655765)) 2) &&& 858993459)) 4)) &&& 252645135) + (ush (((((a0 - ((ush a0 1) &&& 1431655765)) &&& 858993459) + ((ush (a0 - ((ush a0 1) &&& 1431655765)) 2) &&& 858993459)) + (ush (((a0 - ((ush a0 1) &&& 1431655765)) &&& 858993459) + ((ush (a0 - ((ush a0 1) &&& 1431655765)) 2) &&& 858993459)) 4)) &&& 252645135) 8)) 16)))]) hx hb dJ6_bitCount_0f7a4_47 rfl hl (by decide) rfl (fun ls hl => ?_)
  refine lv_iload_n hx hb dJ6_bitCount_0f7a4_48 rfl (lv_at hl 0 rfl) ?_
  refine lv_bipush (v := 63) hx hb dJ6_bitCount_0f7a4_49 (by decide) ?_
  refine lv_iand hx hb dJ6_bitCount_0f7a4_51 ?_
  cases h
  exact kr_iret hC hr hlocks hW dJ6_bitCount_0f7a4_52
set_option maxHeartbeats 4000000 in
set_option maxRecDepth 100000 in
theorem t_vs_Wishes_look {l : Launch} {g : Gx} {A : Nat → Prop} {μ : Mm} {a1 : Int32} {a2 : Int32} {a3 : Int32} {a4 : Int32} {u : Mm} (h : vs_Wishes_look μ a1 a2 a3 a4 = some u) : Ctv l g A wx yX10_look cX10_look 7 none 1 [.ref (ad g 7), .int a1, .int a2, .int a3, .int a4] μ u := by
  refine ent (lv := [(0, .ref (ad g 7)), (1, .int a1), (2, .int a2), (3, .int a3), (4, .int a4)]) (by decide) (Nat.le_of_ble_eq_true rfl) rfl ?_
  intro p e s m args below meth c hC hr hlocks hnm hW ls hl
  replace hC : Cx g RX10 cX10_look 7 p s m args c := hC
  obtain ⟨hx, hb, hml, hown, hts, hK, hN⟩ := id hC
  unfold vs_Wishes_look at h
  refine lv_aload_n hx hb dX10_look_0 rfl (lv_at hl 0 rfl) ?_
  refine gf_X10_22_x7 hC hW dX10_look_1 ?_
  refine gf_X10_70_x2 hC hW dX10_look_4 ?_
  refine lv_iload_n hx hb dX10_look_7 rfl (lv_at hl 2 rfl) ?_
  obtain ⟨x1, ex1, hin, h⟩ := mrd_ex h
  refine kr_iald hC hW (wx_15 g μ) hin ex1 dX10_look_8 ?_
  refine lv_istore (lv' := [(5, .int x1), (0, .ref (ad g 7)), (1, .int a1), (2, .int a2), (3, .int a3), (4, .int a4)]) hx hb dX10_look_9 hl (by decide) rfl (fun ls hl => ?_)
  refine lv_aload_n hx hb dX10_look_11 rfl (lv_at hl 1 rfl) ?_
  refine gf_X10_26_x7 hC hW dX10_look_12 ?_
  refine gf_X10_73_x3 hC hW dX10_look_15 ?_
  refine lv_iload_n hx hb dX10_look_18 rfl (lv_at hl 2 rfl) ?_
  obtain ⟨x2, ex2, hin, h⟩ := mrd_ex h
  refine kr_iald hC hW (wx_25 g μ) hin ex2 dX10_look_19 ?_
  refine lv_istore (lv' := [(6, .int x2), (5, .int x1), (0, .ref (ad g 7)), (1, .int a1), (2, .int a2), (3, .int a3), (4, .int a4)]) hx hb dX10_look_20 hl (by decide) rfl (fun ls hl => ?_)
  refine lv_aload_n hx hb dX10_look_22 rfl (lv_at hl 2 rfl) ?_
  refine gf_X10_9_x7 hC hW dX10_look_23 ?_
  refine lv_bipush (v := 116) hx hb dX10_look_26 (by decide) ?_
  refine lv_aload_n hx hb dX10_look_28 rfl (lv_at hl 2 rfl) ?_
  refine gf_X10_26_x7 hC hW dX10_look_29 ?_
  refine gf_X10_76_x3 hC hW dX10_look_32 ?_
  refine lv_iload_n hx hb dX10_look_35 rfl (lv_at hl 3 rfl) ?_
  refine lv_bipush (v := 8) hx hb dX10_look_36 (by decide) ?_
  refine lv_imul hx hb dX10_look_38 ?_
  refine lv_iload hx hb dX10_look_39 (lv_at hl 1 rfl) ?_
  refine lv_iadd hx hb dX10_look_41 ?_
  obtain ⟨x3, ex3, hin, h⟩ := mrd_ex h
  refine kr_iald hC hW (wx_27 g μ) hin ex3 dX10_look_42 ?_
  obtain ⟨μ4, eμ4, hin, h⟩ := mwr_ex h
  refine kr_iast hC hW (wx_52 g μ) (wxs_52 eμ4) hin dX10_look_43 (fun H locs hW => ?_)
  refine lv_aload_n hx hb dX10_look_44 rfl (lv_at hl 2 rfl) ?_
  refine gf_X10_9_x7 hC hW dX10_look_45 ?_
  refine lv_bipush (v := 107) hx hb dX10_look_48 (by decide) ?_
  refine lv_iload hx hb dX10_look_50 (lv_at hl 1 rfl) ?_
  obtain ⟨μ5, eμ5, hin, h⟩ := mwr_ex h
  refine kr_iast hC hW (wx_52 g μ4) (wxs_52 eμ5) hin dX10_look_52 (fun H locs hW => ?_)
  refine lv_aload_n hx hb dX10_look_53 rfl (lv_at hl 2 rfl) ?_
  refine gf_X10_9_x7 hC hW dX10_look_54 ?_
  refine lv_bipush (v := 108) hx hb dX10_look_57 (by decide) ?_
  refine lv_aload_n hx hb dX10_look_59 rfl (lv_at hl 2 rfl) ?_
  refine gf_X10_22_x7 hC hW dX10_look_60 ?_
  refine gf_X10_79_x2 hC hW dX10_look_63 ?_
  refine lv_iload_n hx hb dX10_look_66 rfl (lv_at hl 4 rfl) ?_
  obtain ⟨x6, ex6, hin, h⟩ := mrd_ex h
  refine kr_iald hC hW (wx_16 g μ5) hin ex6 dX10_look_67 ?_
  obtain ⟨μ7, eμ7, hin, h⟩ := mwr_ex h
  refine kr_iast hC hW (wx_52 g μ5) (wxs_52 eμ7) hin dX10_look_68 (fun H locs hW => ?_)
  refine lv_aload_n hx hb dX10_look_69 rfl (lv_at hl 2 rfl) ?_
  refine gf_X10_9_x7 hC hW dX10_look_70 ?_
  refine lv_bipush (v := 102) hx hb dX10_look_73 (by decide) ?_
  refine lv_aload_n hx hb dX10_look_75 rfl (lv_at hl 2 rfl) ?_
  refine gf_X10_22_x7 hC hW dX10_look_76 ?_
  refine gf_X10_45_x2 hC hW dX10_look_79 ?_
  refine lv_iload_n hx hb dX10_look_82 rfl (lv_at hl 4 rfl) ?_
  obtain ⟨x8, ex8, hin, h⟩ := mrd_ex h
  refine kr_iald hC hW (wx_17 g μ7) hin ex8 dX10_look_83 ?_
  obtain ⟨μ9, eμ9, hin, h⟩ := mwr_ex h
  refine kr_iast hC hW (wx_52 g μ7) (wxs_52 eμ9) hin dX10_look_84 (fun H locs hW => ?_)
  refine lv_aload_n hx hb dX10_look_85 rfl (lv_at hl 2 rfl) ?_
  refine gf_X10_9_x7 hC hW dX10_look_86 ?_
  refine lv_bipush (v := 112) hx hb dX10_look_89 (by decide) ?_
  refine lv_aload_n hx hb dX10_look_91 rfl (lv_at hl 2 rfl) ?_
  refine gf_X10_22_x7 hC hW dX10_look_92 ?_
  refine gf_X10_82_x2 hC hW dX10_look_95 ?_
  refine lv_iload_n hx hb dX10_look_98 rfl (lv_at hl 4 rfl) ?_
  obtain ⟨x10, ex10, hin, h⟩ := mrd_ex h
  refine kr_iald hC hW (wx_18 g μ9) hin ex10 dX10_look_99 ?_
  obtain ⟨μ11, eμ11, hin, h⟩ := mwr_ex h
  refine kr_iast hC hW (wx_52 g μ9) (wxs_52 eμ11) hin dX10_look_100 (fun H locs hW => ?_)
  refine lv_aload_n hx hb dX10_look_101 rfl (lv_at hl 2 rfl) ?_
  refine gf_X10_9_x7 hC hW dX10_look_102 ?_
  refine lv_bipush (v := 110) hx hb dX10_look_105 (by decide) ?_
  refine lv_aload_n hx hb dX10_look_107 rfl (lv_at hl 2 rfl) ?_
  refine gf_X10_26_x7 hC hW dX10_look_108 ?_
  refine gf_X10_85_x3 hC hW dX10_look_111 ?_
  refine lv_iload_n hx hb dX10_look_114 rfl (lv_at hl 3 rfl) ?_
  obtain ⟨x12, ex12, hin, h⟩ := mrd_ex h
  refine kr_iald hC hW (wx_28 g μ11) hin ex12 dX10_look_115 ?_
  refine lv_aload_n hx hb dX10_look_116 rfl (lv_at hl 2 rfl) ?_
  refine gf_X10_22_x7 hC hW dX10_look_117 ?_
  refine gf_X10_88_x2 hC hW dX10_look_120 ?_
  refine lv_iload hx hb dX10_look_123 (lv_at hl 1 rfl) ?_
  obtain ⟨x13, ex13, hin, h⟩ := mrd_ex h
  refine kr_iald hC hW (wx_24 g μ11) hin ex13 dX10_look_125 ?_
  refine lv_iand hx hb dX10_look_126 ?_
  obtain ⟨x14, hx14, h⟩ := mbv_some h
  refine kr_ci hC hW (kr_runS hC hW hl.1 (t_vs_Integer_bitCount_0f7a4 hx14) cw_X10_91 rfl rfl (Nat.le_of_ble_eq_true rfl) dX10_look_127 (by decide)) (fun H locs hW => ?_)
  obtain ⟨μ15, eμ15, hin, h⟩ := mwr_ex h
  refine kr_iast hC hW (wx_52 g μ11) (wxs_52 eμ15) hin dX10_look_130 (fun H locs hW => ?_)
  refine lv_aload_n hx hb dX10_look_131 rfl (lv_at hl 2 rfl) ?_
  refine gf_X10_9_x7 hC hW dX10_look_132 ?_
  refine lv_bipush (v := 104) hx hb dX10_look_135 (by decide) ?_
  refine lv_aload_n hx hb dX10_look_137 rfl (lv_at hl 2 rfl) ?_
  refine gf_X10_26_x7 hC hW dX10_look_138 ?_
  refine gf_X10_97_x3 hC hW dX10_look_141 ?_
  refine lv_iload_n hx hb dX10_look_144 rfl (lv_at hl 3 rfl) ?_
  obtain ⟨x16, ex16, hin, h⟩ := mrd_ex h
  refine kr_iald hC hW (wx_29 g μ15) hin ex16 dX10_look_145 ?_
  obtain ⟨μ17, eμ17, hin, h⟩ := mwr_ex h
  refine kr_iast hC hW (wx_52 g μ15) (wxs_52 eμ17) hin dX10_look_146 (fun H locs hW => ?_)
  refine lv_aload_n hx hb dX10_look_147 rfl (lv_at hl 2 rfl) ?_
  refine gf_X10_9_x7 hC hW dX10_look_148 ?_
  refine lv_bipush (v := 115) hx hb dX10_look_151 (by decide) ?_
  refine lv_iload hx hb dX10_look_153 (lv_at hl 0 rfl) ?_
  obtain ⟨μ18, eμ18, hin, h⟩ := mwr_ex h
  refine kr_iast hC hW (wx_52 g μ17) (wxs_52 eμ18) hin dX10_look_155 (fun H locs hW => ?_)
  refine lv_aload_n hx hb dX10_look_156 rfl (lv_at hl 2 rfl) ?_
  refine gf_X10_9_x7 hC hW dX10_look_157 ?_
  refine lv_bipush (v := 98) hx hb dX10_look_160 (by decide) ?_
  refine lv_iload_n hx hb dX10_look_162 rfl (lv_at hl 4 rfl) ?_
  obtain ⟨μ19, eμ19, hin, h⟩ := mwr_ex h
  refine kr_iast hC hW (wx_52 g μ18) (wxs_52 eμ19) hin dX10_look_163 (fun H locs hW => ?_)
  refine lv_aload_n hx hb dX10_look_164 rfl (lv_at hl 2 rfl) ?_
  refine gf_X10_9_x7 hC hW dX10_look_165 ?_
  refine lv_bipush (v := 121) hx hb dX10_look_168 (by decide) ?_
  refine lv_iload hx hb dX10_look_170 (lv_at hl 6 rfl) ?_
  obtain ⟨μ20, eμ20, hin, h⟩ := mwr_ex h
  refine kr_iast hC hW (wx_52 g μ19) (wxs_52 eμ20) hin dX10_look_172 (fun H locs hW => ?_)
  refine lv_aload_n hx hb dX10_look_173 rfl (lv_at hl 2 rfl) ?_
  refine gf_X10_9_x7 hC hW dX10_look_174 ?_
  refine lv_bipush (v := 120) hx hb dX10_look_177 (by decide) ?_
  refine lv_iload_n hx hb dX10_look_179 rfl (lv_at hl 5 rfl) ?_
  obtain ⟨μ21, eμ21, hin, h⟩ := mwr_ex h
  refine kr_iast hC hW (wx_52 g μ20) (wxs_52 eμ21) hin dX10_look_180 (fun H locs hW => ?_)
  refine lv_aload_n hx hb dX10_look_181 rfl (lv_at hl 2 rfl) ?_
  refine gf_X10_9_x7 hC hW dX10_look_182 ?_
  refine lv_bipush (v := 114) hx hb dX10_look_185 (by decide) ?_
  refine lv_aload_n hx hb dX10_look_187 rfl (lv_at hl 2 rfl) ?_
  refine gf_X10_22_x7 hC hW dX10_look_188 ?_
  refine gf_X10_100_x2 hC hW dX10_look_191 ?_
  refine lv_iload_n hx hb dX10_look_194 rfl (lv_at hl 4 rfl) ?_
  obtain ⟨x22, ex22, hin, h⟩ := mrd_ex h
  refine kr_iald hC hW (wx_23 g μ21) hin ex22 dX10_look_195 ?_
  refine lv_aload_n hx hb dX10_look_196 rfl (lv_at hl 2 rfl) ?_
  refine gf_X10_30_x7 hC hW dX10_look_197 ?_
  refine gf_X10_103_x4 hC hW dX10_look_200 ?_
  refine lv_iload hx hb dX10_look_203 (lv_at hl 0 rfl) ?_
  obtain ⟨x23, ex23, hin, h⟩ := mrd_ex h
  refine kr_iald hC hW (wx_39 g μ21) hin ex23 dX10_look_205 ?_
  refine lv_iand hx hb dX10_look_206 ?_
  obtain ⟨x24, hx24, h⟩ := mbv_some h
  refine kr_ci hC hW (kr_runS hC hW hl.1 (t_vs_Integer_bitCount_0f7a4 hx24) cw_X10_91 rfl rfl (Nat.le_of_ble_eq_true rfl) dX10_look_207 (by decide)) (fun H locs hW => ?_)
  obtain ⟨μ25, eμ25, hin, h⟩ := mwr_ex h
  refine kr_iast hC hW (wx_52 g μ21) (wxs_52 eμ25) hin dX10_look_210 (fun H locs hW => ?_)
  cases h
  exact kr_vret hC hr hlocks hW dX10_look_211
set_option maxHeartbeats 4000000 in
set_option maxRecDepth 100000 in
theorem t_vs_Law_pop {l : Launch} {g : Gx} {A : Nat → Prop} {μ : Mm} {v : Int32} {u : Mm} (h : vs_Law_pop μ = some (v, u)) : Cti l g A wx yX3_pop cX3_pop 1 (some .int) 0 [.ref (ad g 10)] μ v u := by
  refine ent (lv := [(0, .ref (ad g 10))]) (by decide) (Nat.le_of_ble_eq_true rfl) rfl ?_
  intro p e s m args below meth c hC hr hlocks hnm hW ls hl
  replace hC : Cx g RX3 cX3_pop 1 p s m args c := hC
  obtain ⟨hx, hb, hml, hown, hts, hK, hN⟩ := id hC
  unfold vs_Law_pop at h
  refine lv_aload_n hx hb dX3_pop_0 rfl (lv_at hl 0 rfl) ?_
  refine gf_X3_48_x10 hC hW dX3_pop_1 ?_
  refine lv_iconst (v := 1) hx hb dX3_pop_4 (by decide) ?_
  refine lv_icmp_ge (tgt := 15) hx hb dX3_pop_5 (by decide) (fun hc1 => ?_) (fun hc1 => ?_)
  · replace h := if_p hc1 h
    refine lv_aload_n hx hb dX3_pop_15 rfl (lv_at hl 0 rfl) ?_
    refine lv_dup hx hb dX3_pop_16 rfl ?_
    refine gf_X3_48_x10 hC hW dX3_pop_17 ?_
    refine lv_iconst (v := 1) hx hb dX3_pop_20 (by decide) ?_
    refine lv_isub hx hb dX3_pop_21 ?_
    obtain ⟨μ2, eμ2, h⟩ := mst_some h
    refine pf_X3_48_x10 hC hW eμ2 dX3_pop_22 (fun H locs hW => ?_)
    refine lv_aload_n hx hb dX3_pop_25 rfl (lv_at hl 0 rfl) ?_
    refine gf_X3_30_x10 hC hW dX3_pop_26 ?_
    refine lv_aload_n hx hb dX3_pop_29 rfl (lv_at hl 0 rfl) ?_
    refine gf_X3_48_x10 hC hW dX3_pop_30 ?_
    obtain ⟨x3, ex3, hin, h⟩ := mrd_ex h
    refine kr_iald hC hW (wx_69 g μ2) hin ex3 dX3_pop_33 ?_
    cases h
    exact kr_iret hC hr hlocks hW dX3_pop_34
  · replace h := if_n hc1 h
    refine lv_aload_n hx hb dX3_pop_8 rfl (lv_at hl 0 rfl) ?_
    refine lv_iconst (v := 1) hx hb dX3_pop_9 (by decide) ?_
    obtain ⟨μ4, eμ4, h⟩ := mst_some h
    refine pf_X3_51_x10 hC hW (by decide) (by decide) eμ4 dX3_pop_10 (fun H locs hW => ?_)
    refine lv_iconst (v := 0) hx hb dX3_pop_13 (by decide) ?_
    cases h
    exact kr_iret hC hr hlocks hW dX3_pop_14
set_option maxHeartbeats 4000000 in
set_option maxRecDepth 100000 in
theorem t_vs_Law_reckon {l : Launch} {g : Gx} {A : Nat → Prop} {μ : Mm} {a1 : Int32} {a2 : Int32} {a3 : Int32} {v : Int32} {u : Mm} (h : vs_Law_reckon μ a1 a2 a3 = some (v, u)) : Cti l g A wx yX3_reckon cX3_reckon 4 (some .int) 0 [.ref (ad g 10), .int a1, .int a2, .int a3] μ v u := by
  refine ent (lv := [(0, .ref (ad g 10)), (1, .int a1), (2, .int a2), (3, .int a3)]) (by decide) (Nat.le_of_ble_eq_true rfl) rfl ?_
  intro p e s m args below meth c hC hr hlocks hnm hW ls hl
  replace hC : Cx g RX3 cX3_reckon 4 p s m args c := hC
  obtain ⟨hx, hb, hml, hown, hts, hK, hN⟩ := id hC
  unfold vs_Law_reckon at h
  refine lv_iload_n hx hb dX3_reckon_0 rfl (lv_at hl 1 rfl) ?_
  by_cases hc1 : a1 = 42
  · replace h := if_p hc1 h
    refine lv_lookup (off := 67) (tgt := 68) hx hb dX3_reckon_1 (by decide) (by rw [hc1]; decide) (by decide) ?_
    refine lv_iload_n hx hb dX3_reckon_68 rfl (lv_at hl 2 rfl) ?_
    refine lv_iload_n hx hb dX3_reckon_69 rfl (lv_at hl 3 rfl) ?_
    refine lv_imul hx hb dX3_reckon_70 ?_
    cases h
    exact kr_iret hC hr hlocks hW dX3_reckon_71
  replace h := if_n hc1 h
  by_cases hc2 : a1 = 43
  · replace h := if_p hc2 h
    refine lv_lookup (off := 59) (tgt := 60) hx hb dX3_reckon_1 (by decide) (by rw [hc2]; decide) (by decide) ?_
    refine lv_iload_n hx hb dX3_reckon_60 rfl (lv_at hl 2 rfl) ?_
    refine lv_iload_n hx hb dX3_reckon_61 rfl (lv_at hl 3 rfl) ?_
    refine lv_iadd hx hb dX3_reckon_62 ?_
    cases h
    exact kr_iret hC hr hlocks hW dX3_reckon_63
  replace h := if_n hc2 h
  by_cases hc3 : a1 = 45
  · replace h := if_p hc3 h
    refine lv_lookup (off := 63) (tgt := 64) hx hb dX3_reckon_1 (by decide) (by rw [hc3]; decide) (by decide) ?_
    refine lv_iload_n hx hb dX3_reckon_64 rfl (lv_at hl 2 rfl) ?_
    refine lv_iload_n hx hb dX3_reckon_65 rfl (lv_at hl 3 rfl) ?_
    refine lv_isub hx hb dX3_reckon_66 ?_
    cases h
    exact kr_iret hC hr hlocks hW dX3_reckon_67
  replace h := if_n hc3 h
  by_cases hc4 : a1 = 60
  · replace h := if_p hc4 h
    refine lv_lookup (off := 71) (tgt := 72) hx hb dX3_reckon_1 (by decide) (by rw [hc4]; decide) (by decide) ?_
    refine lv_iload_n hx hb dX3_reckon_72 rfl (lv_at hl 2 rfl) ?_
    refine lv_iload_n hx hb dX3_reckon_73 rfl (lv_at hl 3 rfl) ?_
    refine lv_icmp_ge (tgt := 81) hx hb dX3_reckon_74 (by decide) (fun hc5 => ?_) (fun hc5 => ?_)
    · replace h := if_p hc5 h
      refine lv_iconst (v := 0) hx hb dX3_reckon_81 (by decide) ?_
      cases h
      exact kr_iret hC hr hlocks hW dX3_reckon_82
    · replace h := if_n hc5 h
      refine lv_iconst (v := 1) hx hb dX3_reckon_77 (by decide) ?_
      refine lv_goto (tgt := 82) hx hb dX3_reckon_78 (by decide) ?_
      cases h
      exact kr_iret hC hr hlocks hW dX3_reckon_82
  replace h := if_n hc4 h
  by_cases hc6 : a1 = 61
  · replace h := if_p hc6 h
    refine lv_lookup (off := 93) (tgt := 94) hx hb dX3_reckon_1 (by decide) (by rw [hc6]; decide) (by decide) ?_
    refine lv_iload_n hx hb dX3_reckon_94 rfl (lv_at hl 2 rfl) ?_
    refine lv_iload_n hx hb dX3_reckon_95 rfl (lv_at hl 3 rfl) ?_
    refine lv_icmp_ne (tgt := 103) hx hb dX3_reckon_96 (by decide) (fun hc7 => ?_) (fun hc7 => ?_)
    · replace h := if_n hc7 h
      refine lv_iconst (v := 0) hx hb dX3_reckon_103 (by decide) ?_
      cases h
      exact kr_iret hC hr hlocks hW dX3_reckon_104
    · replace h := if_p hc7 h
      refine lv_iconst (v := 1) hx hb dX3_reckon_99 (by decide) ?_
      refine lv_goto (tgt := 104) hx hb dX3_reckon_100 (by decide) ?_
      cases h
      exact kr_iret hC hr hlocks hW dX3_reckon_104
  replace h := if_n hc6 h
  by_cases hc8 : a1 = 62
  · replace h := if_p hc8 h
    refine lv_lookup (off := 82) (tgt := 83) hx hb dX3_reckon_1 (by decide) (by rw [hc8]; decide) (by decide) ?_
    refine lv_iload_n hx hb dX3_reckon_83 rfl (lv_at hl 2 rfl) ?_
    refine lv_iload_n hx hb dX3_reckon_84 rfl (lv_at hl 3 rfl) ?_
    refine lv_icmp_le (tgt := 92) hx hb dX3_reckon_85 (by decide) (fun hc9 => ?_) (fun hc9 => ?_)
    · replace h := if_p hc9 h
      refine lv_iconst (v := 0) hx hb dX3_reckon_92 (by decide) ?_
      cases h
      exact kr_iret hC hr hlocks hW dX3_reckon_93
    · replace h := if_n hc9 h
      refine lv_iconst (v := 1) hx hb dX3_reckon_88 (by decide) ?_
      refine lv_goto (tgt := 93) hx hb dX3_reckon_89 (by decide) ?_
      cases h
      exact kr_iret hC hr hlocks hW dX3_reckon_93
  replace h := if_n hc8 h
  refine lv_lookup (off := 104) (tgt := 105) hx hb dX3_reckon_1 (by decide) (by show Op.lookupswitch.offset [(42, 67), (43, 59), (45, 63), (60, 71), (61, 93), (62, 82)] 104 _ = _; rw [lv_osw hc1 (by decide), lv_osw hc2 (by decide), lv_osw hc3 (by decide), lv_osw hc4 (by decide), lv_osw hc6 (by decide), lv_osw hc8 (by decide)]; rfl) (by decide) ?_
  refine lv_iload_n hx hb dX3_reckon_105 rfl (lv_at hl 3 rfl) ?_
  refine lv_if_ne (tgt := 116) hx hb dX3_reckon_106 (by decide) (fun hc10 => ?_) (fun hc10 => ?_)
  · replace h := if_n hc10 h
    refine lv_iload_n hx hb dX3_reckon_116 rfl (lv_at hl 1 rfl) ?_
    refine lv_bipush (v := 47) hx hb dX3_reckon_117 (by decide) ?_
    refine lv_icmp_ne (tgt := 128) hx hb dX3_reckon_119 (by decide) (fun hc11 => ?_) (fun hc11 => ?_)
    · replace h := if_n hc11 h
      refine lv_iload_n hx hb dX3_reckon_128 rfl (lv_at hl 2 rfl) ?_
      refine lv_iload_n hx hb dX3_reckon_129 rfl (lv_at hl 3 rfl) ?_
      obtain ⟨hz12, h⟩ := mdv_some h
      refine lv_irem hx hb dX3_reckon_130 hz12 ?_
      cases h
      exact kr_iret hC hr hlocks hW dX3_reckon_131
    · replace h := if_p hc11 h
      refine lv_iload_n hx hb dX3_reckon_122 rfl (lv_at hl 2 rfl) ?_
      refine lv_iload_n hx hb dX3_reckon_123 rfl (lv_at hl 3 rfl) ?_
      obtain ⟨hz13, h⟩ := mdv_some h
      refine lv_idiv hx hb dX3_reckon_124 hz13 ?_
      refine lv_goto (tgt := 131) hx hb dX3_reckon_125 (by decide) ?_
      cases h
      exact kr_iret hC hr hlocks hW dX3_reckon_131
  · replace h := if_p hc10 h
    refine lv_aload_n hx hb dX3_reckon_109 rfl (lv_at hl 0 rfl) ?_
    refine lv_iconst (v := 1) hx hb dX3_reckon_110 (by decide) ?_
    obtain ⟨μ14, eμ14, h⟩ := mst_some h
    refine pf_X3_51_x10 hC hW (by decide) (by decide) eμ14 dX3_reckon_111 (fun H locs hW => ?_)
    refine lv_iconst (v := 0) hx hb dX3_reckon_114 (by decide) ?_
    cases h
    exact kr_iret hC hr hlocks hW dX3_reckon_115
set_option maxHeartbeats 4000000 in
set_option maxRecDepth 100000 in
theorem t_vs_Law_push {l : Launch} {g : Gx} {A : Nat → Prop} {μ : Mm} {a1 : Int32} {u : Mm} (h : vs_Law_push μ a1 = some u) : Ctv l g A wx yX3_push cX3_push 2 none 0 [.ref (ad g 10), .int a1] μ u := by
  refine ent (lv := [(0, .ref (ad g 10)), (1, .int a1)]) (by decide) (Nat.le_of_ble_eq_true rfl) rfl ?_
  intro p e s m args below meth c hC hr hlocks hnm hW ls hl
  replace hC : Cx g RX3 cX3_push 2 p s m args c := hC
  obtain ⟨hx, hb, hml, hown, hts, hK, hN⟩ := id hC
  unfold vs_Law_push at h
  refine lv_aload_n hx hb dX3_push_0 rfl (lv_at hl 0 rfl) ?_
  refine gf_X3_48_x10 hC hW dX3_push_1 ?_
  refine lv_bipush (v := 64) hx hb dX3_push_4 (by decide) ?_
  refine lv_icmp_lt (tgt := 15) hx hb dX3_push_6 (by decide) (fun hc1 => ?_) (fun hc1 => ?_)
  · replace h := if_p hc1 h
    refine lv_aload_n hx hb dX3_push_15 rfl (lv_at hl 0 rfl) ?_
    refine gf_X3_30_x10 hC hW dX3_push_16 ?_
    refine lv_aload_n hx hb dX3_push_19 rfl (lv_at hl 0 rfl) ?_
    refine gf_X3_48_x10 hC hW dX3_push_20 ?_
    refine lv_iload_n hx hb dX3_push_23 rfl (lv_at hl 1 rfl) ?_
    obtain ⟨μ2, eμ2, hin, h⟩ := mwr_ex h
    refine kr_iast hC hW (wx_69 g μ) (wxs_69 eμ2) hin dX3_push_24 (fun H locs hW => ?_)
    refine lv_aload_n hx hb dX3_push_25 rfl (lv_at hl 0 rfl) ?_
    refine lv_dup hx hb dX3_push_26 rfl ?_
    refine gf_X3_48_x10 hC hW dX3_push_27 ?_
    refine lv_iconst (v := 1) hx hb dX3_push_30 (by decide) ?_
    refine lv_iadd hx hb dX3_push_31 ?_
    obtain ⟨μ3, eμ3, h⟩ := mst_some h
    refine pf_X3_48_x10 hC hW eμ3 dX3_push_32 (fun H locs hW => ?_)
    cases h
    exact kr_vret hC hr hlocks hW dX3_push_35
  · replace h := if_n hc1 h
    refine lv_aload_n hx hb dX3_push_9 rfl (lv_at hl 0 rfl) ?_
    refine lv_iconst (v := 1) hx hb dX3_push_10 (by decide) ?_
    obtain ⟨μ4, eμ4, h⟩ := mst_some h
    refine pf_X3_51_x10 hC hW (by decide) (by decide) eμ4 dX3_push_11 (fun H locs hW => ?_)
    cases h
    exact kr_vret hC hr hlocks hW dX3_push_14
set_option maxHeartbeats 4000000 in
set_option maxRecDepth 100000 in
theorem t_vs_Law_jump {l : Launch} {g : Gx} {A : Nat → Prop} {μ : Mm} {a1 : Int32} {a2 : Int32} {v : Int32} {u : Mm} (h : vs_Law_jump μ a1 a2 = some (v, u)) : Cti l g A wx yX3_jump cX3_jump 4 (some .int) 1 [.ref (ad g 10), .int a1, .int a2] μ v u := by
  refine ent (lv := [(0, .ref (ad g 10)), (1, .int a1), (2, .int a2)]) (by decide) (Nat.le_of_ble_eq_true rfl) rfl ?_
  intro p e s m args below meth c hC hr hlocks hnm hW ls hl
  replace hC : Cx g RX3 cX3_jump 4 p s m args c := hC
  obtain ⟨hx, hb, hml, hown, hts, hK, hN⟩ := id hC
  unfold vs_Law_jump at h
  refine lv_aload_n hx hb dX3_jump_0 rfl (lv_at hl 0 rfl) ?_
  obtain ⟨x1, μ2, hx1, h⟩ := mbm_some h
  refine kr_ci hC hW (kr_runV hC hW hl.1 (t_vs_Law_pop hx1) cw_X3_59 (wx_10 g μ) rfl rfl rfl (Nat.le_of_ble_eq_true rfl) dX3_jump_1 (by decide)) (fun H locs hW => ?_)
  refine lv_istore_n (lv' := [(3, .int x1), (0, .ref (ad g 10)), (1, .int a1), (2, .int a2)]) hx hb dX3_jump_4 rfl hl (by decide) rfl (fun ls hl => ?_)
  refine lv_iload_n hx hb dX3_jump_5 rfl (lv_at hl 0 rfl) ?_
  refine lv_if_eq (tgt := 13) hx hb dX3_jump_6 (by decide) (fun hc3 => ?_) (fun hc3 => ?_)
  · replace h := if_p hc3 h
    refine lv_iconst (v := 0) hx hb dX3_jump_13 (by decide) ?_
    refine lv_iload_n hx hb dX3_jump_14 rfl (lv_at hl 3 rfl) ?_
    refine lv_icmp_ne (tgt := 30) hx hb dX3_jump_15 (by decide) (fun hc4 => ?_) (fun hc4 => ?_)
    · replace h := if_n hc4 h
      refine lv_iload_n hx hb dX3_jump_30 rfl (lv_at hl 2 rfl) ?_
      refine lv_iconst (v := 1) hx hb dX3_jump_31 (by decide) ?_
      refine lv_iadd hx hb dX3_jump_32 ?_
      cases h
      exact kr_iret hC hr hlocks hW dX3_jump_33
    · replace h := if_p hc4 h
      refine lv_aload_n hx hb dX3_jump_18 rfl (lv_at hl 1 rfl) ?_
      refine lv_iload_n hx hb dX3_jump_19 rfl (lv_at hl 0 rfl) ?_
      obtain ⟨μ6, hxμ6, h⟩ := mbv_some h
      refine kr_cv hC hW (kr_runV hC hW hl.1 (t_vs_Law_push hxμ6) cw_X3_55 (wx_10 g μ2) rfl rfl rfl (Nat.le_of_ble_eq_true rfl) dX3_jump_20 (by decide)) (fun H locs hW => ?_)
      refine lv_aload_n hx hb dX3_jump_23 rfl (lv_at hl 1 rfl) ?_
      refine gf_X3_15_x10 hC hW dX3_jump_24 ?_
      refine lv_iload_n hx hb dX3_jump_27 rfl (lv_at hl 2 rfl) ?_
      obtain ⟨x7, ex7, hin, h⟩ := mrd_ex h
      refine kr_iald hC hW (wx_64 g μ6) hin ex7 dX3_jump_28 ?_
      cases h
      exact kr_iret hC hr hlocks hW dX3_jump_29
  · replace h := if_n hc3 h
    refine lv_iconst (v := 1) hx hb dX3_jump_9 (by decide) ?_
    refine lv_goto (tgt := 14) hx hb dX3_jump_10 (by decide) ?_
    refine lv_iload_n hx hb dX3_jump_14 rfl (lv_at hl 3 rfl) ?_
    refine lv_icmp_ne (tgt := 30) hx hb dX3_jump_15 (by decide) (fun hc8 => ?_) (fun hc8 => ?_)
    · replace h := if_n hc8 h
      refine lv_iload_n hx hb dX3_jump_30 rfl (lv_at hl 2 rfl) ?_
      refine lv_iconst (v := 1) hx hb dX3_jump_31 (by decide) ?_
      refine lv_iadd hx hb dX3_jump_32 ?_
      cases h
      exact kr_iret hC hr hlocks hW dX3_jump_33
    · replace h := if_p hc8 h
      refine lv_aload_n hx hb dX3_jump_18 rfl (lv_at hl 1 rfl) ?_
      refine lv_iload_n hx hb dX3_jump_19 rfl (lv_at hl 0 rfl) ?_
      obtain ⟨μ10, hxμ10, h⟩ := mbv_some h
      refine kr_cv hC hW (kr_runV hC hW hl.1 (t_vs_Law_push hxμ10) cw_X3_55 (wx_10 g μ2) rfl rfl rfl (Nat.le_of_ble_eq_true rfl) dX3_jump_20 (by decide)) (fun H locs hW => ?_)
      refine lv_aload_n hx hb dX3_jump_23 rfl (lv_at hl 1 rfl) ?_
      refine gf_X3_15_x10 hC hW dX3_jump_24 ?_
      refine lv_iload_n hx hb dX3_jump_27 rfl (lv_at hl 2 rfl) ?_
      obtain ⟨x11, ex11, hin, h⟩ := mrd_ex h
      refine kr_iald hC hW (wx_64 g μ10) hin ex11 dX3_jump_28 ?_
      cases h
      exact kr_iret hC hr hlocks hW dX3_jump_29
set_option maxHeartbeats 4000000 in
set_option maxRecDepth 100000 in
theorem tl_vs_Law_run_16 (a2 : Int32) (hC : Cx g RX3 cX3_run 8 p s m args c) {e0 : (Mm)} (kx0 : ∀ (ls : Array Slot) (H : Heap) (locs : List Loc), lv_has ls 8 [(0, .ref (ad g 10))] → wP g wx A s.heap e0 H locs → W p l e (rmD 2) s m args below meth c H locs 0 0 Q (F0 m 188 ls [])) : ∀ (n : Nat) (q : Int32 × Int32 × Mm), miter (fun q => vs_Law_run_b16 q.2.2 a2 q.1 q.2.1) n q = some e0 → ∀ (ls : Array Slot) (H : Heap) (locs : List Loc), lv_has ls 8 [(0, .ref (ad g 10)), (2, .int a2), (3, .ref (ad g 52)), (4, .int q.1), (5, .int q.2.1)] → wP g wx A s.heap q.2.2 H locs → W p l e (rmD 2) s m args below meth c H locs 0 0 Q (F0 m 16 ls []) := by
  obtain ⟨hx, hb, hml, hown, hts, hK, hN⟩ := id hC
  refine miter_ind (fun q r hf k1 k2 => ?_)
  obtain ⟨xs4, xs5, μ⟩ := q
  intro ls H locs hl hW
  have h : vs_Law_run_b16 μ a2 xs4 xs5 = some r := hf
  unfold vs_Law_run_b16 at h
  refine lv_iload hx hb dX3_run_16 (lv_at hl 4 rfl) ?_
  refine lv_sipush (v := 200) hx hb dX3_run_18 (by decide) ?_
  refine lv_icmp_ge (tgt := 188) hx hb dX3_run_21 (by decide) (fun hc3 => ?_) (fun hc3 => ?_)
  · replace h := if_p hc3 h
    obtain rfl := k2 _ (Option.some.inj h).symm
    exact kx0 _ _ _ (lv_sub hl [0] rfl) hW
  · replace h := if_n hc3 h
    refine lv_iload hx hb dX3_run_24 (lv_at hl 3 rfl) ?_
    refine lv_iload_n hx hb dX3_run_26 rfl (lv_at hl 1 rfl) ?_
    refine lv_icmp_ge (tgt := 188) hx hb dX3_run_27 (by decide) (fun hc4 => ?_) (fun hc4 => ?_)
    · replace h := if_p hc4 h
      obtain rfl := k2 _ (Option.some.inj h).symm
      exact kx0 _ _ _ (lv_sub hl [0] rfl) hW
    · replace h := if_n hc4 h
      refine lv_aload_n hx hb dX3_run_30 rfl (lv_at hl 0 rfl) ?_
      refine gf_X3_51_x10 hC hW dX3_run_31 ?_
      refine lv_if_ne (tgt := 188) hx hb dX3_run_34 (by decide) (fun hc5 => ?_) (fun hc5 => ?_)
      · replace h := if_n hc5 h
        obtain rfl := k2 _ (Option.some.inj h).symm
        exact kx0 _ _ _ (lv_sub hl [0] rfl) hW
      · replace h := if_p hc5 h
        refine lv_iload hx hb dX3_run_37 (lv_at hl 3 rfl) ?_
        refine lv_iconst (v := 1) hx hb dX3_run_39 (by decide) ?_
        refine lv_iadd hx hb dX3_run_40 ?_
        refine lv_istore (lv' := [(6, .int (xs4 + 1)), (0, .ref (ad g 10)), (2, .int a2), (3, .ref (ad g 52)), (4, .int xs4), (5, .int xs5)]) hx hb dX3_run_41 hl (by decide) rfl (fun ls hl => ?_)
        refine lv_aload_n hx hb dX3_run_43 rfl (lv_at hl 1 rfl) ?_
        refine gf_X3_9_x10 hC hW dX3_run_44 ?_
        refine lv_iload hx hb dX3_run_47 (lv_at hl 4 rfl) ?_
        obtain ⟨x6, ex6, hin, h⟩ := mrd_ex h
        refine kr_iald hC hW (wx_63 g μ) hin ex6 dX3_run_49 ?_
        by_cases hc7 : x6 = 0
        · replace h := if_p hc7 h
          refine lv_tableIn (off := 34) (tgt := 84) hx hb dX3_run_50 (by rw [hc7]; decide) (by rw [hc7]; decide) (by rw [hc7]; rfl) (by decide) ?_
          refine lv_aload_n hx hb dX3_run_84 rfl (lv_at hl 1 rfl) ?_
          refine lv_aload_n hx hb dX3_run_85 rfl (lv_at hl 1 rfl) ?_
          refine gf_X3_15_x10 hC hW dX3_run_86 ?_
          refine lv_iload hx hb dX3_run_89 (lv_at hl 4 rfl) ?_
          obtain ⟨x8, ex8, hin, h⟩ := mrd_ex h
          refine kr_iald hC hW (wx_64 g μ) hin ex8 dX3_run_91 ?_
          obtain ⟨μ10, hxμ10, h⟩ := mbv_some h
          refine kr_cv hC hW (kr_runV hC hW hl.1 (t_vs_Law_push hxμ10) cw_X3_55 (wx_10 g μ) rfl rfl rfl (Nat.le_of_ble_eq_true rfl) dX3_run_92 (by decide)) (fun H locs hW => ?_)
          refine lv_goto (tgt := 178) hx hb dX3_run_95 (by decide) ?_
          refine lv_iload hx hb dX3_run_178 (lv_at hl 0 rfl) ?_
          refine lv_istore (lv' := [(4, .int (xs4 + 1)), (6, .int (xs4 + 1)), (0, .ref (ad g 10)), (2, .int a2), (3, .ref (ad g 52)), (5, .int xs5)]) hx hb dX3_run_180 hl (by decide) rfl (fun ls hl => ?_)
          refine lv_iinc (v := (xs5 + 1)) (lv' := [(5, .int (xs5 + 1)), (4, .int (xs4 + 1)), (6, .int (xs4 + 1)), (0, .ref (ad g 10)), (2, .int a2), (3, .ref (ad g 52))]) hx hb dX3_run_182 hl (k := 5) rfl (by rw [oi_1]) (by decide) rfl (fun ls hl => ?_)
          refine lv_goto (tgt := 16) hx hb dX3_run_185 (by decide) ?_
          exact k1 ((xs4 + 1), (xs5 + 1), μ10) (Option.some.inj h).symm _ _ _ (lv_sub hl [3, 4, 5, 1, 0] rfl) hW
        replace h := if_n hc7 h
        by_cases hc11 : x6 = 1
        · replace h := if_p hc11 h
          refine lv_tableIn (off := 48) (tgt := 98) hx hb dX3_run_50 (by rw [hc11]; decide) (by rw [hc11]; decide) (by rw [hc11]; rfl) (by decide) ?_
          refine lv_aload_n hx hb dX3_run_98 rfl (lv_at hl 1 rfl) ?_
          refine lv_aload_n hx hb dX3_run_99 rfl (lv_at hl 3 rfl) ?_
          refine lv_aload_n hx hb dX3_run_100 rfl (lv_at hl 1 rfl) ?_
          refine gf_X3_15_x10 hC hW dX3_run_101 ?_
          refine lv_iload hx hb dX3_run_104 (lv_at hl 4 rfl) ?_
          obtain ⟨x12, ex12, hin, h⟩ := mrd_ex h
          refine kr_iald hC hW (wx_64 g μ) hin ex12 dX3_run_106 ?_
          obtain ⟨x13, ex13, hin, h⟩ := mrd_ex h
          refine kr_iald hC hW (wx_52 g μ) hin ex13 dX3_run_107 ?_
          obtain ⟨μ15, hxμ15, h⟩ := mbv_some h
          refine kr_cv hC hW (kr_runV hC hW hl.1 (t_vs_Law_push hxμ15) cw_X3_55 (wx_10 g μ) rfl rfl rfl (Nat.le_of_ble_eq_true rfl) dX3_run_108 (by decide)) (fun H locs hW => ?_)
          refine lv_goto (tgt := 178) hx hb dX3_run_111 (by decide) ?_
          refine lv_iload hx hb dX3_run_178 (lv_at hl 0 rfl) ?_
          refine lv_istore (lv' := [(4, .int (xs4 + 1)), (6, .int (xs4 + 1)), (0, .ref (ad g 10)), (2, .int a2), (3, .ref (ad g 52)), (5, .int xs5)]) hx hb dX3_run_180 hl (by decide) rfl (fun ls hl => ?_)
          refine lv_iinc (v := (xs5 + 1)) (lv' := [(5, .int (xs5 + 1)), (4, .int (xs4 + 1)), (6, .int (xs4 + 1)), (0, .ref (ad g 10)), (2, .int a2), (3, .ref (ad g 52))]) hx hb dX3_run_182 hl (k := 5) rfl (by rw [oi_1]) (by decide) rfl (fun ls hl => ?_)
          refine lv_goto (tgt := 16) hx hb dX3_run_185 (by decide) ?_
          exact k1 ((xs4 + 1), (xs5 + 1), μ15) (Option.some.inj h).symm _ _ _ (lv_sub hl [3, 4, 5, 1, 0] rfl) hW
        replace h := if_n hc11 h
        by_cases hc16 : x6 = 2
        · replace h := if_p hc16 h
          refine lv_tableIn (off := 64) (tgt := 114) hx hb dX3_run_50 (by rw [hc16]; decide) (by rw [hc16]; decide) (by rw [hc16]; rfl) (by decide) ?_
          refine lv_aload_n hx hb dX3_run_114 rfl (lv_at hl 1 rfl) ?_
          refine lv_iconst (v := 1) hx hb dX3_run_115 (by decide) ?_
          refine lv_aload_n hx hb dX3_run_116 rfl (lv_at hl 1 rfl) ?_
          obtain ⟨x17, μ18, hx17, h⟩ := mbm_some h
          refine kr_ci hC hW (kr_runV hC hW hl.1 (t_vs_Law_pop hx17) cw_X3_59 (wx_10 g μ) rfl rfl rfl (Nat.le_of_ble_eq_true rfl) dX3_run_117 (by decide)) (fun H locs hW => ?_)
          refine lv_isub hx hb dX3_run_120 ?_
          obtain ⟨μ20, hxμ20, h⟩ := mbv_some h
          refine kr_cv hC hW (kr_runV hC hW hl.1 (t_vs_Law_push hxμ20) cw_X3_55 (wx_10 g μ18) rfl rfl rfl (Nat.le_of_ble_eq_true rfl) dX3_run_121 (by decide)) (fun H locs hW => ?_)
          refine lv_goto (tgt := 178) hx hb dX3_run_124 (by decide) ?_
          refine lv_iload hx hb dX3_run_178 (lv_at hl 0 rfl) ?_
          refine lv_istore (lv' := [(4, .int (xs4 + 1)), (6, .int (xs4 + 1)), (0, .ref (ad g 10)), (2, .int a2), (3, .ref (ad g 52)), (5, .int xs5)]) hx hb dX3_run_180 hl (by decide) rfl (fun ls hl => ?_)
          refine lv_iinc (v := (xs5 + 1)) (lv' := [(5, .int (xs5 + 1)), (4, .int (xs4 + 1)), (6, .int (xs4 + 1)), (0, .ref (ad g 10)), (2, .int a2), (3, .ref (ad g 52))]) hx hb dX3_run_182 hl (k := 5) rfl (by rw [oi_1]) (by decide) rfl (fun ls hl => ?_)
          refine lv_goto (tgt := 16) hx hb dX3_run_185 (by decide) ?_
          exact k1 ((xs4 + 1), (xs5 + 1), μ20) (Option.some.inj h).symm _ _ _ (lv_sub hl [3, 4, 5, 1, 0] rfl) hW
        replace h := if_n hc16 h
        by_cases hc21 : x6 = 3
        · replace h := if_p hc21 h
          refine lv_tableIn (off := 77) (tgt := 127) hx hb dX3_run_50 (by rw [hc21]; decide) (by rw [hc21]; decide) (by rw [hc21]; rfl) (by decide) ?_
          refine lv_aload_n hx hb dX3_run_127 rfl (lv_at hl 1 rfl) ?_
          refine lv_iload hx hb dX3_run_128 (lv_at hl 4 rfl) ?_
          refine lv_iconst (v := 0) hx hb dX3_run_130 (by decide) ?_
          obtain ⟨x22, μ23, hx22, h⟩ := mbm_some h
          refine kr_ci hC hW (kr_runV hC hW hl.1 (t_vs_Law_jump hx22) cw_X3_63 (wx_10 g μ) rfl rfl rfl (Nat.le_of_ble_eq_true rfl) dX3_run_131 (by decide)) (fun H locs hW => ?_)
          refine lv_istore (lv' := [(6, .int x22), (0, .ref (ad g 10)), (2, .int a2), (3, .ref (ad g 52)), (4, .int xs4), (5, .int xs5)]) hx hb dX3_run_134 hl (by decide) rfl (fun ls hl => ?_)
          refine lv_goto (tgt := 178) hx hb dX3_run_136 (by decide) ?_
          refine lv_iload hx hb dX3_run_178 (lv_at hl 0 rfl) ?_
          refine lv_istore (lv' := [(4, .int x22), (6, .int x22), (0, .ref (ad g 10)), (2, .int a2), (3, .ref (ad g 52)), (5, .int xs5)]) hx hb dX3_run_180 hl (by decide) rfl (fun ls hl => ?_)
          refine lv_iinc (v := (xs5 + 1)) (lv' := [(5, .int (xs5 + 1)), (4, .int x22), (6, .int x22), (0, .ref (ad g 10)), (2, .int a2), (3, .ref (ad g 52))]) hx hb dX3_run_182 hl (k := 5) rfl (by rw [oi_1]) (by decide) rfl (fun ls hl => ?_)
          refine lv_goto (tgt := 16) hx hb dX3_run_185 (by decide) ?_
          exact k1 (x22, (xs5 + 1), μ23) (Option.some.inj h).symm _ _ _ (lv_sub hl [3, 4, 5, 1, 0] rfl) hW
        replace h := if_n hc21 h
        by_cases hc24 : x6 = 4
        · replace h := if_p hc24 h
          refine lv_tableIn (off := 89) (tgt := 139) hx hb dX3_run_50 (by rw [hc24]; decide) (by rw [hc24]; decide) (by rw [hc24]; rfl) (by decide) ?_
          refine lv_aload_n hx hb dX3_run_139 rfl (lv_at hl 1 rfl) ?_
          refine lv_iload hx hb dX3_run_140 (lv_at hl 4 rfl) ?_
          refine lv_iconst (v := 1) hx hb dX3_run_142 (by decide) ?_
          obtain ⟨x25, μ26, hx25, h⟩ := mbm_some h
          refine kr_ci hC hW (kr_runV hC hW hl.1 (t_vs_Law_jump hx25) cw_X3_63 (wx_10 g μ) rfl rfl rfl (Nat.le_of_ble_eq_true rfl) dX3_run_143 (by decide)) (fun H locs hW => ?_)
          refine lv_istore (lv' := [(6, .int x25), (0, .ref (ad g 10)), (2, .int a2), (3, .ref (ad g 52)), (4, .int xs4), (5, .int xs5)]) hx hb dX3_run_146 hl (by decide) rfl (fun ls hl => ?_)
          refine lv_goto (tgt := 178) hx hb dX3_run_148 (by decide) ?_
          refine lv_iload hx hb dX3_run_178 (lv_at hl 0 rfl) ?_
          refine lv_istore (lv' := [(4, .int x25), (6, .int x25), (0, .ref (ad g 10)), (2, .int a2), (3, .ref (ad g 52)), (5, .int xs5)]) hx hb dX3_run_180 hl (by decide) rfl (fun ls hl => ?_)
          refine lv_iinc (v := (xs5 + 1)) (lv' := [(5, .int (xs5 + 1)), (4, .int x25), (6, .int x25), (0, .ref (ad g 10)), (2, .int a2), (3, .ref (ad g 52))]) hx hb dX3_run_182 hl (k := 5) rfl (by rw [oi_1]) (by decide) rfl (fun ls hl => ?_)
          refine lv_goto (tgt := 16) hx hb dX3_run_185 (by decide) ?_
          exact k1 (x25, (xs5 + 1), μ26) (Option.some.inj h).symm _ _ _ (lv_sub hl [3, 4, 5, 1, 0] rfl) hW
        replace h := if_n hc24 h
        have thc7 := lv_neT (a := 0) hc7 (by decide)
        have thc11 := lv_neT (a := 1) hc11 (by decide)
        have thc16 := lv_neT (a := 2) hc16 (by decide)
        have thc21 := lv_neT (a := 3) hc21 (by decide)
        have thc24 := lv_neT (a := 4) hc24 (by decide)
        refine lv_tableOut (tgt := 151) hx hb dX3_run_50 (by omega) (by decide) ?_
        refine lv_aload_n hx hb dX3_run_151 rfl (lv_at hl 1 rfl) ?_
        obtain ⟨x27, μ28, hx27, h⟩ := mbm_some h
        refine kr_ci hC hW (kr_runV hC hW hl.1 (t_vs_Law_pop hx27) cw_X3_59 (wx_10 g μ) rfl rfl rfl (Nat.le_of_ble_eq_true rfl) dX3_run_152 (by decide)) (fun H locs hW => ?_)
        refine lv_istore (lv' := [(7, .int x27), (6, .int (xs4 + 1)), (0, .ref (ad g 10)), (2, .int a2), (3, .ref (ad g 52)), (4, .int xs4), (5, .int xs5)]) hx hb dX3_run_155 hl (by decide) rfl (fun ls hl => ?_)
        refine lv_aload_n hx hb dX3_run_157 rfl (lv_at hl 2 rfl) ?_
        refine lv_aload_n hx hb dX3_run_158 rfl (lv_at hl 2 rfl) ?_
        refine lv_aload_n hx hb dX3_run_159 rfl (lv_at hl 2 rfl) ?_
        refine gf_X3_9_x10 hC hW dX3_run_160 ?_
        refine lv_iload hx hb dX3_run_163 (lv_at hl 5 rfl) ?_
        obtain ⟨x29, ex29, hin, h⟩ := mrd_ex h
        refine kr_iald hC hW (wx_63 g μ28) hin ex29 dX3_run_165 ?_
        refine lv_aload_n hx hb dX3_run_166 rfl (lv_at hl 2 rfl) ?_
        obtain ⟨x30, μ31, hx30, h⟩ := mbm_some h
        refine kr_ci hC hW (kr_runV hC hW hl.1 (t_vs_Law_pop hx30) cw_X3_59 (wx_10 g μ28) rfl rfl rfl (Nat.le_of_ble_eq_true rfl) dX3_run_167 (by decide)) (fun H locs hW => ?_)
        refine lv_iload hx hb dX3_run_170 (lv_at hl 0 rfl) ?_
        obtain ⟨x32, μ33, hx32, h⟩ := mbm_some h
        refine kr_ci hC hW (kr_runV hC hW hl.1 (t_vs_Law_reckon hx32) cw_X3_67 (wx_10 g μ31) rfl rfl rfl (Nat.le_of_ble_eq_true rfl) dX3_run_172 (by decide)) (fun H locs hW => ?_)
        obtain ⟨μ35, hxμ35, h⟩ := mbv_some h
        refine kr_cv hC hW (kr_runV hC hW hl.1 (t_vs_Law_push hxμ35) cw_X3_55 (wx_10 g μ33) rfl rfl rfl (Nat.le_of_ble_eq_true rfl) dX3_run_175 (by decide)) (fun H locs hW => ?_)
        refine lv_iload hx hb dX3_run_178 (lv_at hl 1 rfl) ?_
        refine lv_istore (lv' := [(4, .int (xs4 + 1)), (7, .int x27), (6, .int (xs4 + 1)), (0, .ref (ad g 10)), (2, .int a2), (3, .ref (ad g 52)), (5, .int xs5)]) hx hb dX3_run_180 hl (by decide) rfl (fun ls hl => ?_)
        refine lv_iinc (v := (xs5 + 1)) (lv' := [(5, .int (xs5 + 1)), (4, .int (xs4 + 1)), (7, .int x27), (6, .int (xs4 + 1)), (0, .ref (ad g 10)), (2, .int a2), (3, .ref (ad g 52))]) hx hb dX3_run_182 hl (k := 6) rfl (by rw [oi_1]) (by decide) rfl (fun ls hl => ?_)
        refine lv_goto (tgt := 16) hx hb dX3_run_185 (by decide) ?_
        exact k1 ((xs4 + 1), (xs5 + 1), μ35) (Option.some.inj h).symm _ _ _ (lv_sub hl [4, 5, 6, 1, 0] rfl) hW
set_option maxHeartbeats 4000000 in
set_option maxRecDepth 100000 in
theorem t_vs_Law_run {l : Launch} {g : Gx} {A : Nat → Prop} {μ : Mm} {a1 : Int32} {a2 : Int32} {v : Int32} {u : Mm} (h : vs_Law_run μ a1 a2 = some (v, u)) : Cti l g A wx yX3_run cX3_run 8 (some .int) 2 [.ref (ad g 10), .int a1, .int a2, .ref (ad g 52)] μ v u := by
  refine ent (lv := [(0, .ref (ad g 10)), (1, .int a1), (2, .int a2), (3, .ref (ad g 52))]) (by decide) (Nat.le_of_ble_eq_true rfl) rfl ?_
  intro p e s m args below meth c hC hr hlocks hnm hW ls hl
  replace hC : Cx g RX3 cX3_run 8 p s m args c := hC
  obtain ⟨hx, hb, hml, hown, hts, hK, hN⟩ := id hC
  unfold vs_Law_run at h
  refine lv_iload_n hx hb dX3_run_0 rfl (lv_at hl 1 rfl) ?_
  refine lv_istore (lv' := [(4, .int a1), (0, .ref (ad g 10)), (1, .int a1), (2, .int a2), (3, .ref (ad g 52))]) hx hb dX3_run_1 hl (by decide) rfl (fun ls hl => ?_)
  refine lv_aload_n hx hb dX3_run_3 rfl (lv_at hl 1 rfl) ?_
  refine lv_iconst (v := 0) hx hb dX3_run_4 (by decide) ?_
  obtain ⟨μ1, eμ1, h⟩ := mst_some h
  refine pf_X3_48_x10 hC hW eμ1 dX3_run_5 (fun H locs hW => ?_)
  refine lv_aload_n hx hb dX3_run_8 rfl (lv_at hl 1 rfl) ?_
  refine lv_iconst (v := 0) hx hb dX3_run_9 (by decide) ?_
  obtain ⟨μ2, eμ2, h⟩ := mst_some h
  refine pf_X3_51_x10 hC hW (by decide) (by decide) eμ2 dX3_run_10 (fun H locs hW => ?_)
  refine lv_iconst (v := 0) hx hb dX3_run_13 (by decide) ?_
  refine lv_istore (lv' := [(5, .int 0), (4, .int a1), (0, .ref (ad g 10)), (1, .int a1), (2, .int a2), (3, .ref (ad g 52))]) hx hb dX3_run_14 hl (by decide) rfl (fun ls hl => ?_)
  obtain ⟨μ36, he40, h⟩ := mbv_some h
  refine tl_vs_Law_run_16 a2 hC (fun ls H locs hl hW => ?_) FU (a1, 0, μ2) he40 _ _ _ (lv_sub hl [2, 4, 5, 1, 0] rfl) hW
  refine lv_aload_n hx hb dX3_run_188 rfl (lv_at hl 0 rfl) ?_
  refine gf_X3_51_x10 hC hW dX3_run_189 ?_
  refine lv_if_ne (tgt := 203) hx hb dX3_run_192 (by decide) (fun hc37 => ?_) (fun hc37 => ?_)
  · replace h := if_n hc37 h
    refine lv_iconst (v := 0) hx hb dX3_run_203 (by decide) ?_
    refine lv_goto (tgt := 213) hx hb dX3_run_204 (by decide) ?_
    cases h
    exact kr_iret hC hr hlocks hW dX3_run_213
  · replace h := if_p hc37 h
    refine lv_aload_n hx hb dX3_run_195 rfl (lv_at hl 0 rfl) ?_
    refine gf_X3_48_x10 hC hW dX3_run_196 ?_
    refine lv_iconst (v := 1) hx hb dX3_run_199 (by decide) ?_
    refine lv_icmp_eq (tgt := 207) hx hb dX3_run_200 (by decide) (fun hc38 => ?_) (fun hc38 => ?_)
    · replace h := if_p hc38 h
      refine lv_aload_n hx hb dX3_run_207 rfl (lv_at hl 0 rfl) ?_
      refine gf_X3_30_x10 hC hW dX3_run_208 ?_
      refine lv_iconst (v := 0) hx hb dX3_run_211 (by decide) ?_
      obtain ⟨x39, ex39, hin, h⟩ := mrd_ex h
      refine kr_iald hC hW (wx_69 g μ36) hin ex39 dX3_run_212 ?_
      cases h
      exact kr_iret hC hr hlocks hW dX3_run_213
    · replace h := if_n hc38 h
      refine lv_iconst (v := 0) hx hb dX3_run_203 (by decide) ?_
      refine lv_goto (tgt := 213) hx hb dX3_run_204 (by decide) ?_
      cases h
      exact kr_iret hC hr hlocks hW dX3_run_213
set_option maxHeartbeats 4000000 in
set_option maxRecDepth 100000 in
theorem tl_vs_Law_answer_3 (a1 : Int32) (a3 : Int32) (hC : Cx g RX3 cX3_answer 5 p s m args c) {e0 : (Int32 × Mm) ⊕ (Mm)} (kx0 : (Sum.elim (fun a => ∀ (ls : Array Slot) (H : Heap) (locs : List Loc), lv_has ls 5 [(0, .ref (ad g 10)), (2, .ref (ad g 52)), (4, .int a.1)] → wP g wx A s.heap a.2 H locs → W p l e (rmD 3) s m args below meth c H locs 0 0 Q (F0 m 45 ls [])) (fun _ => True)) e0) (kx1 : (Sum.elim (fun _ => True) (fun a => ∀ (ls : Array Slot) (H : Heap) (locs : List Loc), lv_has ls 5 [(3, .int a3)] → wP g wx A s.heap a H locs → W p l e (rmD 3) s m args below meth c H locs 0 0 Q (F0 m 71 ls []))) e0) : ∀ (n : Nat) (q : Int32 × Mm), miter (fun q => vs_Law_answer_b3 q.2 a1 a3 q.1) n q = some e0 → ∀ (ls : Array Slot) (H : Heap) (locs : List Loc), lv_has ls 5 [(0, .ref (ad g 10)), (1, .int a1), (2, .ref (ad g 52)), (3, .int a3), (4, .int q.1)] → wP g wx A s.heap q.2 H locs → W p l e (rmD 3) s m args below meth c H locs 0 0 Q (F0 m 3 ls []) := by
  obtain ⟨hx, hb, hml, hown, hts, hK, hN⟩ := id hC
  refine miter_ind (fun q r hf k1 k2 => ?_)
  obtain ⟨xs4, μ⟩ := q
  intro ls H locs hl hW
  have h : vs_Law_answer_b3 μ a1 a3 xs4 = some r := hf
  unfold vs_Law_answer_b3 at h
  refine lv_iload hx hb dX3_answer_3 (lv_at hl 4 rfl) ?_
  refine lv_aload_n hx hb dX3_answer_5 rfl (lv_at hl 0 rfl) ?_
  refine gf_X3_37_x10 hC hW dX3_answer_6 ?_
  refine lv_icmp_ge (tgt := 71) hx hb dX3_answer_9 (by decide) (fun hc1 => ?_) (fun hc1 => ?_)
  · replace h := if_p hc1 h
    obtain rfl := k2 _ (Option.some.inj h).symm
    exact kx1 _ _ _ (lv_sub hl [3] rfl) hW
  · replace h := if_n hc1 h
    refine lv_aload_n hx hb dX3_answer_12 rfl (lv_at hl 0 rfl) ?_
    refine gf_X3_18_x10 hC hW dX3_answer_13 ?_
    refine lv_iload hx hb dX3_answer_16 (lv_at hl 4 rfl) ?_
    obtain ⟨x2, ex2, hin, h⟩ := mrd_ex h
    refine kr_iald hC hW (wx_65 g μ) hin ex2 dX3_answer_18 ?_
    refine lv_iload_n hx hb dX3_answer_19 rfl (lv_at hl 1 rfl) ?_
    refine lv_icmp_ne (tgt := 65) hx hb dX3_answer_20 (by decide) (fun hc3 => ?_) (fun hc3 => ?_)
    · replace h := if_n hc3 h
      refine lv_iinc (v := (xs4 + 1)) (lv' := [(4, .int (xs4 + 1)), (0, .ref (ad g 10)), (1, .int a1), (2, .ref (ad g 52)), (3, .int a3)]) hx hb dX3_answer_65 hl (k := 4) rfl (by rw [oi_1]) (by decide) rfl (fun ls hl => ?_)
      refine lv_goto (tgt := 3) hx hb dX3_answer_68 (by decide) ?_
      exact k1 ((xs4 + 1), μ) (Option.some.inj h).symm _ _ _ (lv_sub hl [1, 2, 3, 4, 0] rfl) hW
    · replace h := if_p hc3 h
      refine lv_aload_n hx hb dX3_answer_23 rfl (lv_at hl 0 rfl) ?_
      refine lv_aload_n hx hb dX3_answer_24 rfl (lv_at hl 0 rfl) ?_
      refine gf_X3_24_x10 hC hW dX3_answer_25 ?_
      refine lv_iload hx hb dX3_answer_28 (lv_at hl 4 rfl) ?_
      obtain ⟨x4, ex4, hin, h⟩ := mrd_ex h
      refine kr_iald hC hW (wx_67 g μ) hin ex4 dX3_answer_30 ?_
      refine lv_aload_n hx hb dX3_answer_31 rfl (lv_at hl 0 rfl) ?_
      refine gf_X3_27_x10 hC hW dX3_answer_32 ?_
      refine lv_iload hx hb dX3_answer_35 (lv_at hl 4 rfl) ?_
      obtain ⟨x5, ex5, hin, h⟩ := mrd_ex h
      refine kr_iald hC hW (wx_68 g μ) hin ex5 dX3_answer_37 ?_
      refine lv_aload_n hx hb dX3_answer_38 rfl (lv_at hl 2 rfl) ?_
      obtain ⟨x6, μ7, hx6, h⟩ := mbm_some h
      refine kr_ci hC hW (kr_runV hC hW hl.1 (t_vs_Law_run hx6) cw_X3_44 (wx_10 g μ) rfl rfl rfl (Nat.le_of_ble_eq_true rfl) dX3_answer_39 (by decide)) (fun H locs hW => ?_)
      refine lv_if_eq (tgt := 65) hx hb dX3_answer_42 (by decide) (fun hc8 => ?_) (fun hc8 => ?_)
      · replace h := if_p hc8 h
        refine lv_iinc (v := (xs4 + 1)) (lv' := [(4, .int (xs4 + 1)), (0, .ref (ad g 10)), (1, .int a1), (2, .ref (ad g 52)), (3, .int a3)]) hx hb dX3_answer_65 hl (k := 4) rfl (by rw [oi_1]) (by decide) rfl (fun ls hl => ?_)
        refine lv_goto (tgt := 3) hx hb dX3_answer_68 (by decide) ?_
        exact k1 ((xs4 + 1), μ7) (Option.some.inj h).symm _ _ _ (lv_sub hl [1, 2, 3, 4, 0] rfl) hW
      · replace h := if_n hc8 h
        obtain rfl := k2 _ (Option.some.inj h).symm
        exact kx0 _ _ _ (lv_sub hl [0, 2, 4] rfl) hW
set_option maxHeartbeats 4000000 in
set_option maxRecDepth 100000 in
theorem t_vs_Law_answer {l : Launch} {g : Gx} {A : Nat → Prop} {μ : Mm} {a1 : Int32} {a3 : Int32} {v : Int32} {u : Mm} (h : vs_Law_answer μ a1 a3 = some (v, u)) : Cti l g A wx yX3_answer cX3_answer 5 (some .int) 3 [.ref (ad g 10), .int a1, .ref (ad g 52), .int a3] μ v u := by
  refine ent (lv := [(0, .ref (ad g 10)), (1, .int a1), (2, .ref (ad g 52)), (3, .int a3)]) (by decide) (Nat.le_of_ble_eq_true rfl) rfl ?_
  intro p e s m args below meth c hC hr hlocks hnm hW ls hl
  replace hC : Cx g RX3 cX3_answer 5 p s m args c := hC
  obtain ⟨hx, hb, hml, hown, hts, hK, hN⟩ := id hC
  unfold vs_Law_answer at h
  refine lv_iconst (v := 0) hx hb dX3_answer_0 (by decide) ?_
  refine lv_istore (lv' := [(4, .int 0), (0, .ref (ad g 10)), (1, .int a1), (2, .ref (ad g 52)), (3, .int a3)]) hx hb dX3_answer_1 hl (by decide) rfl (fun ls hl => ?_)
  rcases msum2_ex h with ⟨e0, he9, h⟩ | ⟨μ16, he9, h⟩
  · obtain ⟨x10, μ11, ee, h9⟩ := un2_ex h
    clear h
    subst ee
    have h := h9
    clear h9
    refine tl_vs_Law_answer_3 a1 a3 hC (e0 := (.inl (x10, μ11))) (fun ls H locs hl hW => ?_) trivial FU (0, μ) he9 _ _ _ (lv_sub hl [1, 2, 3, 4, 0] rfl) hW
    refine lv_aload_n hx hb dX3_answer_45 rfl (lv_at hl 0 rfl) ?_
    refine lv_aload_n hx hb dX3_answer_46 rfl (lv_at hl 0 rfl) ?_
    refine gf_X3_21_x10 hC hW dX3_answer_47 ?_
    refine lv_iload hx hb dX3_answer_50 (lv_at hl 2 rfl) ?_
    obtain ⟨x12, ex12, hin, h⟩ := mrd_ex h
    refine kr_iald hC hW (wx_66 g μ11) hin ex12 dX3_answer_52 ?_
    refine lv_aload_n hx hb dX3_answer_53 rfl (lv_at hl 0 rfl) ?_
    refine gf_X3_24_x10 hC hW dX3_answer_54 ?_
    refine lv_iload hx hb dX3_answer_57 (lv_at hl 2 rfl) ?_
    obtain ⟨x13, ex13, hin, h⟩ := mrd_ex h
    refine kr_iald hC hW (wx_67 g μ11) hin ex13 dX3_answer_59 ?_
    refine lv_aload_n hx hb dX3_answer_60 rfl (lv_at hl 1 rfl) ?_
    obtain ⟨x14, μ15, hx14, h⟩ := mbm_some h
    refine kr_ci hC hW (kr_runV hC hW hl.1 (t_vs_Law_run hx14) cw_X3_44 (wx_10 g μ11) rfl rfl rfl (Nat.le_of_ble_eq_true rfl) dX3_answer_61 (by decide)) (fun H locs hW => ?_)
    cases h
    exact kr_iret hC hr hlocks hW dX3_answer_64
  · refine tl_vs_Law_answer_3 a1 a3 hC (e0 := (.inr μ16)) trivial (fun ls H locs hl hW => ?_) FU (0, μ) he9 _ _ _ (lv_sub hl [1, 2, 3, 4, 0] rfl) hW
    refine lv_iload_n hx hb dX3_answer_71 rfl (lv_at hl 0 rfl) ?_
    cases h
    exact kr_iret hC hr hlocks hW dX3_answer_72
set_option maxHeartbeats 4000000 in
set_option maxRecDepth 100000 in
theorem t_vs_Wishes_bounded {l : Launch} {g : Gx} {A : Nat → Prop} {Wd : Gx → Mm → va_W} {μ : Mm} {a0 : Int32} {a1 : Int32} {a2 : Int32} {v : Int32} (h : vs_Wishes_bounded a0 a1 a2 = some v) : Cti l g A Wd yX10_bounded cX10_bounded 3 (some .int) 1 [.int a0, .int a1, .int a2] μ v μ := by
  refine ent (lv := [(0, .int a0), (1, .int a1), (2, .int a2)]) (by decide) (Nat.le_of_ble_eq_true rfl) rfl ?_
  intro p e s m args below meth c hC hr hlocks hnm hW ls hl
  replace hC : Cx g RX10 cX10_bounded 3 p s m args c := hC
  obtain ⟨hx, hb, hml, hown, hts, hK, hN⟩ := id hC
  unfold vs_Wishes_bounded at h
  refine lv_iload_n hx hb dX10_bounded_0 rfl (lv_at hl 1 rfl) ?_
  refine lv_iload_n hx hb dX10_bounded_1 rfl (lv_at hl 2 rfl) ?_
  refine lv_iload_n hx hb dX10_bounded_2 rfl (lv_at hl 0 rfl) ?_
  refine va_mmin hx hb (hml.trans hl.1.symm) hown (hts _ tw_707) (hts _ tw_571) (hts _ tw_15) (hts _ mth_min) (by decide) (Nat.le_of_ble_eq_true rfl) (Nat.le_refl 0) (Nat.le_refl 0) dX10_bounded_3 ?_
  refine W.eq (g2 := F0 m 6 ls [.int (jmin a2 a0), .int a1]) rfl ?_
  refine va_mmax hx hb (hml.trans hl.1.symm) hown (hts _ tw_708) (hts _ tw_709) (hts _ tw_15) (hts _ mth_max) (by decide) (Nat.le_of_ble_eq_true rfl) (Nat.le_refl 0) (Nat.le_refl 0) dX10_bounded_6 ?_
  refine W.eq (g2 := F0 m 9 ls [.int (jmax a1 (jmin a2 a0))]) rfl ?_
  cases h
  exact kr_iret hC hr hlocks hW dX10_bounded_9
set_option maxHeartbeats 4000000 in
set_option maxRecDepth 100000 in
theorem tj_vs_Wishes_wish_61 {μ : Mm} (a1 : Int32) (a2 : Int32) (a4 : Int32) (a5 : Int32) (y0 : Int32) (hC : Cx g RX10 cX10_wish 7 p s m args c) (hr : meth.sig.returnType = some .int) (hlocks : meth.locks = false) {v : Int32} {u : Mm} (hl : lv_has ls 7 [(0, .ref (ad g 7)), (1, .int a1), (2, .int a2), (4, .int a4), (5, .int a5)]) (hW : wP g wx A s.heap μ H locs) (h : vs_Wishes_wish_j61 μ a1 a2 a4 a5 y0 = some (v, u)) : W p l e (rmD 4) s m args below meth c H locs 0 0 (MQ below (Qi g A wx v u) args s 0 0 A) (F0 m 61 ls [.int y0]) := by
  obtain ⟨hx, hb, hml, hown, hts, hK, hN⟩ := id hC
  unfold vs_Wishes_wish_j61 at h
  refine lv_istore (lv' := [(6, .int y0), (0, .ref (ad g 7)), (1, .int a1), (2, .int a2), (4, .int a4), (5, .int a5)]) hx hb dX10_wish_61 hl (by decide) rfl (fun ls hl => ?_)
  refine lv_iload hx hb dX10_wish_63 (lv_at hl 5 rfl) ?_
  refine lv_if_ne (tgt := 73) hx hb dX10_wish_65 (by decide) (fun hc4 => ?_) (fun hc4 => ?_)
  · replace h := if_n hc4 h
    refine lv_iconst (v := 0) hx hb dX10_wish_73 (by decide) ?_
    cases h
    exact kr_iret hC hr hlocks hW dX10_wish_74
  · replace h := if_p hc4 h
    refine lv_iload hx hb dX10_wish_68 (lv_at hl 0 rfl) ?_
    refine lv_if_eq (tgt := 75) hx hb dX10_wish_70 (by decide) (fun hc5 => ?_) (fun hc5 => ?_)
    · replace h := if_p hc5 h
      refine lv_aload_n hx hb dX10_wish_75 rfl (lv_at hl 1 rfl) ?_
      refine lv_iload_n hx hb dX10_wish_76 rfl (lv_at hl 2 rfl) ?_
      refine lv_iload_n hx hb dX10_wish_77 rfl (lv_at hl 3 rfl) ?_
      refine lv_iconst (v := 0) hx hb dX10_wish_78 (by decide) ?_
      refine lv_iload hx hb dX10_wish_79 (lv_at hl 4 rfl) ?_
      obtain ⟨μ7, hxμ7, h⟩ := mbv_some h
      refine kr_cv hC hW (kr_runV hC hW hl.1 (t_vs_Wishes_look hxμ7) cw_X10_46 (wx_7 g μ) rfl rfl rfl (Nat.le_of_ble_eq_true rfl) dX10_wish_81 (by decide)) (fun H locs hW => ?_)
      refine lv_aload_n hx hb dX10_wish_84 rfl (lv_at hl 1 rfl) ?_
      refine gf_X10_18_x7 hC hW dX10_wish_85 ?_
      refine lv_bipush (v := 119) hx hb dX10_wish_88 (by decide) ?_
      refine lv_aload_n hx hb dX10_wish_90 rfl (lv_at hl 1 rfl) ?_
      refine gf_X10_9_x7 hC hW dX10_wish_91 ?_
      refine lv_iconst (v := 0) hx hb dX10_wish_94 (by decide) ?_
      obtain ⟨x8, μ9, hx8, h⟩ := mbm_some h
      refine kr_ci hC hW (kr_runV hC hW hl.1 (t_vs_Law_answer hx8) cw_X10_50 (wx_10 g μ7) rfl rfl rfl (Nat.le_of_ble_eq_true rfl) dX10_wish_95 (by decide)) (fun H locs hW => ?_)
      refine lv_iconst (v := 0) hx hb dX10_wish_98 (by decide) ?_
      refine lv_sipush (v := 1000) hx hb dX10_wish_99 (by decide) ?_
      obtain ⟨x10, hx10, h⟩ := mbv_some h
      refine kr_ci hC hW (kr_runS hC hW hl.1 (t_vs_Wishes_bounded hx10) cw_X10_54 rfl rfl (Nat.le_of_ble_eq_true rfl) dX10_wish_102 (by decide)) (fun H locs hW => ?_)
      cases h
      exact kr_iret hC hr hlocks hW dX10_wish_105
    · replace h := if_n hc5 h
      refine lv_iconst (v := 0) hx hb dX10_wish_73 (by decide) ?_
      cases h
      exact kr_iret hC hr hlocks hW dX10_wish_74
set_option maxHeartbeats 4000000 in
set_option maxRecDepth 100000 in
theorem tj_vs_Wishes_wish_60 {μ : Mm} (a1 : Int32) (a2 : Int32) (a4 : Int32) (a5 : Int32) (hC : Cx g RX10 cX10_wish 7 p s m args c) (hr : meth.sig.returnType = some .int) (hlocks : meth.locks = false) {v : Int32} {u : Mm} (hl : lv_has ls 7 [(0, .ref (ad g 7)), (1, .int a1), (2, .int a2), (4, .int a4), (5, .int a5)]) (hW : wP g wx A s.heap μ H locs) (h : vs_Wishes_wish_j60 μ a1 a2 a4 a5 = some (v, u)) : W p l e (rmD 4) s m args below meth c H locs 0 0 (MQ below (Qi g A wx v u) args s 0 0 A) (F0 m 60 ls []) := by
  obtain ⟨hx, hb, hml, hown, hts, hK, hN⟩ := id hC
  unfold vs_Wishes_wish_j60 at h
  refine lv_iconst (v := 0) hx hb dX10_wish_60 (by decide) ?_
  exact tj_vs_Wishes_wish_61 a1 a2 a4 a5 0 hC hr hlocks (lv_sub hl [0, 1, 2, 3, 4] rfl) hW h
set_option maxHeartbeats 4000000 in
set_option maxRecDepth 100000 in
theorem tj_vs_Wishes_wish_21 {μ : Mm} (a1 : Int32) (a2 : Int32) (a4 : Int32) (y0 : Int32) (hC : Cx g RX10 cX10_wish 7 p s m args c) (hr : meth.sig.returnType = some .int) (hlocks : meth.locks = false) {v : Int32} {u : Mm} (hl : lv_has ls 7 [(0, .ref (ad g 7)), (1, .int a1), (2, .int a2), (4, .int a4)]) (hW : wP g wx A s.heap μ H locs) (h : vs_Wishes_wish_j21 μ a1 a2 a4 y0 = some (v, u)) : W p l e (rmD 4) s m args below meth c H locs 0 0 (MQ below (Qi g A wx v u) args s 0 0 A) (F0 m 21 ls [.int y0]) := by
  obtain ⟨hx, hb, hml, hown, hts, hK, hN⟩ := id hC
  unfold vs_Wishes_wish_j21 at h
  refine lv_istore (lv' := [(5, .int y0), (0, .ref (ad g 7)), (1, .int a1), (2, .int a2), (4, .int a4)]) hx hb dX10_wish_21 hl (by decide) rfl (fun ls hl => ?_)
  refine lv_aload_n hx hb dX10_wish_23 rfl (lv_at hl 1 rfl) ?_
  refine gf_X10_26_x7 hC hW dX10_wish_24 ?_
  refine gf_X10_40_x3 hC hW dX10_wish_27 ?_
  refine lv_iload_n hx hb dX10_wish_30 rfl (lv_at hl 2 rfl) ?_
  obtain ⟨x2, ex2, hin, h⟩ := mrd_ex h
  refine kr_iald hC hW (wx_26 g μ) hin ex2 dX10_wish_31 ?_
  refine lv_if_eq (tgt := 60) hx hb dX10_wish_32 (by decide) (fun hc3 => ?_) (fun hc3 => ?_)
  · replace h := if_p hc3 h
    exact tj_vs_Wishes_wish_60 a1 a2 a4 y0 hC hr hlocks (lv_sub hl [1, 2, 3, 4, 0] rfl) hW h
  · replace h := if_n hc3 h
    refine lv_aload_n hx hb dX10_wish_35 rfl (lv_at hl 1 rfl) ?_
    refine gf_X10_26_x7 hC hW dX10_wish_36 ?_
    refine gf_X10_40_x3 hC hW dX10_wish_39 ?_
    refine lv_iload_n hx hb dX10_wish_42 rfl (lv_at hl 2 rfl) ?_
    obtain ⟨x11, ex11, hin, h⟩ := mrd_ex h
    refine kr_iald hC hW (wx_26 g μ) hin ex11 dX10_wish_43 ?_
    refine lv_aload_n hx hb dX10_wish_44 rfl (lv_at hl 1 rfl) ?_
    refine gf_X10_22_x7 hC hW dX10_wish_45 ?_
    refine gf_X10_45_x2 hC hW dX10_wish_48 ?_
    refine lv_iload_n hx hb dX10_wish_51 rfl (lv_at hl 3 rfl) ?_
    obtain ⟨x12, ex12, hin, h⟩ := mrd_ex h
    refine kr_iald hC hW (wx_17 g μ) hin ex12 dX10_wish_52 ?_
    refine lv_icmp_eq (tgt := 60) hx hb dX10_wish_53 (by decide) (fun hc13 => ?_) (fun hc13 => ?_)
    · replace h := if_p hc13 h
      exact tj_vs_Wishes_wish_60 a1 a2 a4 y0 hC hr hlocks (lv_sub hl [1, 2, 3, 4, 0] rfl) hW h
    · replace h := if_n hc13 h
      refine lv_iconst (v := 1) hx hb dX10_wish_56 (by decide) ?_
      refine lv_goto (tgt := 61) hx hb dX10_wish_57 (by decide) ?_
      exact tj_vs_Wishes_wish_61 a1 a2 a4 y0 1 hC hr hlocks (lv_sub hl [1, 2, 3, 4, 0] rfl) hW h
set_option maxHeartbeats 4000000 in
set_option maxRecDepth 100000 in
theorem tj_vs_Wishes_wish_20 {μ : Mm} (a1 : Int32) (a2 : Int32) (a4 : Int32) (hC : Cx g RX10 cX10_wish 7 p s m args c) (hr : meth.sig.returnType = some .int) (hlocks : meth.locks = false) {v : Int32} {u : Mm} (hl : lv_has ls 7 [(0, .ref (ad g 7)), (1, .int a1), (2, .int a2), (4, .int a4)]) (hW : wP g wx A s.heap μ H locs) (h : vs_Wishes_wish_j20 μ a1 a2 a4 = some (v, u)) : W p l e (rmD 4) s m args below meth c H locs 0 0 (MQ below (Qi g A wx v u) args s 0 0 A) (F0 m 20 ls []) := by
  obtain ⟨hx, hb, hml, hown, hts, hK, hN⟩ := id hC
  unfold vs_Wishes_wish_j20 at h
  refine lv_iconst (v := 0) hx hb dX10_wish_20 (by decide) ?_
  exact tj_vs_Wishes_wish_21 a1 a2 a4 0 hC hr hlocks (lv_sub hl [0, 1, 2, 3] rfl) hW h
set_option maxHeartbeats 4000000 in
set_option maxRecDepth 100000 in
theorem t_vs_Wishes_wish {l : Launch} {g : Gx} {A : Nat → Prop} {μ : Mm} {a1 : Int32} {a2 : Int32} {a3 : Int32} {a4 : Int32} {v : Int32} {u : Mm} (h : vs_Wishes_wish μ a1 a2 a3 a4 = some (v, u)) : Cti l g A wx yX10_wish cX10_wish 7 (some .int) 4 [.ref (ad g 7), .int a1, .int a2, .int a3, .int a4] μ v u := by
  refine ent (lv := [(0, .ref (ad g 7)), (1, .int a1), (2, .int a2), (3, .int a3), (4, .int a4)]) (by decide) (Nat.le_of_ble_eq_true rfl) rfl ?_
  intro p e s m args below meth c hC hr hlocks hnm hW ls hl
  replace hC : Cx g RX10 cX10_wish 7 p s m args c := hC
  obtain ⟨hx, hb, hml, hown, hts, hK, hN⟩ := id hC
  unfold vs_Wishes_wish at h
  refine lv_iload_n hx hb dX10_wish_0 rfl (lv_at hl 3 rfl) ?_
  refine lv_if_ne (tgt := 20) hx hb dX10_wish_1 (by decide) (fun hc1 => ?_) (fun hc1 => ?_)
  · replace h := if_n hc1 h
    exact tj_vs_Wishes_wish_20 a1 a2 a4 hC hr hlocks (lv_sub hl [0, 1, 2, 4] rfl) hW h
  · replace h := if_p hc1 h
    refine lv_aload_n hx hb dX10_wish_4 rfl (lv_at hl 0 rfl) ?_
    refine gf_X10_22_x7 hC hW dX10_wish_5 ?_
    refine lv_iload_n hx hb dX10_wish_8 rfl (lv_at hl 2 rfl) ?_
    refine lv_iload_n hx hb dX10_wish_9 rfl (lv_at hl 1 rfl) ?_
    obtain ⟨x14, hx14, h⟩ := mbv_some h
    refine kr_ci hC hW (kr_runV hC hW hl.1 (t_vs_Books_wasHad hx14) cw_X10_34 (wx_2 g μ) rfl rfl rfl (Nat.le_of_ble_eq_true rfl) dX10_wish_10 (by decide)) (fun H locs hW => ?_)
    refine lv_if_eq (tgt := 20) hx hb dX10_wish_13 (by decide) (fun hc15 => ?_) (fun hc15 => ?_)
    · replace h := if_p hc15 h
      exact tj_vs_Wishes_wish_20 a1 a2 a4 hC hr hlocks (lv_sub hl [0, 1, 2, 4] rfl) hW h
    · replace h := if_n hc15 h
      refine lv_iconst (v := 1) hx hb dX10_wish_16 (by decide) ?_
      refine lv_goto (tgt := 21) hx hb dX10_wish_17 (by decide) ?_
      exact tj_vs_Wishes_wish_21 a1 a2 a4 1 hC hr hlocks (lv_sub hl [0, 1, 2, 4] rfl) hW h
set_option maxHeartbeats 4000000 in
set_option maxRecDepth 100000 in
theorem t_vs_wants {l : Launch} {g : Gx} {A : Nat → Prop} {μ : Mm} {a1 : Int32} {a2 : Int32} {a3 : Int32} {v : Int32} {u : Mm} (h : vs_wants μ a1 a2 a3 = some (v, u)) : Cti l g A wx yX11_wants cX11_wants 4 (some .int) 5 [.ref (ad g 0), .int a1, .int a2, .int a3] μ v u := by
  refine ent (lv := [(0, .ref (ad g 0)), (1, .int a1), (2, .int a2), (3, .int a3)]) (by decide) (Nat.le_of_ble_eq_true rfl) rfl ?_
  intro p e s m args below meth c hC hr hlocks hnm hW ls hl
  replace hC : Cx g RX11 cX11_wants 4 p s m args c := hC
  obtain ⟨hx, hb, hml, hown, hts, hK, hN⟩ := id hC
  unfold vs_wants at h
  refine lv_aload_n hx hb dX11_wants_0 rfl (lv_at hl 0 rfl) ?_
  refine lv_iload_n hx hb dX11_wants_1 rfl (lv_at hl 1 rfl) ?_
  refine lv_iload_n hx hb dX11_wants_2 rfl (lv_at hl 2 rfl) ?_
  obtain ⟨x1, hx1, h⟩ := mbv_some h
  refine kr_ci hC hW (kr_runV hC hW hl.1 (t_vs_isPair hx1) cw_X11_135 (wx_0 g μ) rfl rfl rfl (Nat.le_of_ble_eq_true rfl) dX11_wants_3 (by decide)) (fun H locs hW => ?_)
  refine lv_if_eq (tgt := 26) hx hb dX11_wants_6 (by decide) (fun hc2 => ?_) (fun hc2 => ?_)
  · replace h := if_p hc2 h
    refine lv_iconst (v := (-1)) hx hb dX11_wants_26 (by decide) ?_
    cases h
    exact kr_iret hC hr hlocks hW dX11_wants_27
  · replace h := if_n hc2 h
    refine lv_aload_n hx hb dX11_wants_9 rfl (lv_at hl 0 rfl) ?_
    refine gf_X11_56_x0 hC hW dX11_wants_10 ?_
    refine lv_iload_n hx hb dX11_wants_13 rfl (lv_at hl 1 rfl) ?_
    refine lv_iload_n hx hb dX11_wants_14 rfl (lv_at hl 2 rfl) ?_
    refine lv_iload_n hx hb dX11_wants_15 rfl (lv_at hl 3 rfl) ?_
    refine lv_aload_n hx hb dX11_wants_16 rfl (lv_at hl 0 rfl) ?_
    refine gf_X11_96_x0 hC hW dX11_wants_17 ?_
    obtain ⟨x3, μ4, hx3, h⟩ := mbm_some h
    refine kr_ci hC hW (kr_runV hC hW hl.1 (t_vs_Wishes_wish hx3) cw_X11_175 (wx_7 g μ) rfl rfl rfl (Nat.le_of_ble_eq_true rfl) dX11_wants_20 (by decide)) (fun H locs hW => ?_)
    refine lv_goto (tgt := 27) hx hb dX11_wants_23 (by decide) ?_
    cases h
    exact kr_iret hC hr hlocks hW dX11_wants_27
set_option maxHeartbeats 4000000 in
set_option maxRecDepth 100000 in
theorem t_vs_isDay {l : Launch} {g : Gx} {A : Nat → Prop} {Wd : Gx → Mm → va_W} {μ : Mm} {a0 : Int32} {v : Bool} (h : vs_isDay a0 = some v) : Cti l g A Wd yX11_isDay cX11_isDay 1 (some .boolean) 1 [.int a0] μ (bI v) μ := by
  refine ent (lv := [(0, .int a0)]) (by decide) (Nat.le_of_ble_eq_true rfl) rfl ?_
  intro p e s m args below meth c hC hr hlocks hnm hW ls hl
  replace hC : Cx g RX11 cX11_isDay 1 p s m args c := hC
  obtain ⟨hx, hb, hml, hown, hts, hK, hN⟩ := id hC
  unfold vs_isDay at h
  refine lv_iload_n hx hb dX11_isDay_0 rfl (lv_at hl 0 rfl) ?_
  refine lv_iconst (v := 0) hx hb dX11_isDay_1 (by decide) ?_
  refine lv_sipush (v := 199) hx hb dX11_isDay_2 (by decide) ?_
  obtain ⟨x1, hx1, h⟩ := mbv_some h
  refine kr_ci hC hW (kr_runS hC hW hl.1 (t_vs_within hx1) cw_X11_100 rfl rfl (Nat.le_of_ble_eq_true rfl) dX11_isDay_5 (by decide)) (fun H locs hW => ?_)
  cases h
  exact kr_zret hC hr hlocks _ rfl hW dX11_isDay_8
set_option maxHeartbeats 4000000 in
set_option maxRecDepth 100000 in
theorem t_vs_Stops_isLost {l : Launch} {g : Gx} {A : Nat → Prop} {μ : Mm} {a1 : Int32} {a2 : Int32} {v : Bool} (h : vs_Stops_isLost μ a1 a2 = some v) : Cti l g A wx yX8_isLost cX8_isLost 3 (some .boolean) 0 [.ref (ad g 4), .int a1, .int a2] μ (bI v) μ := by
  refine ent (lv := [(0, .ref (ad g 4)), (1, .int a1), (2, .int a2)]) (by decide) (Nat.le_of_ble_eq_true rfl) rfl ?_
  intro p e s m args below meth c hC hr hlocks hnm hW ls hl
  replace hC : Cx g RX8 cX8_isLost 3 p s m args c := hC
  obtain ⟨hx, hb, hml, hown, hts, hK, hN⟩ := id hC
  unfold vs_Stops_isLost at h
  refine lv_aload_n hx hb dX8_isLost_0 rfl (lv_at hl 0 rfl) ?_
  refine gf_X8_45_x4 hC hW dX8_isLost_1 ?_
  refine lv_iload_n hx hb dX8_isLost_4 rfl (lv_at hl 1 rfl) ?_
  refine lv_sipush (v := 200) hx hb dX8_isLost_5 (by decide) ?_
  refine lv_imul hx hb dX8_isLost_8 ?_
  refine lv_iload_n hx hb dX8_isLost_9 rfl (lv_at hl 2 rfl) ?_
  refine lv_iadd hx hb dX8_isLost_10 ?_
  obtain ⟨x1, ex1, hin, h⟩ := mrd_ex h
  refine kr_iald hC hW (wx_43 g μ) hin ex1 dX8_isLost_11 ?_
  refine lv_if_eq (tgt := 19) hx hb dX8_isLost_12 (by decide) (fun hc2 => ?_) (fun hc2 => ?_)
  · replace h := if_p hc2 h
    refine lv_iconst (v := 0) hx hb dX8_isLost_19 (by decide) ?_
    cases h
    exact kr_zret hC hr hlocks _ rfl hW dX8_isLost_20
  · replace h := if_n hc2 h
    refine lv_iconst (v := 1) hx hb dX8_isLost_15 (by decide) ?_
    refine lv_goto (tgt := 20) hx hb dX8_isLost_16 (by decide) ?_
    cases h
    exact kr_zret hC hr hlocks _ rfl hW dX8_isLost_20
set_option maxHeartbeats 4000000 in
set_option maxRecDepth 100000 in
theorem t_vs_Stops_stopsOn {l : Launch} {g : Gx} {A : Nat → Prop} {μ : Mm} {a1 : Int32} {a2 : Int32} {v : Int32} (h : vs_Stops_stopsOn μ a1 a2 = some v) : Cti l g A wx yX8_stopsOn cX8_stopsOn 3 (some .int) 1 [.ref (ad g 4), .int a1, .int a2] μ v μ := by
  refine ent (lv := [(0, .ref (ad g 4)), (1, .int a1), (2, .int a2)]) (by decide) (Nat.le_of_ble_eq_true rfl) rfl ?_
  intro p e s m args below meth c hC hr hlocks hnm hW ls hl
  replace hC : Cx g RX8 cX8_stopsOn 3 p s m args c := hC
  obtain ⟨hx, hb, hml, hown, hts, hK, hN⟩ := id hC
  unfold vs_Stops_stopsOn at h
  refine lv_aload_n hx hb dX8_stopsOn_0 rfl (lv_at hl 0 rfl) ?_
  refine lv_iload_n hx hb dX8_stopsOn_1 rfl (lv_at hl 1 rfl) ?_
  refine lv_iload_n hx hb dX8_stopsOn_2 rfl (lv_at hl 2 rfl) ?_
  obtain ⟨x1, hx1, h⟩ := mbv_some h
  refine kr_ci hC hW (kr_runV hC hW hl.1 (t_vs_Stops_isLost hx1) cw_X8_59 (wx_4 g μ) rfl rfl rfl (Nat.le_of_ble_eq_true rfl) dX8_stopsOn_3 (by decide)) (fun H locs hW => ?_)
  refine lv_if_eq (tgt := 13) hx hb dX8_stopsOn_6 (by decide) (fun hc2 => ?_) (fun hc2 => ?_)
  · replace h := if_p hc2 h
    refine lv_aload_n hx hb dX8_stopsOn_13 rfl (lv_at hl 0 rfl) ?_
    refine gf_X8_39_x4 hC hW dX8_stopsOn_14 ?_
    refine lv_iload_n hx hb dX8_stopsOn_17 rfl (lv_at hl 1 rfl) ?_
    refine lv_bipush (v := 14) hx hb dX8_stopsOn_18 (by decide) ?_
    refine lv_imul hx hb dX8_stopsOn_20 ?_
    refine lv_iload_n hx hb dX8_stopsOn_21 rfl (lv_at hl 2 rfl) ?_
    refine lv_bipush (v := 14) hx hb dX8_stopsOn_22 (by decide) ?_
    refine lv_irem hx hb dX8_stopsOn_24 (by decide) ?_
    refine lv_iadd hx hb dX8_stopsOn_25 ?_
    obtain ⟨x3, ex3, hin, h⟩ := mrd_ex h
    refine kr_iald hC hW (wx_41 g μ) hin ex3 dX8_stopsOn_26 ?_
    refine lv_aload_n hx hb dX8_stopsOn_27 rfl (lv_at hl 0 rfl) ?_
    refine gf_X8_42_x4 hC hW dX8_stopsOn_28 ?_
    refine lv_iload_n hx hb dX8_stopsOn_31 rfl (lv_at hl 1 rfl) ?_
    refine lv_sipush (v := 200) hx hb dX8_stopsOn_32 (by decide) ?_
    refine lv_imul hx hb dX8_stopsOn_35 ?_
    refine lv_iload_n hx hb dX8_stopsOn_36 rfl (lv_at hl 2 rfl) ?_
    refine lv_iadd hx hb dX8_stopsOn_37 ?_
    obtain ⟨x4, ex4, hin, h⟩ := mrd_ex h
    refine kr_iald hC hW (wx_42 g μ) hin ex4 dX8_stopsOn_38 ?_
    refine lv_ior hx hb dX8_stopsOn_39 ?_
    cases h
    exact kr_iret hC hr hlocks hW dX8_stopsOn_40
  · replace h := if_n hc2 h
    refine lv_iconst (v := 0) hx hb dX8_stopsOn_9 (by decide) ?_
    refine lv_goto (tgt := 40) hx hb dX8_stopsOn_10 (by decide) ?_
    cases h
    exact kr_iret hC hr hlocks hW dX8_stopsOn_40
set_option maxHeartbeats 4000000 in
set_option maxRecDepth 100000 in
theorem t_vs_Stops_goesTo {l : Launch} {g : Gx} {A : Nat → Prop} {μ : Mm} {a1 : Int32} {a2 : Int32} {a3 : Int32} {v : Bool} (h : vs_Stops_goesTo μ a1 a2 a3 = some v) : Cti l g A wx yX8_goesTo cX8_goesTo 4 (some .boolean) 2 [.ref (ad g 4), .int a1, .int a2, .int a3] μ (bI v) μ := by
  refine ent (lv := [(0, .ref (ad g 4)), (1, .int a1), (2, .int a2), (3, .int a3)]) (by decide) (Nat.le_of_ble_eq_true rfl) rfl ?_
  intro p e s m args below meth c hC hr hlocks hnm hW ls hl
  replace hC : Cx g RX8 cX8_goesTo 4 p s m args c := hC
  obtain ⟨hx, hb, hml, hown, hts, hK, hN⟩ := id hC
  unfold vs_Stops_goesTo at h
  refine lv_aload_n hx hb dX8_goesTo_0 rfl (lv_at hl 0 rfl) ?_
  refine lv_iload_n hx hb dX8_goesTo_1 rfl (lv_at hl 1 rfl) ?_
  refine lv_iload_n hx hb dX8_goesTo_2 rfl (lv_at hl 3 rfl) ?_
  obtain ⟨x1, hx1, h⟩ := mbv_some h
  refine kr_ci hC hW (kr_runV hC hW hl.1 (t_vs_Stops_stopsOn hx1) cw_X8_63 (wx_4 g μ) rfl rfl rfl (Nat.le_of_ble_eq_true rfl) dX8_goesTo_3 (by decide)) (fun H locs hW => ?_)
  refine lv_iload_n hx hb dX8_goesTo_6 rfl (lv_at hl 2 rfl) ?_
  obtain ⟨x2, hx2, h⟩ := mbv_some h
  refine kr_ci hC hW (kr_runN hC hW hl.1 (t_vs_hasBit hx2) cw_X8_67 rfl rfl (Nat.le_of_ble_eq_true rfl) dX8_goesTo_7 (by decide)) (fun H locs hW => ?_)
  cases h
  exact kr_zret hC hr hlocks _ rfl hW dX8_goesTo_10
set_option maxHeartbeats 4000000 in
set_option maxRecDepth 100000 in
theorem t_vs_visits {l : Launch} {g : Gx} {A : Nat → Prop} {μ : Mm} {a1 : Int32} {a2 : Int32} {a3 : Int32} {v : Int32} (h : vs_visits μ a1 a2 a3 = some v) : Cti l g A wx yX11_visits cX11_visits 4 (some .int) 3 [.ref (ad g 0), .int a1, .int a2, .int a3] μ v μ := by
  refine ent (lv := [(0, .ref (ad g 0)), (1, .int a1), (2, .int a2), (3, .int a3)]) (by decide) (Nat.le_of_ble_eq_true rfl) rfl ?_
  intro p e s m args below meth c hC hr hlocks hnm hW ls hl
  replace hC : Cx g RX11 cX11_visits 4 p s m args c := hC
  obtain ⟨hx, hb, hml, hown, hts, hK, hN⟩ := id hC
  unfold vs_visits at h
  refine lv_iload_n hx hb dX11_visits_0 rfl (lv_at hl 1 rfl) ?_
  obtain ⟨x1, hx1, h⟩ := mbv_some h
  refine kr_ci hC hW (kr_runS hC hW hl.1 (t_vs_isVan hx1) cw_X11_108 rfl rfl (Nat.le_of_ble_eq_true rfl) dX11_visits_1 (by decide)) (fun H locs hW => ?_)
  refine lv_if_eq (tgt := 25) hx hb dX11_visits_4 (by decide) (fun hc2 => ?_) (fun hc2 => ?_)
  · replace h := if_p hc2 h
    refine lv_iconst (v := (-1)) hx hb dX11_visits_25 (by decide) ?_
    cases h
    exact kr_iret hC hr hlocks hW dX11_visits_26
  · replace h := if_n hc2 h
    refine lv_aload_n hx hb dX11_visits_7 rfl (lv_at hl 0 rfl) ?_
    refine gf_X11_33_x0 hC hW dX11_visits_8 ?_
    refine lv_iload_n hx hb dX11_visits_11 rfl (lv_at hl 2 rfl) ?_
    obtain ⟨x3, hx3, h⟩ := mbv_some h
    refine kr_ci hC hW (kr_runV hC hW hl.1 (t_vs_Stops_has hx3) cw_X11_119 (wx_4 g μ) rfl rfl rfl (Nat.le_of_ble_eq_true rfl) dX11_visits_12 (by decide)) (fun H locs hW => ?_)
    refine lv_if_eq (tgt := 25) hx hb dX11_visits_15 (by decide) (fun hc4 => ?_) (fun hc4 => ?_)
    · replace h := if_p hc4 h
      refine lv_iconst (v := (-1)) hx hb dX11_visits_25 (by decide) ?_
      cases h
      exact kr_iret hC hr hlocks hW dX11_visits_26
    · replace h := if_n hc4 h
      refine lv_iload_n hx hb dX11_visits_18 rfl (lv_at hl 3 rfl) ?_
      obtain ⟨x5, hx5, h⟩ := mbv_some h
      refine kr_ci hC hW (kr_runS hC hW hl.1 (t_vs_isDay hx5) cw_X11_179 rfl rfl (Nat.le_of_ble_eq_true rfl) dX11_visits_19 (by decide)) (fun H locs hW => ?_)
      refine lv_if_ne (tgt := 27) hx hb dX11_visits_22 (by decide) (fun hc6 => ?_) (fun hc6 => ?_)
      · replace h := if_n hc6 h
        refine lv_aload_n hx hb dX11_visits_27 rfl (lv_at hl 0 rfl) ?_
        refine gf_X11_33_x0 hC hW dX11_visits_28 ?_
        refine lv_iload_n hx hb dX11_visits_31 rfl (lv_at hl 1 rfl) ?_
        refine lv_iload_n hx hb dX11_visits_32 rfl (lv_at hl 2 rfl) ?_
        refine lv_iload_n hx hb dX11_visits_33 rfl (lv_at hl 3 rfl) ?_
        obtain ⟨x7, hx7, h⟩ := mbv_some h
        refine kr_ci hC hW (kr_runV hC hW hl.1 (t_vs_Stops_goesTo hx7) cw_X11_182 (wx_4 g μ) rfl rfl rfl (Nat.le_of_ble_eq_true rfl) dX11_visits_34 (by decide)) (fun H locs hW => ?_)
        refine lv_if_eq (tgt := 44) hx hb dX11_visits_37 (by decide) (fun hc8 => ?_) (fun hc8 => ?_)
        · replace h := if_p hc8 h
          refine lv_iconst (v := 0) hx hb dX11_visits_44 (by decide) ?_
          cases h
          exact kr_iret hC hr hlocks hW dX11_visits_45
        · replace h := if_n hc8 h
          refine lv_iconst (v := 1) hx hb dX11_visits_40 (by decide) ?_
          refine lv_goto (tgt := 45) hx hb dX11_visits_41 (by decide) ?_
          cases h
          exact kr_iret hC hr hlocks hW dX11_visits_45
      · replace h := if_p hc6 h
        refine lv_iconst (v := (-1)) hx hb dX11_visits_25 (by decide) ?_
        cases h
        exact kr_iret hC hr hlocks hW dX11_visits_26
set_option maxHeartbeats 4000000 in
set_option maxRecDepth 100000 in
theorem t_vs_Acts_isFull {l : Launch} {g : Gx} {A : Nat → Prop} {μ : Mm} {v : Bool} (h : vs_Acts_isFull μ = some v) : Cti l g A wx yX0_isFull cX0_isFull 1 (some .boolean) 0 [.ref (ad g 6)] μ (bI v) μ := by
  refine ent (lv := [(0, .ref (ad g 6))]) (by decide) (Nat.le_of_ble_eq_true rfl) rfl ?_
  intro p e s m args below meth c hC hr hlocks hnm hW ls hl
  replace hC : Cx g RX0 cX0_isFull 1 p s m args c := hC
  obtain ⟨hx, hb, hml, hown, hts, hK, hN⟩ := id hC
  unfold vs_Acts_isFull at h
  refine lv_aload_n hx hb dX0_isFull_0 rfl (lv_at hl 0 rfl) ?_
  refine gf_X0_24_x6 hC hW dX0_isFull_1 ?_
  refine lv_sipush (v := 200) hx hb dX0_isFull_4 (by decide) ?_
  refine lv_icmp_lt (tgt := 14) hx hb dX0_isFull_7 (by decide) (fun hc1 => ?_) (fun hc1 => ?_)
  · replace h := if_p hc1 h
    refine lv_iconst (v := 0) hx hb dX0_isFull_14 (by decide) ?_
    cases h
    exact kr_zret hC hr hlocks _ rfl hW dX0_isFull_15
  · replace h := if_n hc1 h
    refine lv_iconst (v := 1) hx hb dX0_isFull_10 (by decide) ?_
    refine lv_goto (tgt := 15) hx hb dX0_isFull_11 (by decide) ?_
    cases h
    exact kr_zret hC hr hlocks _ rfl hW dX0_isFull_15
set_option maxHeartbeats 4000000 in
set_option maxRecDepth 100000 in
theorem t_vs_fits {l : Launch} {g : Gx} {A : Nat → Prop} {μ : Mm} {a1 : Int32} {a2 : Int32} {v : Bool} (h : vs_fits μ a1 a2 = some v) : Cti l g A wx yX11_fits cX11_fits 3 (some .boolean) 3 [.ref (ad g 0), .int a1, .int a2] μ (bI v) μ := by
  refine ent (lv := [(0, .ref (ad g 0)), (1, .int a1), (2, .int a2)]) (by decide) (Nat.le_of_ble_eq_true rfl) rfl ?_
  intro p e s m args below meth c hC hr hlocks hnm hW ls hl
  replace hC : Cx g RX11 cX11_fits 3 p s m args c := hC
  obtain ⟨hx, hb, hml, hown, hts, hK, hN⟩ := id hC
  unfold vs_fits at h
  refine lv_aload_n hx hb dX11_fits_0 rfl (lv_at hl 0 rfl) ?_
  refine gf_X11_19_x0 hC hW dX11_fits_1 ?_
  refine lv_iload_n hx hb dX11_fits_4 rfl (lv_at hl 2 rfl) ?_
  obtain ⟨x1, hx1, h⟩ := mbv_some h
  refine kr_ci hC hW (kr_runV hC hW hl.1 (t_vs_Books_lengthOn hx1) cw_X11_112 (wx_2 g μ) rfl rfl rfl (Nat.le_of_ble_eq_true rfl) dX11_fits_5 (by decide)) (fun H locs hW => ?_)
  refine lv_aload_n hx hb dX11_fits_8 rfl (lv_at hl 0 rfl) ?_
  refine gf_X11_19_x0 hC hW dX11_fits_9 ?_
  refine gf_X11_405_x2 hC hW dX11_fits_12 ?_
  refine lv_iload_n hx hb dX11_fits_15 rfl (lv_at hl 1 rfl) ?_
  obtain ⟨x2, ex2, hin, h⟩ := mrd_ex h
  refine kr_iald hC hW (wx_16 g μ) hin ex2 dX11_fits_16 ?_
  refine lv_iadd hx hb dX11_fits_17 ?_
  refine lv_aload_n hx hb dX11_fits_18 rfl (lv_at hl 0 rfl) ?_
  refine gf_X11_76_x0 hC hW dX11_fits_19 ?_
  refine lv_iload_n hx hb dX11_fits_22 rfl (lv_at hl 2 rfl) ?_
  obtain ⟨x3, ex3, hin, h⟩ := mrd_ex h
  refine kr_iald hC hW (wx_12 g μ) hin ex3 dX11_fits_23 ?_
  refine lv_icmp_gt (tgt := 31) hx hb dX11_fits_24 (by decide) (fun hc4 => ?_) (fun hc4 => ?_)
  · replace h := if_p hc4 h
    refine lv_iconst (v := 0) hx hb dX11_fits_31 (by decide) ?_
    cases h
    exact kr_zret hC hr hlocks _ rfl hW dX11_fits_32
  · replace h := if_n hc4 h
    refine lv_iconst (v := 1) hx hb dX11_fits_27 (by decide) ?_
    refine lv_goto (tgt := 32) hx hb dX11_fits_28 (by decide) ?_
    cases h
    exact kr_zret hC hr hlocks _ rfl hW dX11_fits_32
set_option maxHeartbeats 4000000 in
set_option maxRecDepth 100000 in
theorem t_vs_Acts_add {l : Launch} {g : Gx} {A : Nat → Prop} {μ : Mm} {a1 : Int32} {a2 : Int32} {a3 : Int32} {u : Mm} (h : vs_Acts_add μ a1 a2 a3 = some u) : Ctv l g A wx yX0_add cX0_add 4 none 1 [.ref (ad g 6), .int a1, .int a2, .int a3] μ u := by
  refine ent (lv := [(0, .ref (ad g 6)), (1, .int a1), (2, .int a2), (3, .int a3)]) (by decide) (Nat.le_of_ble_eq_true rfl) rfl ?_
  intro p e s m args below meth c hC hr hlocks hnm hW ls hl
  replace hC : Cx g RX0 cX0_add 4 p s m args c := hC
  obtain ⟨hx, hb, hml, hown, hts, hK, hN⟩ := id hC
  unfold vs_Acts_add at h
  refine lv_aload_n hx hb dX0_add_0 rfl (lv_at hl 0 rfl) ?_
  obtain ⟨x1, hx1, h⟩ := mbv_some h
  refine kr_ci hC hW (kr_runV hC hW hl.1 (t_vs_Acts_isFull hx1) cw_X0_28 (wx_6 g μ) rfl rfl rfl (Nat.le_of_ble_eq_true rfl) dX0_add_1 (by decide)) (fun H locs hW => ?_)
  refine lv_if_eq (tgt := 8) hx hb dX0_add_4 (by decide) (fun hc2 => ?_) (fun hc2 => ?_)
  · replace h := if_p hc2 h
    refine lv_aload_n hx hb dX0_add_8 rfl (lv_at hl 0 rfl) ?_
    refine gf_X0_9_x6 hC hW dX0_add_9 ?_
    refine lv_aload_n hx hb dX0_add_12 rfl (lv_at hl 0 rfl) ?_
    refine gf_X0_24_x6 hC hW dX0_add_13 ?_
    refine lv_iload_n hx hb dX0_add_16 rfl (lv_at hl 1 rfl) ?_
    obtain ⟨μ3, eμ3, hin, h⟩ := mwr_ex h
    refine kr_iast hC hW (wx_48 g μ) (wxs_48 eμ3) hin dX0_add_17 (fun H locs hW => ?_)
    refine lv_aload_n hx hb dX0_add_18 rfl (lv_at hl 0 rfl) ?_
    refine gf_X0_15_x6 hC hW dX0_add_19 ?_
    refine lv_aload_n hx hb dX0_add_22 rfl (lv_at hl 0 rfl) ?_
    refine gf_X0_24_x6 hC hW dX0_add_23 ?_
    refine lv_iload_n hx hb dX0_add_26 rfl (lv_at hl 2 rfl) ?_
    obtain ⟨μ4, eμ4, hin, h⟩ := mwr_ex h
    refine kr_iast hC hW (wx_49 g μ3) (wxs_49 eμ4) hin dX0_add_27 (fun H locs hW => ?_)
    refine lv_aload_n hx hb dX0_add_28 rfl (lv_at hl 0 rfl) ?_
    refine gf_X0_18_x6 hC hW dX0_add_29 ?_
    refine lv_aload_n hx hb dX0_add_32 rfl (lv_at hl 0 rfl) ?_
    refine gf_X0_24_x6 hC hW dX0_add_33 ?_
    refine lv_iload_n hx hb dX0_add_36 rfl (lv_at hl 3 rfl) ?_
    obtain ⟨μ5, eμ5, hin, h⟩ := mwr_ex h
    refine kr_iast hC hW (wx_50 g μ4) (wxs_50 eμ5) hin dX0_add_37 (fun H locs hW => ?_)
    refine lv_aload_n hx hb dX0_add_38 rfl (lv_at hl 0 rfl) ?_
    refine gf_X0_21_x6 hC hW dX0_add_39 ?_
    refine lv_aload_n hx hb dX0_add_42 rfl (lv_at hl 0 rfl) ?_
    refine gf_X0_24_x6 hC hW dX0_add_43 ?_
    refine lv_iload_n hx hb dX0_add_46 rfl (lv_at hl 3 rfl) ?_
    refine lv_aload_n hx hb dX0_add_47 rfl (lv_at hl 0 rfl) ?_
    refine gf_X0_32_x6 hC hW dX0_add_48 ?_
    refine lv_iadd hx hb dX0_add_51 ?_
    obtain ⟨μ6, eμ6, hin, h⟩ := mwr_ex h
    refine kr_iast hC hW (wx_51 g μ5) (wxs_51 eμ6) hin dX0_add_52 (fun H locs hW => ?_)
    refine lv_aload_n hx hb dX0_add_53 rfl (lv_at hl 0 rfl) ?_
    refine lv_dup hx hb dX0_add_54 rfl ?_
    refine gf_X0_24_x6 hC hW dX0_add_55 ?_
    refine lv_iconst (v := 1) hx hb dX0_add_58 (by decide) ?_
    refine lv_iadd hx hb dX0_add_59 ?_
    obtain ⟨μ7, eμ7, h⟩ := mst_some h
    refine pf_X0_24_x6 hC hW eμ7 dX0_add_60 (fun H locs hW => ?_)
    cases h
    exact kr_vret hC hr hlocks hW dX0_add_63
  · replace h := if_n hc2 h
    cases h
    exact kr_vret hC hr hlocks hW dX0_add_7
set_option maxHeartbeats 4000000 in
set_option maxRecDepth 100000 in
theorem t_vs_transfer {l : Launch} {g : Gx} {A : Nat → Prop} {μ : Mm} {a1 : Int32} {a2 : Int32} {u : Mm} (h : vs_transfer μ a1 a2 = some u) : Ctv l g A wx yX11_transfer cX11_transfer 3 none 2 [.ref (ad g 0), .int a1, .int a2] μ u := by
  refine ent (lv := [(0, .ref (ad g 0)), (1, .int a1), (2, .int a2)]) (by decide) (Nat.le_of_ble_eq_true rfl) rfl ?_
  intro p e s m args below meth c hC hr hlocks hnm hW ls hl
  replace hC : Cx g RX11 cX11_transfer 3 p s m args c := hC
  obtain ⟨hx, hb, hml, hown, hts, hK, hN⟩ := id hC
  unfold vs_transfer at h
  refine lv_aload_n hx hb dX11_transfer_0 rfl (lv_at hl 0 rfl) ?_
  refine gf_X11_19_x0 hC hW dX11_transfer_1 ?_
  refine gf_X11_190_x2 hC hW dX11_transfer_4 ?_
  refine lv_iload_n hx hb dX11_transfer_7 rfl (lv_at hl 1 rfl) ?_
  refine lv_iload_n hx hb dX11_transfer_8 rfl (lv_at hl 2 rfl) ?_
  obtain ⟨μ1, eμ1, hin, h⟩ := mwr_ex h
  refine kr_iast hC hW (wx_19 g μ) (wxs_19 eμ1) hin dX11_transfer_9 (fun H locs hW => ?_)
  refine lv_aload_n hx hb dX11_transfer_10 rfl (lv_at hl 0 rfl) ?_
  refine gf_X11_47_x0 hC hW dX11_transfer_11 ?_
  refine lv_iload_n hx hb dX11_transfer_14 rfl (lv_at hl 1 rfl) ?_
  refine lv_iload_n hx hb dX11_transfer_15 rfl (lv_at hl 2 rfl) ?_
  refine lv_aload_n hx hb dX11_transfer_16 rfl (lv_at hl 0 rfl) ?_
  refine gf_X11_96_x0 hC hW dX11_transfer_17 ?_
  obtain ⟨μ3, hxμ3, h⟩ := mbv_some h
  refine kr_cv hC hW (kr_runV hC hW hl.1 (t_vs_Acts_add hxμ3) cw_X11_408 (wx_6 g μ1) rfl rfl rfl (Nat.le_of_ble_eq_true rfl) dX11_transfer_20 (by decide)) (fun H locs hW => ?_)
  cases h
  exact kr_vret hC hr hlocks hW dX11_transfer_23
set_option maxHeartbeats 4000000 in
set_option maxRecDepth 100000 in
theorem tj_vs_move_47 {μ : Mm} (a1 : Int32) (a2 : Int32) (y0 : Int32) (hC : Cx g RX11 cX11_move 5 p s m args c) (hr : meth.sig.returnType = some .boolean) (hlocks : meth.locks = false) {v : Bool} {u : Mm} (hl : lv_has ls 5 [(0, .ref (ad g 0)), (1, .int a1), (2, .int a2)]) (hW : wP g wx A s.heap μ H locs) (h : vs_move_j47 μ a1 a2 y0 = some (v, u)) : W p l e (rmD 4) s m args below meth c H locs 0 0 (MQ below (Qi g A wx (bI v) u) args s 0 0 A) (F0 m 47 ls [.int y0]) := by
  obtain ⟨hx, hb, hml, hown, hts, hK, hN⟩ := id hC
  unfold vs_move_j47 at h
  refine lv_istore_n (lv' := [(3, .int y0), (0, .ref (ad g 0)), (1, .int a1), (2, .int a2)]) hx hb dX11_move_47 rfl hl (by decide) rfl (fun ls hl => ?_)
  refine lv_aload_n hx hb dX11_move_48 rfl (lv_at hl 1 rfl) ?_
  refine gf_X11_19_x0 hC hW dX11_move_49 ?_
  refine gf_X11_190_x2 hC hW dX11_move_52 ?_
  refine lv_iload_n hx hb dX11_move_55 rfl (lv_at hl 2 rfl) ?_
  obtain ⟨x7, ex7, hin, h⟩ := mrd_ex h
  refine kr_iald hC hW (wx_19 g μ) hin ex7 dX11_move_56 ?_
  refine lv_istore (lv' := [(4, .int x7), (3, .int y0), (0, .ref (ad g 0)), (1, .int a1), (2, .int a2)]) hx hb dX11_move_57 hl (by decide) rfl (fun ls hl => ?_)
  refine lv_iload hx hb dX11_move_59 (lv_at hl 0 rfl) ?_
  refine lv_bipush (v := 10) hx hb dX11_move_61 (by decide) ?_
  refine lv_icmp_ge (tgt := 86) hx hb dX11_move_63 (by decide) (fun hc8 => ?_) (fun hc8 => ?_)
  · replace h := if_p hc8 h
    refine lv_iconst (v := 0) hx hb dX11_move_86 (by decide) ?_
    cases h
    exact kr_zret hC hr hlocks _ rfl hW dX11_move_87
  · replace h := if_n hc8 h
    refine lv_iload hx hb dX11_move_66 (lv_at hl 0 rfl) ?_
    refine lv_iload_n hx hb dX11_move_68 rfl (lv_at hl 1 rfl) ?_
    refine lv_icmp_eq (tgt := 86) hx hb dX11_move_69 (by decide) (fun hc9 => ?_) (fun hc9 => ?_)
    · replace h := if_p hc9 h
      refine lv_iconst (v := 0) hx hb dX11_move_86 (by decide) ?_
      cases h
      exact kr_zret hC hr hlocks _ rfl hW dX11_move_87
    · replace h := if_n hc9 h
      refine lv_iload_n hx hb dX11_move_72 rfl (lv_at hl 4 rfl) ?_
      refine lv_iconst (v := (-1)) hx hb dX11_move_73 (by decide) ?_
      refine lv_icmp_eq (tgt := 88) hx hb dX11_move_74 (by decide) (fun hc10 => ?_) (fun hc10 => ?_)
      · replace h := if_p hc10 h
        refine lv_aload_n hx hb dX11_move_88 rfl (lv_at hl 2 rfl) ?_
        refine lv_iload_n hx hb dX11_move_89 rfl (lv_at hl 3 rfl) ?_
        refine lv_iload_n hx hb dX11_move_90 rfl (lv_at hl 1 rfl) ?_
        obtain ⟨μ12, hxμ12, h⟩ := mbv_some h
        refine kr_cv hC hW (kr_runV hC hW hl.1 (t_vs_transfer hxμ12) cw_X11_196 (wx_0 g μ) rfl rfl rfl (Nat.le_of_ble_eq_true rfl) dX11_move_91 (by decide)) (fun H locs hW => ?_)
        refine lv_iconst (v := 1) hx hb dX11_move_94 (by decide) ?_
        cases h
        exact kr_zret hC hr hlocks _ rfl hW dX11_move_95
      · replace h := if_n hc10 h
        refine lv_aload_n hx hb dX11_move_77 rfl (lv_at hl 2 rfl) ?_
        refine lv_iload_n hx hb dX11_move_78 rfl (lv_at hl 3 rfl) ?_
        refine lv_iload_n hx hb dX11_move_79 rfl (lv_at hl 4 rfl) ?_
        obtain ⟨x13, hx13, h⟩ := mbv_some h
        refine kr_ci hC hW (kr_runV hC hW hl.1 (t_vs_fits hx13) cw_X11_193 (wx_0 g μ) rfl rfl rfl (Nat.le_of_ble_eq_true rfl) dX11_move_80 (by decide)) (fun H locs hW => ?_)
        refine lv_if_ne (tgt := 88) hx hb dX11_move_83 (by decide) (fun hc14 => ?_) (fun hc14 => ?_)
        · replace h := if_n hc14 h
          refine lv_aload_n hx hb dX11_move_88 rfl (lv_at hl 2 rfl) ?_
          refine lv_iload_n hx hb dX11_move_89 rfl (lv_at hl 3 rfl) ?_
          refine lv_iload_n hx hb dX11_move_90 rfl (lv_at hl 1 rfl) ?_
          obtain ⟨μ16, hxμ16, h⟩ := mbv_some h
          refine kr_cv hC hW (kr_runV hC hW hl.1 (t_vs_transfer hxμ16) cw_X11_196 (wx_0 g μ) rfl rfl rfl (Nat.le_of_ble_eq_true rfl) dX11_move_91 (by decide)) (fun H locs hW => ?_)
          refine lv_iconst (v := 1) hx hb dX11_move_94 (by decide) ?_
          cases h
          exact kr_zret hC hr hlocks _ rfl hW dX11_move_95
        · replace h := if_p hc14 h
          refine lv_iconst (v := 0) hx hb dX11_move_86 (by decide) ?_
          cases h
          exact kr_zret hC hr hlocks _ rfl hW dX11_move_87
set_option maxHeartbeats 4000000 in
set_option maxRecDepth 100000 in
theorem tj_vs_move_23 {μ : Mm} (a1 : Int32) (a2 : Int32) (hC : Cx g RX11 cX11_move 5 p s m args c) (hr : meth.sig.returnType = some .boolean) (hlocks : meth.locks = false) {v : Bool} {u : Mm} (hl : lv_has ls 5 [(0, .ref (ad g 0)), (1, .int a1), (2, .int a2)]) (hW : wP g wx A s.heap μ H locs) (h : vs_move_j23 μ a1 a2 = some (v, u)) : W p l e (rmD 4) s m args below meth c H locs 0 0 (MQ below (Qi g A wx (bI v) u) args s 0 0 A) (F0 m 23 ls []) := by
  obtain ⟨hx, hb, hml, hown, hts, hK, hN⟩ := id hC
  unfold vs_move_j23 at h
  refine lv_aload_n hx hb dX11_move_23 rfl (lv_at hl 0 rfl) ?_
  refine gf_X11_47_x0 hC hW dX11_move_24 ?_
  obtain ⟨x4, hx4, h⟩ := mbv_some h
  refine kr_ci hC hW (kr_runV hC hW hl.1 (t_vs_Acts_isFull hx4) cw_X11_186 (wx_6 g μ) rfl rfl rfl (Nat.le_of_ble_eq_true rfl) dX11_move_27 (by decide)) (fun H locs hW => ?_)
  refine lv_if_eq (tgt := 35) hx hb dX11_move_30 (by decide) (fun hc5 => ?_) (fun hc5 => ?_)
  · replace h := if_p hc5 h
    refine lv_iload_n hx hb dX11_move_35 rfl (lv_at hl 2 rfl) ?_
    refine lv_iconst (v := (-1)) hx hb dX11_move_36 (by decide) ?_
    refine lv_icmp_ne (tgt := 44) hx hb dX11_move_37 (by decide) (fun hc6 => ?_) (fun hc6 => ?_)
    · replace h := if_n hc6 h
      refine lv_iconst (v := 1) hx hb dX11_move_44 (by decide) ?_
      refine lv_iload_n hx hb dX11_move_45 rfl (lv_at hl 2 rfl) ?_
      refine lv_iadd hx hb dX11_move_46 ?_
      exact tj_vs_move_47 a1 a2 (1 + a2) hC hr hlocks (lv_sub hl [0, 1, 2] rfl) hW h
    · replace h := if_p hc6 h
      refine lv_iconst (v := 0) hx hb dX11_move_40 (by decide) ?_
      refine lv_goto (tgt := 47) hx hb dX11_move_41 (by decide) ?_
      exact tj_vs_move_47 a1 a2 0 hC hr hlocks (lv_sub hl [0, 1, 2] rfl) hW h
  · replace h := if_n hc5 h
    refine lv_iconst (v := 0) hx hb dX11_move_33 (by decide) ?_
    cases h
    exact kr_zret hC hr hlocks _ rfl hW dX11_move_34
set_option maxHeartbeats 4000000 in
set_option maxRecDepth 100000 in
theorem t_vs_move {l : Launch} {g : Gx} {A : Nat → Prop} {μ : Mm} {a1 : Int32} {a2 : Int32} {v : Bool} {u : Mm} (h : vs_move μ a1 a2 = some (v, u)) : Cti l g A wx yX11_move cX11_move 5 (some .boolean) 4 [.ref (ad g 0), .int a1, .int a2] μ (bI v) u := by
  refine ent (lv := [(0, .ref (ad g 0)), (1, .int a1), (2, .int a2)]) (by decide) (Nat.le_of_ble_eq_true rfl) rfl ?_
  intro p e s m args below meth c hC hr hlocks hnm hW ls hl
  replace hC : Cx g RX11 cX11_move 5 p s m args c := hC
  obtain ⟨hx, hb, hml, hown, hts, hK, hN⟩ := id hC
  unfold vs_move at h
  refine lv_aload_n hx hb dX11_move_0 rfl (lv_at hl 0 rfl) ?_
  refine gf_X11_19_x0 hC hW dX11_move_1 ?_
  refine lv_iload_n hx hb dX11_move_4 rfl (lv_at hl 1 rfl) ?_
  obtain ⟨x1, hx1, h⟩ := mbv_some h
  refine kr_ci hC hW (kr_runV hC hW hl.1 (t_vs_Books_has hx1) cw_X11_185 (wx_2 g μ) rfl rfl rfl (Nat.le_of_ble_eq_true rfl) dX11_move_5 (by decide)) (fun H locs hW => ?_)
  refine lv_if_eq (tgt := 33) hx hb dX11_move_8 (by decide) (fun hc2 => ?_) (fun hc2 => ?_)
  · replace h := if_p hc2 h
    refine lv_iconst (v := 0) hx hb dX11_move_33 (by decide) ?_
    cases h
    exact kr_zret hC hr hlocks _ rfl hW dX11_move_34
  · replace h := if_n hc2 h
    refine lv_iload_n hx hb dX11_move_11 rfl (lv_at hl 2 rfl) ?_
    refine lv_iconst (v := (-1)) hx hb dX11_move_12 (by decide) ?_
    refine lv_icmp_eq (tgt := 23) hx hb dX11_move_13 (by decide) (fun hc3 => ?_) (fun hc3 => ?_)
    · replace h := if_p hc3 h
      exact tj_vs_move_23 a1 a2 hC hr hlocks (lv_sub hl [0, 1, 2] rfl) hW h
    · replace h := if_n hc3 h
      refine lv_iload_n hx hb dX11_move_16 rfl (lv_at hl 2 rfl) ?_
      obtain ⟨x17, hx17, h⟩ := mbv_some h
      refine kr_ci hC hW (kr_runS hC hW hl.1 (t_vs_isVan hx17) cw_X11_108 rfl rfl (Nat.le_of_ble_eq_true rfl) dX11_move_17 (by decide)) (fun H locs hW => ?_)
      refine lv_if_eq (tgt := 33) hx hb dX11_move_20 (by decide) (fun hc18 => ?_) (fun hc18 => ?_)
      · replace h := if_p hc18 h
        refine lv_iconst (v := 0) hx hb dX11_move_33 (by decide) ?_
        cases h
        exact kr_zret hC hr hlocks _ rfl hW dX11_move_34
      · replace h := if_n hc18 h
        exact tj_vs_move_23 a1 a2 hC hr hlocks (lv_sub hl [0, 1, 2] rfl) hW h
set_option maxHeartbeats 4000000 in
set_option maxRecDepth 100000 in
theorem t_vs_Wishes_daysLent {l : Launch} {g : Gx} {A : Nat → Prop} {μ : Mm} {a1 : Int32} {a2 : Int32} {a3 : Int32} {v : Int32} {u : Mm} (h : vs_Wishes_daysLent μ a1 a2 a3 = some (v, u)) : Cti l g A wx yX10_daysLent cX10_daysLent 4 (some .int) 4 [.ref (ad g 7), .int a1, .int a2, .int a3] μ v u := by
  refine ent (lv := [(0, .ref (ad g 7)), (1, .int a1), (2, .int a2), (3, .int a3)]) (by decide) (Nat.le_of_ble_eq_true rfl) rfl ?_
  intro p e s m args below meth c hC hr hlocks hnm hW ls hl
  replace hC : Cx g RX10 cX10_daysLent 4 p s m args c := hC
  obtain ⟨hx, hb, hml, hown, hts, hK, hN⟩ := id hC
  unfold vs_Wishes_daysLent at h
  refine lv_aload_n hx hb dX10_daysLent_0 rfl (lv_at hl 0 rfl) ?_
  refine lv_iload_n hx hb dX10_daysLent_1 rfl (lv_at hl 1 rfl) ?_
  refine lv_iload_n hx hb dX10_daysLent_2 rfl (lv_at hl 2 rfl) ?_
  refine lv_iconst (v := 0) hx hb dX10_daysLent_3 (by decide) ?_
  refine lv_iload_n hx hb dX10_daysLent_4 rfl (lv_at hl 3 rfl) ?_
  obtain ⟨μ2, hxμ2, h⟩ := mbv_some h
  refine kr_cv hC hW (kr_runV hC hW hl.1 (t_vs_Wishes_look hxμ2) cw_X10_46 (wx_7 g μ) rfl rfl rfl (Nat.le_of_ble_eq_true rfl) dX10_daysLent_5 (by decide)) (fun H locs hW => ?_)
  refine lv_aload_n hx hb dX10_daysLent_8 rfl (lv_at hl 0 rfl) ?_
  refine gf_X10_18_x7 hC hW dX10_daysLent_9 ?_
  refine lv_bipush (v := 100) hx hb dX10_daysLent_12 (by decide) ?_
  refine lv_aload_n hx hb dX10_daysLent_14 rfl (lv_at hl 0 rfl) ?_
  refine gf_X10_9_x7 hC hW dX10_daysLent_15 ?_
  refine lv_bipush (v := 14) hx hb dX10_daysLent_18 (by decide) ?_
  obtain ⟨x3, μ4, hx3, h⟩ := mbm_some h
  refine kr_ci hC hW (kr_runV hC hW hl.1 (t_vs_Law_answer hx3) cw_X10_50 (wx_10 g μ2) rfl rfl rfl (Nat.le_of_ble_eq_true rfl) dX10_daysLent_20 (by decide)) (fun H locs hW => ?_)
  refine lv_iconst (v := 1) hx hb dX10_daysLent_23 (by decide) ?_
  refine lv_bipush (v := 60) hx hb dX10_daysLent_24 (by decide) ?_
  obtain ⟨x5, hx5, h⟩ := mbv_some h
  refine kr_ci hC hW (kr_runS hC hW hl.1 (t_vs_Wishes_bounded hx5) cw_X10_54 rfl rfl (Nat.le_of_ble_eq_true rfl) dX10_daysLent_26 (by decide)) (fun H locs hW => ?_)
  cases h
  exact kr_iret hC hr hlocks hW dX10_daysLent_29
set_option maxHeartbeats 4000000 in
set_option maxRecDepth 100000 in
theorem t_vs_Asks_dayOf {l : Launch} {g : Gx} {A : Nat → Prop} {μ : Mm} {a1 : Int32} {a2 : Int32} {v : Int32} (h : vs_Asks_dayOf μ a1 a2 = some v) : Cti l g A wx yX1_dayOf cX1_dayOf 3 (some .int) 0 [.ref (ad g 5), .int a1, .int a2] μ v μ := by
  refine ent (lv := [(0, .ref (ad g 5)), (1, .int a1), (2, .int a2)]) (by decide) (Nat.le_of_ble_eq_true rfl) rfl ?_
  intro p e s m args below meth c hC hr hlocks hnm hW ls hl
  replace hC : Cx g RX1 cX1_dayOf 3 p s m args c := hC
  obtain ⟨hx, hb, hml, hown, hts, hK, hN⟩ := id hC
  unfold vs_Asks_dayOf at h
  refine lv_aload_n hx hb dX1_dayOf_0 rfl (lv_at hl 0 rfl) ?_
  refine gf_X1_9_x5 hC hW dX1_dayOf_1 ?_
  refine lv_iload_n hx hb dX1_dayOf_4 rfl (lv_at hl 1 rfl) ?_
  refine lv_bipush (v := 32) hx hb dX1_dayOf_5 (by decide) ?_
  refine lv_imul hx hb dX1_dayOf_7 ?_
  refine lv_iload_n hx hb dX1_dayOf_8 rfl (lv_at hl 2 rfl) ?_
  refine lv_iadd hx hb dX1_dayOf_9 ?_
  obtain ⟨x1, ex1, hin, h⟩ := mrd_ex h
  refine kr_iald hC hW (wx_44 g μ) hin ex1 dX1_dayOf_10 ?_
  cases h
  exact kr_iret hC hr hlocks hW dX1_dayOf_11
set_option maxHeartbeats 4000000 in
set_option maxRecDepth 100000 in
theorem t_vs_Asks_remove {l : Launch} {g : Gx} {A : Nat → Prop} {μ : Mm} {a1 : Int32} {a2 : Int32} {v : Bool} {u : Mm} (h : vs_Asks_remove μ a1 a2 = some (v, u)) : Cti l g A wx yX1_remove cX1_remove 3 (some .boolean) 1 [.ref (ad g 5), .int a1, .int a2] μ (bI v) u := by
  refine ent (lv := [(0, .ref (ad g 5)), (1, .int a1), (2, .int a2)]) (by decide) (Nat.le_of_ble_eq_true rfl) rfl ?_
  intro p e s m args below meth c hC hr hlocks hnm hW ls hl
  replace hC : Cx g RX1 cX1_remove 3 p s m args c := hC
  obtain ⟨hx, hb, hml, hown, hts, hK, hN⟩ := id hC
  unfold vs_Asks_remove at h
  refine lv_aload_n hx hb dX1_remove_0 rfl (lv_at hl 0 rfl) ?_
  refine lv_iload_n hx hb dX1_remove_1 rfl (lv_at hl 1 rfl) ?_
  refine lv_iload_n hx hb dX1_remove_2 rfl (lv_at hl 2 rfl) ?_
  obtain ⟨x1, hx1, h⟩ := mbv_some h
  refine kr_ci hC hW (kr_runV hC hW hl.1 (t_vs_Asks_dayOf hx1) cw_X1_34 (wx_5 g μ) rfl rfl rfl (Nat.le_of_ble_eq_true rfl) dX1_remove_3 (by decide)) (fun H locs hW => ?_)
  refine lv_iconst (v := (-1)) hx hb dX1_remove_6 (by decide) ?_
  refine lv_icmp_ne (tgt := 12) hx hb dX1_remove_7 (by decide) (fun hc2 => ?_) (fun hc2 => ?_)
  · replace h := if_n hc2 h
    refine lv_aload_n hx hb dX1_remove_12 rfl (lv_at hl 0 rfl) ?_
    refine gf_X1_9_x5 hC hW dX1_remove_13 ?_
    refine lv_iload_n hx hb dX1_remove_16 rfl (lv_at hl 1 rfl) ?_
    refine lv_bipush (v := 32) hx hb dX1_remove_17 (by decide) ?_
    refine lv_imul hx hb dX1_remove_19 ?_
    refine lv_iload_n hx hb dX1_remove_20 rfl (lv_at hl 2 rfl) ?_
    refine lv_iadd hx hb dX1_remove_21 ?_
    refine lv_iconst (v := (-1)) hx hb dX1_remove_22 (by decide) ?_
    obtain ⟨μ3, eμ3, hin, h⟩ := mwr_ex h
    refine kr_iast hC hW (wx_44 g μ) (wxs_44 eμ3) hin dX1_remove_23 (fun H locs hW => ?_)
    refine lv_aload_n hx hb dX1_remove_24 rfl (lv_at hl 0 rfl) ?_
    refine lv_dup hx hb dX1_remove_25 rfl ?_
    refine gf_X1_30_x5 hC hW dX1_remove_26 ?_
    refine lv_iconst (v := 1) hx hb dX1_remove_29 (by decide) ?_
    refine lv_isub hx hb dX1_remove_30 ?_
    obtain ⟨μ4, eμ4, h⟩ := mst_some h
    refine pf_X1_30_x5 hC hW eμ4 dX1_remove_31 (fun H locs hW => ?_)
    refine lv_iconst (v := 1) hx hb dX1_remove_34 (by decide) ?_
    cases h
    exact kr_zret hC hr hlocks _ rfl hW dX1_remove_35
  · replace h := if_p hc2 h
    refine lv_iconst (v := 0) hx hb dX1_remove_10 (by decide) ?_
    cases h
    exact kr_zret hC hr hlocks _ rfl hW dX1_remove_11
set_option maxHeartbeats 4000000 in
set_option maxRecDepth 100000 in
theorem t_vs_lend {l : Launch} {g : Gx} {A : Nat → Prop} {μ : Mm} {a1 : Int32} {a2 : Int32} {v : Int32} {u : Mm} (h : vs_lend μ a1 a2 = some (v, u)) : Cti l g A wx yX11_lend cX11_lend 5 (some .int) 5 [.ref (ad g 0), .int a1, .int a2] μ v u := by
  refine ent (lv := [(0, .ref (ad g 0)), (1, .int a1), (2, .int a2)]) (by decide) (Nat.le_of_ble_eq_true rfl) rfl ?_
  intro p e s m args below meth c hC hr hlocks hnm hW ls hl
  replace hC : Cx g RX11 cX11_lend 5 p s m args c := hC
  obtain ⟨hx, hb, hml, hown, hts, hK, hN⟩ := id hC
  unfold vs_lend at h
  refine lv_aload_n hx hb dX11_lend_0 rfl (lv_at hl 0 rfl) ?_
  refine lv_iload_n hx hb dX11_lend_1 rfl (lv_at hl 2 rfl) ?_
  refine lv_iload_n hx hb dX11_lend_2 rfl (lv_at hl 1 rfl) ?_
  obtain ⟨x1, hx1, h⟩ := mbv_some h
  refine kr_ci hC hW (kr_runV hC hW hl.1 (t_vs_isPair hx1) cw_X11_135 (wx_0 g μ) rfl rfl rfl (Nat.le_of_ble_eq_true rfl) dX11_lend_3 (by decide)) (fun H locs hW => ?_)
  refine lv_if_eq (tgt := 19) hx hb dX11_lend_6 (by decide) (fun hc2 => ?_) (fun hc2 => ?_)
  · replace h := if_p hc2 h
    refine lv_iconst (v := (-1)) hx hb dX11_lend_19 (by decide) ?_
    cases h
    exact kr_iret hC hr hlocks hW dX11_lend_20
  · replace h := if_n hc2 h
    refine lv_aload_n hx hb dX11_lend_9 rfl (lv_at hl 0 rfl) ?_
    refine gf_X11_47_x0 hC hW dX11_lend_10 ?_
    obtain ⟨x3, hx3, h⟩ := mbv_some h
    refine kr_ci hC hW (kr_runV hC hW hl.1 (t_vs_Acts_isFull hx3) cw_X11_186 (wx_6 g μ) rfl rfl rfl (Nat.le_of_ble_eq_true rfl) dX11_lend_13 (by decide)) (fun H locs hW => ?_)
    refine lv_if_eq (tgt := 21) hx hb dX11_lend_16 (by decide) (fun hc4 => ?_) (fun hc4 => ?_)
    · replace h := if_p hc4 h
      refine lv_aload_n hx hb dX11_lend_21 rfl (lv_at hl 0 rfl) ?_
      refine gf_X11_19_x0 hC hW dX11_lend_22 ?_
      refine lv_iload_n hx hb dX11_lend_25 rfl (lv_at hl 1 rfl) ?_
      obtain ⟨x5, hx5, h⟩ := mbv_some h
      refine kr_ci hC hW (kr_runV hC hW hl.1 (t_vs_Books_vanOf hx5) cw_X11_199 (wx_2 g μ) rfl rfl rfl (Nat.le_of_ble_eq_true rfl) dX11_lend_26 (by decide)) (fun H locs hW => ?_)
      refine lv_istore_n (lv' := [(3, .int x5), (0, .ref (ad g 0)), (1, .int a1), (2, .int a2)]) hx hb dX11_lend_29 rfl hl (by decide) rfl (fun ls hl => ?_)
      refine lv_iload_n hx hb dX11_lend_30 rfl (lv_at hl 0 rfl) ?_
      refine lv_iconst (v := (-1)) hx hb dX11_lend_31 (by decide) ?_
      refine lv_icmp_eq (tgt := 59) hx hb dX11_lend_32 (by decide) (fun hc6 => ?_) (fun hc6 => ?_)
      · replace h := if_p hc6 h
        refine lv_iconst (v := (-1)) hx hb dX11_lend_59 (by decide) ?_
        cases h
        exact kr_iret hC hr hlocks hW dX11_lend_60
      · replace h := if_n hc6 h
        refine lv_aload_n hx hb dX11_lend_35 rfl (lv_at hl 1 rfl) ?_
        refine gf_X11_33_x0 hC hW dX11_lend_36 ?_
        refine lv_iload_n hx hb dX11_lend_39 rfl (lv_at hl 0 rfl) ?_
        refine lv_aload_n hx hb dX11_lend_40 rfl (lv_at hl 1 rfl) ?_
        refine gf_X11_26_x0 hC hW dX11_lend_41 ?_
        refine gf_X11_202_x3 hC hW dX11_lend_44 ?_
        refine lv_iload_n hx hb dX11_lend_47 rfl (lv_at hl 3 rfl) ?_
        obtain ⟨x7, ex7, hin, h⟩ := mrd_ex h
        refine kr_iald hC hW (wx_25 g μ) hin ex7 dX11_lend_48 ?_
        refine lv_aload_n hx hb dX11_lend_49 rfl (lv_at hl 1 rfl) ?_
        refine gf_X11_96_x0 hC hW dX11_lend_50 ?_
        obtain ⟨x8, hx8, h⟩ := mbv_some h
        refine kr_ci hC hW (kr_runV hC hW hl.1 (t_vs_Stops_goesTo hx8) cw_X11_182 (wx_4 g μ) rfl rfl rfl (Nat.le_of_ble_eq_true rfl) dX11_lend_53 (by decide)) (fun H locs hW => ?_)
        refine lv_if_ne (tgt := 61) hx hb dX11_lend_56 (by decide) (fun hc9 => ?_) (fun hc9 => ?_)
        · replace h := if_n hc9 h
          refine lv_aload_n hx hb dX11_lend_61 rfl (lv_at hl 1 rfl) ?_
          refine gf_X11_96_x0 hC hW dX11_lend_62 ?_
          refine lv_aload_n hx hb dX11_lend_65 rfl (lv_at hl 1 rfl) ?_
          refine gf_X11_56_x0 hC hW dX11_lend_66 ?_
          refine lv_iload_n hx hb dX11_lend_69 rfl (lv_at hl 3 rfl) ?_
          refine lv_iload_n hx hb dX11_lend_70 rfl (lv_at hl 2 rfl) ?_
          refine lv_aload_n hx hb dX11_lend_71 rfl (lv_at hl 1 rfl) ?_
          refine gf_X11_96_x0 hC hW dX11_lend_72 ?_
          obtain ⟨x10, μ11, hx10, h⟩ := mbm_some h
          refine kr_ci hC hW (kr_runV hC hW hl.1 (t_vs_Wishes_daysLent hx10) cw_X11_205 (wx_7 g μ) rfl rfl rfl (Nat.le_of_ble_eq_true rfl) dX11_lend_75 (by decide)) (fun H locs hW => ?_)
          refine lv_iadd hx hb dX11_lend_78 ?_
          refine lv_istore (lv' := [(4, .int ((μ 0 12) + x10)), (3, .int x5), (0, .ref (ad g 0)), (1, .int a1), (2, .int a2)]) hx hb dX11_lend_79 hl (by decide) rfl (fun ls hl => ?_)
          refine lv_aload_n hx hb dX11_lend_81 rfl (lv_at hl 2 rfl) ?_
          refine lv_iload_n hx hb dX11_lend_82 rfl (lv_at hl 3 rfl) ?_
          refine lv_bipush (v := 10) hx hb dX11_lend_83 (by decide) ?_
          refine lv_iload_n hx hb dX11_lend_85 rfl (lv_at hl 4 rfl) ?_
          refine lv_iadd hx hb dX11_lend_86 ?_
          obtain ⟨μ13, hxμ13, h⟩ := mbv_some h
          refine kr_cv hC hW (kr_runV hC hW hl.1 (t_vs_transfer hxμ13) cw_X11_196 (wx_0 g μ11) rfl rfl rfl (Nat.le_of_ble_eq_true rfl) dX11_lend_87 (by decide)) (fun H locs hW => ?_)
          refine lv_aload_n hx hb dX11_lend_90 rfl (lv_at hl 2 rfl) ?_
          refine gf_X11_19_x0 hC hW dX11_lend_91 ?_
          refine gf_X11_208_x2 hC hW dX11_lend_94 ?_
          refine lv_iload_n hx hb dX11_lend_97 rfl (lv_at hl 3 rfl) ?_
          refine lv_iload hx hb dX11_lend_98 (lv_at hl 0 rfl) ?_
          obtain ⟨μ14, eμ14, hin, h⟩ := mwr_ex h
          refine kr_iast hC hW (wx_20 g μ13) (wxs_20 eμ14) hin dX11_lend_100 (fun H locs hW => ?_)
          refine lv_aload_n hx hb dX11_lend_101 rfl (lv_at hl 2 rfl) ?_
          refine gf_X11_19_x0 hC hW dX11_lend_102 ?_
          refine gf_X11_211_x2 hC hW dX11_lend_105 ?_
          refine lv_iload_n hx hb dX11_lend_108 rfl (lv_at hl 3 rfl) ?_
          refine lv_dup2_11 hx hb dX11_lend_109 rfl rfl ?_
          obtain ⟨x15, ex15, hin, h⟩ := mrd_ex h
          refine kr_iald hC hW (wx_21 g μ14) hin ex15 dX11_lend_110 ?_
          refine lv_iconst (v := 1) hx hb dX11_lend_111 (by decide) ?_
          refine lv_iadd hx hb dX11_lend_112 ?_
          obtain ⟨μ16, eμ16, hin, h⟩ := mwr_ex h
          refine kr_iast hC hW (wx_21 g μ14) (wxs_21 eμ16) hin dX11_lend_113 (fun H locs hW => ?_)
          refine lv_aload_n hx hb dX11_lend_114 rfl (lv_at hl 2 rfl) ?_
          refine gf_X11_26_x0 hC hW dX11_lend_115 ?_
          refine gf_X11_214_x3 hC hW dX11_lend_118 ?_
          refine lv_iload_n hx hb dX11_lend_121 rfl (lv_at hl 4 rfl) ?_
          refine lv_dup2_11 hx hb dX11_lend_122 rfl rfl ?_
          obtain ⟨x17, ex17, hin, h⟩ := mrd_ex h
          refine kr_iald hC hW (wx_30 g μ16) hin ex17 dX11_lend_123 ?_
          refine lv_iconst (v := 1) hx hb dX11_lend_124 (by decide) ?_
          refine lv_iadd hx hb dX11_lend_125 ?_
          obtain ⟨μ18, eμ18, hin, h⟩ := mwr_ex h
          refine kr_iast hC hW (wx_30 g μ16) (wxs_30 eμ18) hin dX11_lend_126 (fun H locs hW => ?_)
          refine lv_aload_n hx hb dX11_lend_127 rfl (lv_at hl 2 rfl) ?_
          refine gf_X11_26_x0 hC hW dX11_lend_128 ?_
          refine gf_X11_215_x3 hC hW dX11_lend_131 ?_
          refine lv_iload_n hx hb dX11_lend_134 rfl (lv_at hl 4 rfl) ?_
          refine lv_dup2_11 hx hb dX11_lend_135 rfl rfl ?_
          obtain ⟨x19, ex19, hin, h⟩ := mrd_ex h
          refine kr_iald hC hW (wx_29 g μ18) hin ex19 dX11_lend_136 ?_
          refine lv_iconst (v := 1) hx hb dX11_lend_137 (by decide) ?_
          refine lv_iadd hx hb dX11_lend_138 ?_
          obtain ⟨μ20, eμ20, hin, h⟩ := mwr_ex h
          refine kr_iast hC hW (wx_29 g μ18) (wxs_29 eμ20) hin dX11_lend_139 (fun H locs hW => ?_)
          refine lv_aload_n hx hb dX11_lend_140 rfl (lv_at hl 2 rfl) ?_
          refine gf_X11_86_x0 hC hW dX11_lend_141 ?_
          refine lv_iload_n hx hb dX11_lend_144 rfl (lv_at hl 1 rfl) ?_
          refine lv_dup2_11 hx hb dX11_lend_145 rfl rfl ?_
          obtain ⟨x21, ex21, hin, h⟩ := mrd_ex h
          refine kr_iald hC hW (wx_13 g μ20) hin ex21 dX11_lend_146 ?_
          refine lv_iconst (v := 1) hx hb dX11_lend_147 (by decide) ?_
          refine lv_iadd hx hb dX11_lend_148 ?_
          obtain ⟨μ22, eμ22, hin, h⟩ := mwr_ex h
          refine kr_iast hC hW (wx_13 g μ20) (wxs_13 eμ22) hin dX11_lend_149 (fun H locs hW => ?_)
          refine lv_aload_n hx hb dX11_lend_150 rfl (lv_at hl 2 rfl) ?_
          refine lv_iload_n hx hb dX11_lend_151 rfl (lv_at hl 4 rfl) ?_
          refine lv_iload_n hx hb dX11_lend_152 rfl (lv_at hl 3 rfl) ?_
          obtain ⟨μ24, hxμ24, h⟩ := mbv_some h
          refine kr_cv hC hW (kr_runV hC hW hl.1 (t_vs_remember hxμ24) cw_X11_142 (wx_0 g μ22) rfl rfl rfl (Nat.le_of_ble_eq_true rfl) dX11_lend_153 (by decide)) (fun H locs hW => ?_)
          refine lv_aload_n hx hb dX11_lend_156 rfl (lv_at hl 2 rfl) ?_
          refine gf_X11_40_x0 hC hW dX11_lend_157 ?_
          refine lv_iload_n hx hb dX11_lend_160 rfl (lv_at hl 4 rfl) ?_
          refine lv_iload_n hx hb dX11_lend_161 rfl (lv_at hl 3 rfl) ?_
          obtain ⟨x25, μ26, hx25, h⟩ := mbm_some h
          refine kr_ci hC hW (kr_runV hC hW hl.1 (t_vs_Asks_remove hx25) cw_X11_218 (wx_5 g μ24) rfl rfl rfl (Nat.le_of_ble_eq_true rfl) dX11_lend_162 (by decide)) (fun H locs hW => ?_)
          refine lv_pop hx hb dX11_lend_165 rfl ?_
          refine lv_iload hx hb dX11_lend_166 (lv_at hl 0 rfl) ?_
          cases h
          exact kr_iret hC hr hlocks hW dX11_lend_168
        · replace h := if_p hc9 h
          refine lv_iconst (v := (-1)) hx hb dX11_lend_59 (by decide) ?_
          cases h
          exact kr_iret hC hr hlocks hW dX11_lend_60
    · replace h := if_n hc4 h
      refine lv_iconst (v := (-1)) hx hb dX11_lend_19 (by decide) ?_
      cases h
      exact kr_iret hC hr hlocks hW dX11_lend_20
set_option maxHeartbeats 4000000 in
set_option maxRecDepth 100000 in
theorem t_vs_Books_holder {l : Launch} {g : Gx} {A : Nat → Prop} {μ : Mm} {a1 : Int32} {v : Int32} (h : vs_Books_holder μ a1 = some v) : Cti l g A wx yX2_holder cX2_holder 2 (some .int) 1 [.ref (ad g 2), .int a1] μ v μ := by
  refine ent (lv := [(0, .ref (ad g 2)), (1, .int a1)]) (by decide) (Nat.le_of_ble_eq_true rfl) rfl ?_
  intro p e s m args below meth c hC hr hlocks hnm hW ls hl
  replace hC : Cx g RX2 cX2_holder 2 p s m args c := hC
  obtain ⟨hx, hb, hml, hown, hts, hK, hN⟩ := id hC
  unfold vs_Books_holder at h
  refine lv_aload_n hx hb dX2_holder_0 rfl (lv_at hl 0 rfl) ?_
  refine gf_X2_24_x2 hC hW dX2_holder_1 ?_
  refine lv_iload_n hx hb dX2_holder_4 rfl (lv_at hl 1 rfl) ?_
  obtain ⟨x1, ex1, hin, h⟩ := mrd_ex h
  refine kr_iald hC hW (wx_19 g μ) hin ex1 dX2_holder_5 ?_
  refine lv_bipush (v := 10) hx hb dX2_holder_6 (by decide) ?_
  refine lv_bipush (v := 25) hx hb dX2_holder_8 (by decide) ?_
  obtain ⟨x2, hx2, h⟩ := mbv_some h
  refine kr_ci hC hW (kr_runN hC hW hl.1 (t_vs_within hx2) cw_X2_46 rfl rfl (Nat.le_of_ble_eq_true rfl) dX2_holder_10 (by decide)) (fun H locs hW => ?_)
  refine lv_if_eq (tgt := 28) hx hb dX2_holder_13 (by decide) (fun hc3 => ?_) (fun hc3 => ?_)
  · replace h := if_p hc3 h
    refine lv_iconst (v := (-1)) hx hb dX2_holder_28 (by decide) ?_
    cases h
    exact kr_iret hC hr hlocks hW dX2_holder_29
  · replace h := if_n hc3 h
    refine lv_aload_n hx hb dX2_holder_16 rfl (lv_at hl 0 rfl) ?_
    refine gf_X2_24_x2 hC hW dX2_holder_17 ?_
    refine lv_iload_n hx hb dX2_holder_20 rfl (lv_at hl 1 rfl) ?_
    obtain ⟨x4, ex4, hin, h⟩ := mrd_ex h
    refine kr_iald hC hW (wx_19 g μ) hin ex4 dX2_holder_21 ?_
    refine lv_bipush (v := 10) hx hb dX2_holder_22 (by decide) ?_
    refine lv_isub hx hb dX2_holder_24 ?_
    refine lv_goto (tgt := 29) hx hb dX2_holder_25 (by decide) ?_
    cases h
    exact kr_iret hC hr hlocks hW dX2_holder_29
set_option maxHeartbeats 4000000 in
set_option maxRecDepth 100000 in
theorem t_vs_Wishes_fine {l : Launch} {g : Gx} {A : Nat → Prop} {μ : Mm} {a1 : Int32} {a2 : Int32} {a3 : Int32} {v : Int32} {u : Mm} (h : vs_Wishes_fine μ a1 a2 a3 = some (v, u)) : Cti l g A wx yX10_fine cX10_fine 4 (some .int) 4 [.ref (ad g 7), .int a1, .int a2, .int a3] μ v u := by
  refine ent (lv := [(0, .ref (ad g 7)), (1, .int a1), (2, .int a2), (3, .int a3)]) (by decide) (Nat.le_of_ble_eq_true rfl) rfl ?_
  intro p e s m args below meth c hC hr hlocks hnm hW ls hl
  replace hC : Cx g RX10 cX10_fine 4 p s m args c := hC
  obtain ⟨hx, hb, hml, hown, hts, hK, hN⟩ := id hC
  unfold vs_Wishes_fine at h
  refine lv_aload_n hx hb dX10_fine_0 rfl (lv_at hl 0 rfl) ?_
  refine lv_iload_n hx hb dX10_fine_1 rfl (lv_at hl 1 rfl) ?_
  refine lv_iload_n hx hb dX10_fine_2 rfl (lv_at hl 2 rfl) ?_
  refine lv_iconst (v := 0) hx hb dX10_fine_3 (by decide) ?_
  refine lv_iload_n hx hb dX10_fine_4 rfl (lv_at hl 3 rfl) ?_
  refine lv_aload_n hx hb dX10_fine_5 rfl (lv_at hl 0 rfl) ?_
  refine gf_X10_22_x7 hC hW dX10_fine_6 ?_
  refine gf_X10_58_x2 hC hW dX10_fine_9 ?_
  refine lv_iload_n hx hb dX10_fine_12 rfl (lv_at hl 2 rfl) ?_
  obtain ⟨x1, ex1, hin, h⟩ := mrd_ex h
  refine kr_iald hC hW (wx_20 g μ) hin ex1 dX10_fine_13 ?_
  refine lv_isub hx hb dX10_fine_14 ?_
  refine va_mmax hx hb (hml.trans hl.1.symm) hown (hts _ tw_708) (hts _ tw_709) (hts _ tw_15) (hts _ mth_max) (by decide) (Nat.le_of_ble_eq_true rfl) (Nat.le_refl 0) (Nat.le_refl 0) dX10_fine_15 ?_
  refine W.eq (g2 := F0 m 18 ls [.int (jmax 0 (a3 - x1)), .int a2, .int a1, .ref (ad g 7)]) rfl ?_
  refine lv_iload_n hx hb dX10_fine_18 rfl (lv_at hl 3 rfl) ?_
  obtain ⟨μ3, hxμ3, h⟩ := mbv_some h
  refine kr_cv hC hW (kr_runV hC hW hl.1 (t_vs_Wishes_look hxμ3) cw_X10_46 (wx_7 g μ) rfl rfl rfl (Nat.le_of_ble_eq_true rfl) dX10_fine_19 (by decide)) (fun H locs hW => ?_)
  refine lv_aload_n hx hb dX10_fine_22 rfl (lv_at hl 0 rfl) ?_
  refine gf_X10_18_x7 hC hW dX10_fine_23 ?_
  refine lv_bipush (v := 102) hx hb dX10_fine_26 (by decide) ?_
  refine lv_aload_n hx hb dX10_fine_28 rfl (lv_at hl 0 rfl) ?_
  refine gf_X10_9_x7 hC hW dX10_fine_29 ?_
  refine lv_iconst (v := 0) hx hb dX10_fine_32 (by decide) ?_
  obtain ⟨x4, μ5, hx4, h⟩ := mbm_some h
  refine kr_ci hC hW (kr_runV hC hW hl.1 (t_vs_Law_answer hx4) cw_X10_50 (wx_10 g μ3) rfl rfl rfl (Nat.le_of_ble_eq_true rfl) dX10_fine_33 (by decide)) (fun H locs hW => ?_)
  refine lv_iconst (v := 0) hx hb dX10_fine_36 (by decide) ?_
  refine lv_sipush (v := 10000) hx hb dX10_fine_37 (by decide) ?_
  obtain ⟨x6, hx6, h⟩ := mbv_some h
  refine kr_ci hC hW (kr_runS hC hW hl.1 (t_vs_Wishes_bounded hx6) cw_X10_54 rfl rfl (Nat.le_of_ble_eq_true rfl) dX10_fine_40 (by decide)) (fun H locs hW => ?_)
  cases h
  exact kr_iret hC hr hlocks hW dX10_fine_43
set_option maxHeartbeats 4000000 in
set_option maxRecDepth 100000 in
theorem t_vs_settle {l : Launch} {g : Gx} {A : Nat → Prop} {μ : Mm} {a1 : Int32} {a2 : Int32} {a3 : Int32} {a4 : Int32} {u : Mm} (h : vs_settle μ a1 a2 a3 a4 = some u) : Ctv l g A wx yX11_settle cX11_settle 5 none 3 [.ref (ad g 0), .int a1, .int a2, .int a3, .int a4] μ u := by
  refine ent (lv := [(0, .ref (ad g 0)), (1, .int a1), (2, .int a2), (3, .int a3), (4, .int a4)]) (by decide) (Nat.le_of_ble_eq_true rfl) rfl ?_
  intro p e s m args below meth c hC hr hlocks hnm hW ls hl
  replace hC : Cx g RX11 cX11_settle 5 p s m args c := hC
  obtain ⟨hx, hb, hml, hown, hts, hK, hN⟩ := id hC
  unfold vs_settle at h
  refine lv_aload_n hx hb dX11_settle_0 rfl (lv_at hl 0 rfl) ?_
  refine gf_X11_26_x0 hC hW dX11_settle_1 ?_
  refine gf_X11_246_x3 hC hW dX11_settle_4 ?_
  refine lv_iload_n hx hb dX11_settle_7 rfl (lv_at hl 2 rfl) ?_
  refine lv_dup2_11 hx hb dX11_settle_8 rfl rfl ?_
  obtain ⟨x1, ex1, hin, h⟩ := mrd_ex h
  refine kr_iald hC hW (wx_31 g μ) hin ex1 dX11_settle_9 ?_
  refine lv_iload_n hx hb dX11_settle_10 rfl (lv_at hl 3 rfl) ?_
  refine lv_iadd hx hb dX11_settle_11 ?_
  obtain ⟨μ2, eμ2, hin, h⟩ := mwr_ex h
  refine kr_iast hC hW (wx_31 g μ) (wxs_31 eμ2) hin dX11_settle_12 (fun H locs hW => ?_)
  refine lv_aload_n hx hb dX11_settle_13 rfl (lv_at hl 0 rfl) ?_
  refine gf_X11_26_x0 hC hW dX11_settle_14 ?_
  refine gf_X11_215_x3 hC hW dX11_settle_17 ?_
  refine lv_iload_n hx hb dX11_settle_20 rfl (lv_at hl 2 rfl) ?_
  refine lv_dup2_11 hx hb dX11_settle_21 rfl rfl ?_
  obtain ⟨x3, ex3, hin, h⟩ := mrd_ex h
  refine kr_iald hC hW (wx_29 g μ2) hin ex3 dX11_settle_22 ?_
  refine lv_iconst (v := 1) hx hb dX11_settle_23 (by decide) ?_
  refine lv_isub hx hb dX11_settle_24 ?_
  obtain ⟨μ4, eμ4, hin, h⟩ := mwr_ex h
  refine kr_iast hC hW (wx_29 g μ2) (wxs_29 eμ4) hin dX11_settle_25 (fun H locs hW => ?_)
  refine lv_aload_n hx hb dX11_settle_26 rfl (lv_at hl 0 rfl) ?_
  refine gf_X11_19_x0 hC hW dX11_settle_27 ?_
  refine gf_X11_208_x2 hC hW dX11_settle_30 ?_
  refine lv_iload_n hx hb dX11_settle_33 rfl (lv_at hl 1 rfl) ?_
  refine lv_iconst (v := (-1)) hx hb dX11_settle_34 (by decide) ?_
  obtain ⟨μ5, eμ5, hin, h⟩ := mwr_ex h
  refine kr_iast hC hW (wx_20 g μ4) (wxs_20 eμ5) hin dX11_settle_35 (fun H locs hW => ?_)
  refine lv_aload_n hx hb dX11_settle_36 rfl (lv_at hl 0 rfl) ?_
  refine lv_iload_n hx hb dX11_settle_37 rfl (lv_at hl 1 rfl) ?_
  refine lv_iload hx hb dX11_settle_38 (lv_at hl 4 rfl) ?_
  obtain ⟨μ7, hxμ7, h⟩ := mbv_some h
  refine kr_cv hC hW (kr_runV hC hW hl.1 (t_vs_transfer hxμ7) cw_X11_196 (wx_0 g μ5) rfl rfl rfl (Nat.le_of_ble_eq_true rfl) dX11_settle_40 (by decide)) (fun H locs hW => ?_)
  cases h
  exact kr_vret hC hr hlocks hW dX11_settle_43
set_option maxHeartbeats 4000000 in
set_option maxRecDepth 100000 in
theorem t_vs_back {l : Launch} {g : Gx} {A : Nat → Prop} {μ : Mm} {a1 : Int32} {a2 : Int32} {a3 : Int32} {v : Int32} {u : Mm} (h : vs_back μ a1 a2 a3 = some (v, u)) : Cti l g A wx yX11_back cX11_back 6 (some .int) 5 [.ref (ad g 0), .int a1, .int a2, .int a3] μ v u := by
  refine ent (lv := [(0, .ref (ad g 0)), (1, .int a1), (2, .int a2), (3, .int a3)]) (by decide) (Nat.le_of_ble_eq_true rfl) rfl ?_
  intro p e s m args below meth c hC hr hlocks hnm hW ls hl
  replace hC : Cx g RX11 cX11_back 6 p s m args c := hC
  obtain ⟨hx, hb, hml, hown, hts, hK, hN⟩ := id hC
  unfold vs_back at h
  refine lv_aload_n hx hb dX11_back_0 rfl (lv_at hl 0 rfl) ?_
  refine lv_iload_n hx hb dX11_back_1 rfl (lv_at hl 3 rfl) ?_
  refine lv_iload_n hx hb dX11_back_2 rfl (lv_at hl 1 rfl) ?_
  obtain ⟨x1, hx1, h⟩ := mbv_some h
  refine kr_ci hC hW (kr_runV hC hW hl.1 (t_vs_isPair hx1) cw_X11_135 (wx_0 g μ) rfl rfl rfl (Nat.le_of_ble_eq_true rfl) dX11_back_3 (by decide)) (fun H locs hW => ?_)
  refine lv_if_eq (tgt := 26) hx hb dX11_back_6 (by decide) (fun hc2 => ?_) (fun hc2 => ?_)
  · replace h := if_p hc2 h
    refine lv_iconst (v := (-1)) hx hb dX11_back_26 (by decide) ?_
    cases h
    exact kr_iret hC hr hlocks hW dX11_back_27
  · replace h := if_n hc2 h
    refine lv_iload_n hx hb dX11_back_9 rfl (lv_at hl 2 rfl) ?_
    obtain ⟨x3, hx3, h⟩ := mbv_some h
    refine kr_ci hC hW (kr_runS hC hW hl.1 (t_vs_isVan hx3) cw_X11_108 rfl rfl (Nat.le_of_ble_eq_true rfl) dX11_back_10 (by decide)) (fun H locs hW => ?_)
    refine lv_if_eq (tgt := 26) hx hb dX11_back_13 (by decide) (fun hc4 => ?_) (fun hc4 => ?_)
    · replace h := if_p hc4 h
      refine lv_iconst (v := (-1)) hx hb dX11_back_26 (by decide) ?_
      cases h
      exact kr_iret hC hr hlocks hW dX11_back_27
    · replace h := if_n hc4 h
      refine lv_aload_n hx hb dX11_back_16 rfl (lv_at hl 0 rfl) ?_
      refine gf_X11_47_x0 hC hW dX11_back_17 ?_
      obtain ⟨x5, hx5, h⟩ := mbv_some h
      refine kr_ci hC hW (kr_runV hC hW hl.1 (t_vs_Acts_isFull hx5) cw_X11_186 (wx_6 g μ) rfl rfl rfl (Nat.le_of_ble_eq_true rfl) dX11_back_20 (by decide)) (fun H locs hW => ?_)
      refine lv_if_eq (tgt := 28) hx hb dX11_back_23 (by decide) (fun hc6 => ?_) (fun hc6 => ?_)
      · replace h := if_p hc6 h
        refine lv_aload_n hx hb dX11_back_28 rfl (lv_at hl 0 rfl) ?_
        refine gf_X11_19_x0 hC hW dX11_back_29 ?_
        refine lv_iload_n hx hb dX11_back_32 rfl (lv_at hl 1 rfl) ?_
        obtain ⟨x7, hx7, h⟩ := mbv_some h
        refine kr_ci hC hW (kr_runV hC hW hl.1 (t_vs_Books_holder hx7) cw_X11_221 (wx_2 g μ) rfl rfl rfl (Nat.le_of_ble_eq_true rfl) dX11_back_33 (by decide)) (fun H locs hW => ?_)
        refine lv_istore (lv' := [(4, .int x7), (0, .ref (ad g 0)), (1, .int a1), (2, .int a2), (3, .int a3)]) hx hb dX11_back_36 hl (by decide) rfl (fun ls hl => ?_)
        refine lv_iload hx hb dX11_back_38 (lv_at hl 0 rfl) ?_
        refine lv_iconst (v := (-1)) hx hb dX11_back_40 (by decide) ?_
        refine lv_icmp_eq (tgt := 77) hx hb dX11_back_41 (by decide) (fun hc8 => ?_) (fun hc8 => ?_)
        · replace h := if_p hc8 h
          refine lv_iconst (v := (-1)) hx hb dX11_back_77 (by decide) ?_
          cases h
          exact kr_iret hC hr hlocks hW dX11_back_78
        · replace h := if_n hc8 h
          refine lv_aload_n hx hb dX11_back_44 rfl (lv_at hl 1 rfl) ?_
          refine gf_X11_33_x0 hC hW dX11_back_45 ?_
          refine lv_iload_n hx hb dX11_back_48 rfl (lv_at hl 3 rfl) ?_
          refine lv_aload_n hx hb dX11_back_49 rfl (lv_at hl 1 rfl) ?_
          refine gf_X11_26_x0 hC hW dX11_back_50 ?_
          refine gf_X11_202_x3 hC hW dX11_back_53 ?_
          refine lv_iload_n hx hb dX11_back_56 rfl (lv_at hl 4 rfl) ?_
          obtain ⟨x9, ex9, hin, h⟩ := mrd_ex h
          refine kr_iald hC hW (wx_25 g μ) hin ex9 dX11_back_57 ?_
          refine lv_aload_n hx hb dX11_back_58 rfl (lv_at hl 1 rfl) ?_
          refine gf_X11_96_x0 hC hW dX11_back_59 ?_
          obtain ⟨x10, hx10, h⟩ := mbv_some h
          refine kr_ci hC hW (kr_runV hC hW hl.1 (t_vs_Stops_goesTo hx10) cw_X11_182 (wx_4 g μ) rfl rfl rfl (Nat.le_of_ble_eq_true rfl) dX11_back_62 (by decide)) (fun H locs hW => ?_)
          refine lv_if_eq (tgt := 77) hx hb dX11_back_65 (by decide) (fun hc11 => ?_) (fun hc11 => ?_)
          · replace h := if_p hc11 h
            refine lv_iconst (v := (-1)) hx hb dX11_back_77 (by decide) ?_
            cases h
            exact kr_iret hC hr hlocks hW dX11_back_78
          · replace h := if_n hc11 h
            refine lv_aload_n hx hb dX11_back_68 rfl (lv_at hl 1 rfl) ?_
            refine lv_iload_n hx hb dX11_back_69 rfl (lv_at hl 2 rfl) ?_
            refine lv_iload_n hx hb dX11_back_70 rfl (lv_at hl 3 rfl) ?_
            obtain ⟨x12, hx12, h⟩ := mbv_some h
            refine kr_ci hC hW (kr_runV hC hW hl.1 (t_vs_fits hx12) cw_X11_193 (wx_0 g μ) rfl rfl rfl (Nat.le_of_ble_eq_true rfl) dX11_back_71 (by decide)) (fun H locs hW => ?_)
            refine lv_if_ne (tgt := 79) hx hb dX11_back_74 (by decide) (fun hc13 => ?_) (fun hc13 => ?_)
            · replace h := if_n hc13 h
              refine lv_aload_n hx hb dX11_back_79 rfl (lv_at hl 1 rfl) ?_
              refine gf_X11_56_x0 hC hW dX11_back_80 ?_
              refine lv_iload hx hb dX11_back_83 (lv_at hl 0 rfl) ?_
              refine lv_iload_n hx hb dX11_back_85 rfl (lv_at hl 2 rfl) ?_
              refine lv_aload_n hx hb dX11_back_86 rfl (lv_at hl 1 rfl) ?_
              refine gf_X11_96_x0 hC hW dX11_back_87 ?_
              obtain ⟨x14, μ15, hx14, h⟩ := mbm_some h
              refine kr_ci hC hW (kr_runV hC hW hl.1 (t_vs_Wishes_fine hx14) cw_X11_224 (wx_7 g μ) rfl rfl rfl (Nat.le_of_ble_eq_true rfl) dX11_back_90 (by decide)) (fun H locs hW => ?_)
              refine lv_istore (lv' := [(5, .int x14), (4, .int x7), (0, .ref (ad g 0)), (1, .int a1), (2, .int a2), (3, .int a3)]) hx hb dX11_back_93 hl (by decide) rfl (fun ls hl => ?_)
              refine lv_iload hx hb dX11_back_95 (lv_at hl 1 rfl) ?_
              refine lv_iload_n hx hb dX11_back_97 rfl (lv_at hl 5 rfl) ?_
              refine lv_icmp_eq (tgt := 135) hx hb dX11_back_98 (by decide) (fun hc16 => ?_) (fun hc16 => ?_)
              · replace h := if_p hc16 h
                refine lv_aload_n hx hb dX11_back_135 rfl (lv_at hl 2 rfl) ?_
                refine lv_iload_n hx hb dX11_back_136 rfl (lv_at hl 3 rfl) ?_
                refine lv_iload hx hb dX11_back_137 (lv_at hl 1 rfl) ?_
                refine lv_iload hx hb dX11_back_139 (lv_at hl 0 rfl) ?_
                refine lv_iconst (v := 1) hx hb dX11_back_141 (by decide) ?_
                refine lv_iload_n hx hb dX11_back_142 rfl (lv_at hl 4 rfl) ?_
                refine lv_iadd hx hb dX11_back_143 ?_
                obtain ⟨μ18, hxμ18, h⟩ := mbv_some h
                refine kr_cv hC hW (kr_runV hC hW hl.1 (t_vs_settle hxμ18) cw_X11_231 (wx_0 g μ15) rfl rfl rfl (Nat.le_of_ble_eq_true rfl) dX11_back_144 (by decide)) (fun H locs hW => ?_)
                refine lv_iload hx hb dX11_back_147 (lv_at hl 0 rfl) ?_
                cases h
                exact kr_iret hC hr hlocks hW dX11_back_149
              · replace h := if_n hc16 h
                refine lv_aload_n hx hb dX11_back_101 rfl (lv_at hl 2 rfl) ?_
                refine gf_X11_19_x0 hC hW dX11_back_102 ?_
                refine gf_X11_227_x2 hC hW dX11_back_105 ?_
                refine lv_iload_n hx hb dX11_back_108 rfl (lv_at hl 3 rfl) ?_
                refine lv_dup2_11 hx hb dX11_back_109 rfl rfl ?_
                obtain ⟨x19, ex19, hin, h⟩ := mrd_ex h
                refine kr_iald hC hW (wx_22 g μ15) hin ex19 dX11_back_110 ?_
                refine lv_iconst (v := 1) hx hb dX11_back_111 (by decide) ?_
                refine lv_iadd hx hb dX11_back_112 ?_
                obtain ⟨μ20, eμ20, hin, h⟩ := mwr_ex h
                refine kr_iast hC hW (wx_22 g μ15) (wxs_22 eμ20) hin dX11_back_113 (fun H locs hW => ?_)
                refine lv_aload_n hx hb dX11_back_114 rfl (lv_at hl 2 rfl) ?_
                refine gf_X11_33_x0 hC hW dX11_back_115 ?_
                refine gf_X11_230_x4 hC hW dX11_back_118 ?_
                refine lv_aload_n hx hb dX11_back_121 rfl (lv_at hl 2 rfl) ?_
                refine gf_X11_26_x0 hC hW dX11_back_122 ?_
                refine gf_X11_202_x3 hC hW dX11_back_125 ?_
                refine lv_iload_n hx hb dX11_back_128 rfl (lv_at hl 5 rfl) ?_
                obtain ⟨x21, ex21, hin, h⟩ := mrd_ex h
                refine kr_iald hC hW (wx_25 g μ20) hin ex21 dX11_back_129 ?_
                refine lv_dup2_11 hx hb dX11_back_130 rfl rfl ?_
                obtain ⟨x22, ex22, hin, h⟩ := mrd_ex h
                refine kr_iald hC hW (wx_40 g μ20) hin ex22 dX11_back_131 ?_
                refine lv_iconst (v := 1) hx hb dX11_back_132 (by decide) ?_
                refine lv_iadd hx hb dX11_back_133 ?_
                obtain ⟨μ23, eμ23, hin, h⟩ := mwr_ex h
                refine kr_iast hC hW (wx_40 g μ20) (wxs_40 eμ23) hin dX11_back_134 (fun H locs hW => ?_)
                refine lv_aload_n hx hb dX11_back_135 rfl (lv_at hl 2 rfl) ?_
                refine lv_iload_n hx hb dX11_back_136 rfl (lv_at hl 3 rfl) ?_
                refine lv_iload hx hb dX11_back_137 (lv_at hl 1 rfl) ?_
                refine lv_iload hx hb dX11_back_139 (lv_at hl 0 rfl) ?_
                refine lv_iconst (v := 1) hx hb dX11_back_141 (by decide) ?_
                refine lv_iload_n hx hb dX11_back_142 rfl (lv_at hl 4 rfl) ?_
                refine lv_iadd hx hb dX11_back_143 ?_
                obtain ⟨μ25, hxμ25, h⟩ := mbv_some h
                refine kr_cv hC hW (kr_runV hC hW hl.1 (t_vs_settle hxμ25) cw_X11_231 (wx_0 g μ23) rfl rfl rfl (Nat.le_of_ble_eq_true rfl) dX11_back_144 (by decide)) (fun H locs hW => ?_)
                refine lv_iload hx hb dX11_back_147 (lv_at hl 0 rfl) ?_
                cases h
                exact kr_iret hC hr hlocks hW dX11_back_149
            · replace h := if_p hc13 h
              refine lv_iconst (v := (-1)) hx hb dX11_back_77 (by decide) ?_
              cases h
              exact kr_iret hC hr hlocks hW dX11_back_78
      · replace h := if_n hc6 h
        refine lv_iconst (v := (-1)) hx hb dX11_back_26 (by decide) ?_
        cases h
        exact kr_iret hC hr hlocks hW dX11_back_27
end
