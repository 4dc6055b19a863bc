section
variable {p : Program} {l : Launch} {e : Env} {s : State} {m : MethodId} {args : Array Value} {below : List Frame} {meth : Method} {c : Code} {H : Heap} {locs : List Loc} {Q : State → Prop} {g : Gx} {A : Nat → Prop} {ls : Array Slot} {Wd : Gx → Mm → va_W}
set_option maxHeartbeats 4000000 in
set_option maxRecDepth 100000 in
theorem t_vs_lost {l : Launch} {g : Gx} {A : Nat → Prop} {μ : Mm} {a1 : Int32} {v : Int32} {u : Mm} (h : vs_lost μ a1 = some (v, u)) : Cti l g A wx yX11_lost cX11_lost 3 (some .int) 4 [.ref (ad g 0), .int a1] μ v u := by
  refine ent (lv := [(0, .ref (ad g 0)), (1, .int a1)]) (by decide) (Nat.le_of_ble_eq_true rfl) rfl ?_
  intro p e s m args below meth c hC hr hlocks hnm hW ls hl
  replace hC : Cx g RX11 cX11_lost 3 p s m args c := hC
  obtain ⟨hx, hb, hml, hown, hts, hK, hN⟩ := id hC
  unfold vs_lost at h
  refine lv_aload_n hx hb dX11_lost_0 rfl (lv_at hl 0 rfl) ?_
  refine gf_X11_19_x0 hC hW dX11_lost_1 ?_
  refine lv_iload_n hx hb dX11_lost_4 rfl (lv_at hl 1 rfl) ?_
  obtain ⟨x1, hx1, h⟩ := mbv_some h
  refine kr_ci hC hW (kr_runV hC hW hl.1 (t_vs_Books_has hx1) cw_X11_185 (wx_2 g μ) rfl rfl rfl (Nat.le_of_ble_eq_true rfl) dX11_lost_5 (by decide)) (fun H locs hW => ?_)
  refine lv_if_eq (tgt := 21) hx hb dX11_lost_8 (by decide) (fun hc2 => ?_) (fun hc2 => ?_)
  · replace h := if_p hc2 h
    refine lv_iconst (v := (-1)) hx hb dX11_lost_21 (by decide) ?_
    cases h
    exact kr_iret hC hr hlocks hW dX11_lost_22
  · replace h := if_n hc2 h
    refine lv_aload_n hx hb dX11_lost_11 rfl (lv_at hl 0 rfl) ?_
    refine gf_X11_47_x0 hC hW dX11_lost_12 ?_
    obtain ⟨x3, hx3, h⟩ := mbv_some h
    refine kr_ci hC hW (kr_runV hC hW hl.1 (t_vs_Acts_isFull hx3) cw_X11_186 (wx_6 g μ) rfl rfl rfl (Nat.le_of_ble_eq_true rfl) dX11_lost_15 (by decide)) (fun H locs hW => ?_)
    refine lv_if_eq (tgt := 23) hx hb dX11_lost_18 (by decide) (fun hc4 => ?_) (fun hc4 => ?_)
    · replace h := if_p hc4 h
      refine lv_aload_n hx hb dX11_lost_23 rfl (lv_at hl 0 rfl) ?_
      refine gf_X11_19_x0 hC hW dX11_lost_24 ?_
      refine lv_iload_n hx hb dX11_lost_27 rfl (lv_at hl 1 rfl) ?_
      obtain ⟨x5, hx5, h⟩ := mbv_some h
      refine kr_ci hC hW (kr_runV hC hW hl.1 (t_vs_Books_holder hx5) cw_X11_221 (wx_2 g μ) rfl rfl rfl (Nat.le_of_ble_eq_true rfl) dX11_lost_28 (by decide)) (fun H locs hW => ?_)
      refine lv_istore_n (lv' := [(2, .int x5), (0, .ref (ad g 0)), (1, .int a1)]) hx hb dX11_lost_31 rfl hl (by decide) rfl (fun ls hl => ?_)
      refine lv_iload_n hx hb dX11_lost_32 rfl (lv_at hl 0 rfl) ?_
      refine lv_iconst (v := (-1)) hx hb dX11_lost_33 (by decide) ?_
      refine lv_icmp_ne (tgt := 39) hx hb dX11_lost_34 (by decide) (fun hc6 => ?_) (fun hc6 => ?_)
      · replace h := if_n hc6 h
        refine lv_aload_n hx hb dX11_lost_39 rfl (lv_at hl 1 rfl) ?_
        refine lv_iload_n hx hb dX11_lost_40 rfl (lv_at hl 2 rfl) ?_
        refine lv_iload_n hx hb dX11_lost_41 rfl (lv_at hl 0 rfl) ?_
        refine lv_aload_n hx hb dX11_lost_42 rfl (lv_at hl 1 rfl) ?_
        refine gf_X11_19_x0 hC hW dX11_lost_43 ?_
        refine gf_X11_235_x2 hC hW dX11_lost_46 ?_
        refine lv_iload_n hx hb dX11_lost_49 rfl (lv_at hl 2 rfl) ?_
        obtain ⟨x7, ex7, hin, h⟩ := mrd_ex h
        refine kr_iald hC hW (wx_18 g μ) hin ex7 dX11_lost_50 ?_
        refine lv_bipush (v := 40) hx hb dX11_lost_51 (by decide) ?_
        obtain ⟨μ9, hxμ9, h⟩ := mbv_some h
        refine kr_cv hC hW (kr_runV hC hW hl.1 (t_vs_settle hxμ9) cw_X11_231 (wx_0 g μ) rfl rfl rfl (Nat.le_of_ble_eq_true rfl) dX11_lost_53 (by decide)) (fun H locs hW => ?_)
        refine lv_aload_n hx hb dX11_lost_56 rfl (lv_at hl 1 rfl) ?_
        refine gf_X11_19_x0 hC hW dX11_lost_57 ?_
        refine gf_X11_235_x2 hC hW dX11_lost_60 ?_
        refine lv_iload_n hx hb dX11_lost_63 rfl (lv_at hl 2 rfl) ?_
        obtain ⟨x10, ex10, hin, h⟩ := mrd_ex h
        refine kr_iald hC hW (wx_18 g μ9) hin ex10 dX11_lost_64 ?_
        cases h
        exact kr_iret hC hr hlocks hW dX11_lost_65
      · replace h := if_p hc6 h
        refine lv_iconst (v := (-1)) hx hb dX11_lost_37 (by decide) ?_
        cases h
        exact kr_iret hC hr hlocks hW dX11_lost_38
    · replace h := if_n hc4 h
      refine lv_iconst (v := (-1)) hx hb dX11_lost_21 (by decide) ?_
      cases h
      exact kr_iret hC hr hlocks hW dX11_lost_22
set_option maxHeartbeats 4000000 in
set_option maxRecDepth 100000 in
theorem t_vs_bookIs {l : Launch} {g : Gx} {A : Nat → Prop} {μ : Mm} {a1 : Int32} {a2 : Int32} {v : Int32} (h : vs_bookIs μ a1 a2 = some v) : Cti l g A wx yX11_bookIs cX11_bookIs 3 (some .int) 2 [.ref (ad g 0), .int a1, .int a2] μ v μ := by
  refine ent (lv := [(0, .ref (ad g 0)), (1, .int a1), (2, .int a2)]) (by decide) (Nat.le_of_ble_eq_true rfl) rfl ?_
  intro p e s m args below meth c hC hr hlocks hnm hW ls hl
  replace hC : Cx g RX11 cX11_bookIs 3 p s m args c := hC
  obtain ⟨hx, hb, hml, hown, hts, hK, hN⟩ := id hC
  unfold vs_bookIs at h
  refine lv_aload_n hx hb dX11_bookIs_0 rfl (lv_at hl 0 rfl) ?_
  refine gf_X11_19_x0 hC hW dX11_bookIs_1 ?_
  refine lv_iload_n hx hb dX11_bookIs_4 rfl (lv_at hl 1 rfl) ?_
  obtain ⟨x1, hx1, h⟩ := mbv_some h
  refine kr_ci hC hW (kr_runV hC hW hl.1 (t_vs_Books_has hx1) cw_X11_185 (wx_2 g μ) rfl rfl rfl (Nat.le_of_ble_eq_true rfl) dX11_bookIs_5 (by decide)) (fun H locs hW => ?_)
  refine lv_if_ne (tgt := 13) hx hb dX11_bookIs_8 (by decide) (fun hc2 => ?_) (fun hc2 => ?_)
  · replace h := if_n hc2 h
    refine lv_iload_n hx hb dX11_bookIs_13 rfl (lv_at hl 2 rfl) ?_
    by_cases hc3 : a2 = 0
    · replace h := if_p hc3 h
      refine lv_tableIn (off := 34) (tgt := 48) hx hb dX11_bookIs_14 (by rw [hc3]; decide) (by rw [hc3]; decide) (by rw [hc3]; rfl) (by decide) ?_
      refine lv_aload_n hx hb dX11_bookIs_48 rfl (lv_at hl 0 rfl) ?_
      refine gf_X11_19_x0 hC hW dX11_bookIs_49 ?_
      refine gf_X11_190_x2 hC hW dX11_bookIs_52 ?_
      refine lv_iload_n hx hb dX11_bookIs_55 rfl (lv_at hl 1 rfl) ?_
      obtain ⟨x4, ex4, hin, h⟩ := mrd_ex h
      refine kr_iald hC hW (wx_19 g μ) hin ex4 dX11_bookIs_56 ?_
      cases h
      exact kr_iret hC hr hlocks hW dX11_bookIs_57
    replace h := if_n hc3 h
    by_cases hc5 : a2 = 1
    · replace h := if_p hc5 h
      refine lv_tableIn (off := 44) (tgt := 58) hx hb dX11_bookIs_14 (by rw [hc5]; decide) (by rw [hc5]; decide) (by rw [hc5]; rfl) (by decide) ?_
      refine lv_aload_n hx hb dX11_bookIs_58 rfl (lv_at hl 0 rfl) ?_
      refine gf_X11_19_x0 hC hW dX11_bookIs_59 ?_
      refine gf_X11_208_x2 hC hW dX11_bookIs_62 ?_
      refine lv_iload_n hx hb dX11_bookIs_65 rfl (lv_at hl 1 rfl) ?_
      obtain ⟨x6, ex6, hin, h⟩ := mrd_ex h
      refine kr_iald hC hW (wx_20 g μ) hin ex6 dX11_bookIs_66 ?_
      cases h
      exact kr_iret hC hr hlocks hW dX11_bookIs_67
    replace h := if_n hc5 h
    by_cases hc7 : a2 = 2
    · replace h := if_p hc7 h
      refine lv_tableIn (off := 54) (tgt := 68) hx hb dX11_bookIs_14 (by rw [hc7]; decide) (by rw [hc7]; decide) (by rw [hc7]; rfl) (by decide) ?_
      refine lv_aload_n hx hb dX11_bookIs_68 rfl (lv_at hl 0 rfl) ?_
      refine gf_X11_19_x0 hC hW dX11_bookIs_69 ?_
      refine gf_X11_211_x2 hC hW dX11_bookIs_72 ?_
      refine lv_iload_n hx hb dX11_bookIs_75 rfl (lv_at hl 1 rfl) ?_
      obtain ⟨x8, ex8, hin, h⟩ := mrd_ex h
      refine kr_iald hC hW (wx_21 g μ) hin ex8 dX11_bookIs_76 ?_
      cases h
      exact kr_iret hC hr hlocks hW dX11_bookIs_77
    replace h := if_n hc7 h
    by_cases hc9 : a2 = 3
    · replace h := if_p hc9 h
      refine lv_tableIn (off := 64) (tgt := 78) hx hb dX11_bookIs_14 (by rw [hc9]; decide) (by rw [hc9]; decide) (by rw [hc9]; rfl) (by decide) ?_
      refine lv_aload_n hx hb dX11_bookIs_78 rfl (lv_at hl 0 rfl) ?_
      refine gf_X11_19_x0 hC hW dX11_bookIs_79 ?_
      refine gf_X11_227_x2 hC hW dX11_bookIs_82 ?_
      refine lv_iload_n hx hb dX11_bookIs_85 rfl (lv_at hl 1 rfl) ?_
      obtain ⟨x10, ex10, hin, h⟩ := mrd_ex h
      refine kr_iald hC hW (wx_22 g μ) hin ex10 dX11_bookIs_86 ?_
      cases h
      exact kr_iret hC hr hlocks hW dX11_bookIs_87
    replace h := if_n hc9 h
    by_cases hc11 : a2 = 4
    · replace h := if_p hc11 h
      refine lv_tableIn (off := 74) (tgt := 88) hx hb dX11_bookIs_14 (by rw [hc11]; decide) (by rw [hc11]; decide) (by rw [hc11]; rfl) (by decide) ?_
      refine lv_aload_n hx hb dX11_bookIs_88 rfl (lv_at hl 0 rfl) ?_
      refine gf_X11_19_x0 hC hW dX11_bookIs_89 ?_
      refine gf_X11_238_x2 hC hW dX11_bookIs_92 ?_
      refine lv_iload_n hx hb dX11_bookIs_95 rfl (lv_at hl 1 rfl) ?_
      obtain ⟨x12, ex12, hin, h⟩ := mrd_ex h
      refine kr_iald hC hW (wx_23 g μ) hin ex12 dX11_bookIs_96 ?_
      obtain ⟨x13, hx13, h⟩ := mbv_some h
      refine kr_ci hC hW (kr_runS hC hW hl.1 (t_vs_Integer_bitCount_0f7a4 hx13) cw_X11_241 rfl rfl (Nat.le_of_ble_eq_true rfl) dX11_bookIs_97 (by decide)) (fun H locs hW => ?_)
      cases h
      exact kr_iret hC hr hlocks hW dX11_bookIs_100
    replace h := if_n hc11 h
    have thc3 := lv_neT (a := 0) hc3 (by decide)
    have thc5 := lv_neT (a := 1) hc5 (by decide)
    have thc7 := lv_neT (a := 2) hc7 (by decide)
    have thc9 := lv_neT (a := 3) hc9 (by decide)
    have thc11 := lv_neT (a := 4) hc11 (by decide)
    refine lv_tableOut (tgt := 101) hx hb dX11_bookIs_14 (by omega) (by decide) ?_
    refine lv_iconst (v := (-1)) hx hb dX11_bookIs_101 (by decide) ?_
    cases h
    exact kr_iret hC hr hlocks hW dX11_bookIs_102
  · replace h := if_p hc2 h
    refine lv_iconst (v := (-1)) hx hb dX11_bookIs_11 (by decide) ?_
    cases h
    exact kr_iret hC hr hlocks hW dX11_bookIs_12
set_option maxHeartbeats 4000000 in
set_option maxRecDepth 100000 in
theorem tl_vs_Asks_ofReader_4 (μ : Mm) (a1 : Int32) (hC : Cx g RX1 cX1_ofReader 4 p s m args c) {e0 : (Int32)} (kx0 : ∀ (ls : Array Slot) (H : Heap) (locs : List Loc), lv_has ls 4 [(2, .int e0)] → wP g wx A s.heap μ H locs → W p l e (rmD 1) s m args below meth c H locs 0 0 Q (F0 m 29 ls [])) : ∀ (n : Nat) (q : Int32 × Int32), miter (fun q => vs_Asks_ofReader_b4 μ a1 q.1 q.2) n q = some e0 → ∀ (ls : Array Slot) (H : Heap) (locs : List Loc), lv_has ls 4 [(0, .ref (ad g 5)), (1, .int a1), (2, .int q.1), (3, .int q.2)] → wP g wx A s.heap μ H locs → W p l e (rmD 1) s m args below meth c H locs 0 0 Q (F0 m 4 ls []) := by
  obtain ⟨hx, hb, hml, hown, hts, hK, hN⟩ := id hC
  refine miter_ind (fun q r hf k1 k2 => ?_)
  obtain ⟨xs2, xs3⟩ := q
  intro ls H locs hl hW
  have h : vs_Asks_ofReader_b4 μ a1 xs2 xs3 = some r := hf
  unfold vs_Asks_ofReader_b4 at h
  refine lv_iload_n hx hb dX1_ofReader_4 rfl (lv_at hl 3 rfl) ?_
  refine lv_bipush (v := 32) hx hb dX1_ofReader_5 (by decide) ?_
  refine lv_icmp_ge (tgt := 29) hx hb dX1_ofReader_7 (by decide) (fun hc1 => ?_) (fun hc1 => ?_)
  · replace h := if_p hc1 h
    obtain rfl := k2 _ (Option.some.inj h).symm
    exact kx0 _ _ _ (lv_sub hl [2] rfl) hW
  · replace h := if_n hc1 h
    refine lv_aload_n hx hb dX1_ofReader_10 rfl (lv_at hl 0 rfl) ?_
    refine lv_iload_n hx hb dX1_ofReader_11 rfl (lv_at hl 1 rfl) ?_
    refine lv_iload_n hx hb dX1_ofReader_12 rfl (lv_at hl 3 rfl) ?_
    obtain ⟨x2, hx2, h⟩ := mbv_some h
    refine kr_ci hC hW (kr_runV hC hW hl.1 (t_vs_Asks_dayOf hx2) cw_X1_34 (wx_5 g μ) rfl rfl rfl (Nat.le_of_ble_eq_true rfl) dX1_ofReader_13 (by decide)) (fun H locs hW => ?_)
    refine lv_iconst (v := (-1)) hx hb dX1_ofReader_16 (by decide) ?_
    refine lv_icmp_eq (tgt := 23) hx hb dX1_ofReader_17 (by decide) (fun hc3 => ?_) (fun hc3 => ?_)
    · replace h := if_p hc3 h
      refine lv_iinc (v := (xs3 + 1)) (lv' := [(3, .int (xs3 + 1)), (0, .ref (ad g 5)), (1, .int a1), (2, .int xs2)]) hx hb dX1_ofReader_23 hl (k := 3) rfl (by rw [oi_1]) (by decide) rfl (fun ls hl => ?_)
      refine lv_goto (tgt := 4) hx hb dX1_ofReader_26 (by decide) ?_
      exact k1 (xs2, (xs3 + 1)) (Option.some.inj h).symm _ _ _ (lv_sub hl [1, 2, 3, 0] rfl) hW
    · replace h := if_n hc3 h
      refine lv_iinc (v := (xs2 + 1)) (lv' := [(2, .int (xs2 + 1)), (0, .ref (ad g 5)), (1, .int a1), (3, .int xs3)]) hx hb dX1_ofReader_20 hl (k := 2) rfl (by rw [oi_1]) (by decide) rfl (fun ls hl => ?_)
      refine lv_iinc (v := (xs3 + 1)) (lv' := [(3, .int (xs3 + 1)), (2, .int (xs2 + 1)), (0, .ref (ad g 5)), (1, .int a1)]) hx hb dX1_ofReader_23 hl (k := 3) rfl (by rw [oi_1]) (by decide) rfl (fun ls hl => ?_)
      refine lv_goto (tgt := 4) hx hb dX1_ofReader_26 (by decide) ?_
      exact k1 ((xs2 + 1), (xs3 + 1)) (Option.some.inj h).symm _ _ _ (lv_sub hl [2, 3, 1, 0] rfl) hW
set_option maxHeartbeats 4000000 in
set_option maxRecDepth 100000 in
theorem t_vs_Asks_ofReader {l : Launch} {g : Gx} {A : Nat → Prop} {μ : Mm} {a1 : Int32} {v : Int32} (h : vs_Asks_ofReader μ a1 = some v) : Cti l g A wx yX1_ofReader cX1_ofReader 4 (some .int) 1 [.ref (ad g 5), .int a1] μ v μ := by
  refine ent (lv := [(0, .ref (ad g 5)), (1, .int a1)]) (by decide) (Nat.le_of_ble_eq_true rfl) rfl ?_
  intro p e s m args below meth c hC hr hlocks hnm hW ls hl
  replace hC : Cx g RX1 cX1_ofReader 4 p s m args c := hC
  obtain ⟨hx, hb, hml, hown, hts, hK, hN⟩ := id hC
  unfold vs_Asks_ofReader at h
  refine lv_iconst (v := 0) hx hb dX1_ofReader_0 (by decide) ?_
  refine lv_istore_n (lv' := [(2, .int 0), (0, .ref (ad g 5)), (1, .int a1)]) hx hb dX1_ofReader_1 rfl hl (by decide) rfl (fun ls hl => ?_)
  refine lv_iconst (v := 0) hx hb dX1_ofReader_2 (by decide) ?_
  refine lv_istore_n (lv' := [(3, .int 0), (2, .int 0), (0, .ref (ad g 5)), (1, .int a1)]) hx hb dX1_ofReader_3 rfl hl (by decide) rfl (fun ls hl => ?_)
  obtain ⟨x4, he5, h⟩ := mbv_some h
  refine tl_vs_Asks_ofReader_4 μ a1 hC (fun ls H locs hl hW => ?_) FU (0, 0) he5 _ _ _ (lv_sub hl [2, 3, 1, 0] rfl) hW
  refine lv_iload_n hx hb dX1_ofReader_29 rfl (lv_at hl 0 rfl) ?_
  cases h
  exact kr_iret hC hr hlocks hW dX1_ofReader_30
set_option maxHeartbeats 4000000 in
set_option maxRecDepth 100000 in
theorem t_vs_readerIs {l : Launch} {g : Gx} {A : Nat → Prop} {μ : Mm} {a1 : Int32} {a2 : Int32} {v : Int32} (h : vs_readerIs μ a1 a2 = some v) : Cti l g A wx yX11_readerIs cX11_readerIs 3 (some .int) 2 [.ref (ad g 0), .int a1, .int a2] μ v μ := by
  refine ent (lv := [(0, .ref (ad g 0)), (1, .int a1), (2, .int a2)]) (by decide) (Nat.le_of_ble_eq_true rfl) rfl ?_
  intro p e s m args below meth c hC hr hlocks hnm hW ls hl
  replace hC : Cx g RX11 cX11_readerIs 3 p s m args c := hC
  obtain ⟨hx, hb, hml, hown, hts, hK, hN⟩ := id hC
  unfold vs_readerIs at h
  refine lv_aload_n hx hb dX11_readerIs_0 rfl (lv_at hl 0 rfl) ?_
  refine gf_X11_26_x0 hC hW dX11_readerIs_1 ?_
  refine lv_iload_n hx hb dX11_readerIs_4 rfl (lv_at hl 1 rfl) ?_
  obtain ⟨x1, hx1, h⟩ := mbv_some h
  refine kr_ci hC hW (kr_runV hC hW hl.1 (t_vs_Readers_has hx1) cw_X11_131 (wx_3 g μ) rfl rfl rfl (Nat.le_of_ble_eq_true rfl) dX11_readerIs_5 (by decide)) (fun H locs hW => ?_)
  refine lv_if_ne (tgt := 13) hx hb dX11_readerIs_8 (by decide) (fun hc2 => ?_) (fun hc2 => ?_)
  · replace h := if_n hc2 h
    refine lv_iload_n hx hb dX11_readerIs_13 rfl (lv_at hl 2 rfl) ?_
    by_cases hc3 : a2 = 0
    · replace h := if_p hc3 h
      refine lv_tableIn (off := 34) (tgt := 48) hx hb dX11_readerIs_14 (by rw [hc3]; decide) (by rw [hc3]; decide) (by rw [hc3]; rfl) (by decide) ?_
      refine lv_aload_n hx hb dX11_readerIs_48 rfl (lv_at hl 0 rfl) ?_
      refine gf_X11_26_x0 hC hW dX11_readerIs_49 ?_
      refine gf_X11_215_x3 hC hW dX11_readerIs_52 ?_
      refine lv_iload_n hx hb dX11_readerIs_55 rfl (lv_at hl 1 rfl) ?_
      obtain ⟨x4, ex4, hin, h⟩ := mrd_ex h
      refine kr_iald hC hW (wx_29 g μ) hin ex4 dX11_readerIs_56 ?_
      cases h
      exact kr_iret hC hr hlocks hW dX11_readerIs_57
    replace h := if_n hc3 h
    by_cases hc5 : a2 = 1
    · replace h := if_p hc5 h
      refine lv_tableIn (off := 44) (tgt := 58) hx hb dX11_readerIs_14 (by rw [hc5]; decide) (by rw [hc5]; decide) (by rw [hc5]; rfl) (by decide) ?_
      refine lv_aload_n hx hb dX11_readerIs_58 rfl (lv_at hl 0 rfl) ?_
      refine gf_X11_26_x0 hC hW dX11_readerIs_59 ?_
      refine gf_X11_214_x3 hC hW dX11_readerIs_62 ?_
      refine lv_iload_n hx hb dX11_readerIs_65 rfl (lv_at hl 1 rfl) ?_
      obtain ⟨x6, ex6, hin, h⟩ := mrd_ex h
      refine kr_iald hC hW (wx_30 g μ) hin ex6 dX11_readerIs_66 ?_
      cases h
      exact kr_iret hC hr hlocks hW dX11_readerIs_67
    replace h := if_n hc5 h
    by_cases hc7 : a2 = 2
    · replace h := if_p hc7 h
      refine lv_tableIn (off := 54) (tgt := 68) hx hb dX11_readerIs_14 (by rw [hc7]; decide) (by rw [hc7]; decide) (by rw [hc7]; rfl) (by decide) ?_
      refine lv_aload_n hx hb dX11_readerIs_68 rfl (lv_at hl 0 rfl) ?_
      refine gf_X11_26_x0 hC hW dX11_readerIs_69 ?_
      refine gf_X11_246_x3 hC hW dX11_readerIs_72 ?_
      refine lv_iload_n hx hb dX11_readerIs_75 rfl (lv_at hl 1 rfl) ?_
      obtain ⟨x8, ex8, hin, h⟩ := mrd_ex h
      refine kr_iald hC hW (wx_31 g μ) hin ex8 dX11_readerIs_76 ?_
      cases h
      exact kr_iret hC hr hlocks hW dX11_readerIs_77
    replace h := if_n hc7 h
    by_cases hc9 : a2 = 3
    · replace h := if_p hc9 h
      refine lv_tableIn (off := 64) (tgt := 78) hx hb dX11_readerIs_14 (by rw [hc9]; decide) (by rw [hc9]; decide) (by rw [hc9]; rfl) (by decide) ?_
      refine lv_aload_n hx hb dX11_readerIs_78 rfl (lv_at hl 0 rfl) ?_
      refine gf_X11_26_x0 hC hW dX11_readerIs_79 ?_
      refine gf_X11_249_x3 hC hW dX11_readerIs_82 ?_
      refine lv_iload_n hx hb dX11_readerIs_85 rfl (lv_at hl 1 rfl) ?_
      obtain ⟨x10, ex10, hin, h⟩ := mrd_ex h
      refine kr_iald hC hW (wx_28 g μ) hin ex10 dX11_readerIs_86 ?_
      obtain ⟨x11, hx11, h⟩ := mbv_some h
      refine kr_ci hC hW (kr_runS hC hW hl.1 (t_vs_Integer_bitCount_0f7a4 hx11) cw_X11_241 rfl rfl (Nat.le_of_ble_eq_true rfl) dX11_readerIs_87 (by decide)) (fun H locs hW => ?_)
      cases h
      exact kr_iret hC hr hlocks hW dX11_readerIs_90
    replace h := if_n hc9 h
    by_cases hc12 : a2 = 4
    · replace h := if_p hc12 h
      refine lv_tableIn (off := 77) (tgt := 91) hx hb dX11_readerIs_14 (by rw [hc12]; decide) (by rw [hc12]; decide) (by rw [hc12]; rfl) (by decide) ?_
      refine lv_aload_n hx hb dX11_readerIs_91 rfl (lv_at hl 0 rfl) ?_
      refine gf_X11_40_x0 hC hW dX11_readerIs_92 ?_
      refine lv_iload_n hx hb dX11_readerIs_95 rfl (lv_at hl 1 rfl) ?_
      obtain ⟨x13, hx13, h⟩ := mbv_some h
      refine kr_ci hC hW (kr_runV hC hW hl.1 (t_vs_Asks_ofReader hx13) cw_X11_252 (wx_5 g μ) rfl rfl rfl (Nat.le_of_ble_eq_true rfl) dX11_readerIs_96 (by decide)) (fun H locs hW => ?_)
      cases h
      exact kr_iret hC hr hlocks hW dX11_readerIs_99
    replace h := if_n hc12 h
    have thc3 := lv_neT (a := 0) hc3 (by decide)
    have thc5 := lv_neT (a := 1) hc5 (by decide)
    have thc7 := lv_neT (a := 2) hc7 (by decide)
    have thc9 := lv_neT (a := 3) hc9 (by decide)
    have thc12 := lv_neT (a := 4) hc12 (by decide)
    refine lv_tableOut (tgt := 100) hx hb dX11_readerIs_14 (by omega) (by decide) ?_
    refine lv_iconst (v := (-1)) hx hb dX11_readerIs_100 (by decide) ?_
    cases h
    exact kr_iret hC hr hlocks hW dX11_readerIs_101
  · replace h := if_p hc2 h
    refine lv_iconst (v := (-1)) hx hb dX11_readerIs_11 (by decide) ?_
    cases h
    exact kr_iret hC hr hlocks hW dX11_readerIs_12
set_option maxHeartbeats 4000000 in
set_option maxRecDepth 100000 in
theorem t_vs_pays {l : Launch} {g : Gx} {A : Nat → Prop} {μ : Mm} {a1 : Int32} {a2 : Int32} {v : Int32} {u : Mm} (h : vs_pays μ a1 a2 = some (v, u)) : Cti l g A wx yX11_pays cX11_pays 3 (some .int) 2 [.ref (ad g 0), .int a1, .int a2] μ v u := by
  refine ent (lv := [(0, .ref (ad g 0)), (1, .int a1), (2, .int a2)]) (by decide) (Nat.le_of_ble_eq_true rfl) rfl ?_
  intro p e s m args below meth c hC hr hlocks hnm hW ls hl
  replace hC : Cx g RX11 cX11_pays 3 p s m args c := hC
  obtain ⟨hx, hb, hml, hown, hts, hK, hN⟩ := id hC
  unfold vs_pays at h
  refine lv_aload_n hx hb dX11_pays_0 rfl (lv_at hl 0 rfl) ?_
  refine gf_X11_26_x0 hC hW dX11_pays_1 ?_
  refine lv_iload_n hx hb dX11_pays_4 rfl (lv_at hl 1 rfl) ?_
  obtain ⟨x1, hx1, h⟩ := mbv_some h
  refine kr_ci hC hW (kr_runV hC hW hl.1 (t_vs_Readers_has hx1) cw_X11_131 (wx_3 g μ) rfl rfl rfl (Nat.le_of_ble_eq_true rfl) dX11_pays_5 (by decide)) (fun H locs hW => ?_)
  refine lv_if_eq (tgt := 28) hx hb dX11_pays_8 (by decide) (fun hc2 => ?_) (fun hc2 => ?_)
  · replace h := if_p hc2 h
    refine lv_iconst (v := (-1)) hx hb dX11_pays_28 (by decide) ?_
    cases h
    exact kr_iret hC hr hlocks hW dX11_pays_29
  · replace h := if_n hc2 h
    refine lv_iload_n hx hb dX11_pays_11 rfl (lv_at hl 2 rfl) ?_
    refine lv_iconst (v := 1) hx hb dX11_pays_12 (by decide) ?_
    refine lv_aload_n hx hb dX11_pays_13 rfl (lv_at hl 0 rfl) ?_
    refine gf_X11_26_x0 hC hW dX11_pays_14 ?_
    refine gf_X11_246_x3 hC hW dX11_pays_17 ?_
    refine lv_iload_n hx hb dX11_pays_20 rfl (lv_at hl 1 rfl) ?_
    obtain ⟨x3, ex3, hin, h⟩ := mrd_ex h
    refine kr_iald hC hW (wx_31 g μ) hin ex3 dX11_pays_21 ?_
    obtain ⟨x4, hx4, h⟩ := mbv_some h
    refine kr_ci hC hW (kr_runS hC hW hl.1 (t_vs_within hx4) cw_X11_100 rfl rfl (Nat.le_of_ble_eq_true rfl) dX11_pays_22 (by decide)) (fun H locs hW => ?_)
    refine lv_if_ne (tgt := 30) hx hb dX11_pays_25 (by decide) (fun hc5 => ?_) (fun hc5 => ?_)
    · replace h := if_n hc5 h
      refine lv_aload_n hx hb dX11_pays_30 rfl (lv_at hl 0 rfl) ?_
      refine gf_X11_26_x0 hC hW dX11_pays_31 ?_
      refine gf_X11_246_x3 hC hW dX11_pays_34 ?_
      refine lv_iload_n hx hb dX11_pays_37 rfl (lv_at hl 1 rfl) ?_
      refine lv_dup2_11 hx hb dX11_pays_38 rfl rfl ?_
      obtain ⟨x6, ex6, hin, h⟩ := mrd_ex h
      refine kr_iald hC hW (wx_31 g μ) hin ex6 dX11_pays_39 ?_
      refine lv_iload_n hx hb dX11_pays_40 rfl (lv_at hl 2 rfl) ?_
      refine lv_isub hx hb dX11_pays_41 ?_
      obtain ⟨μ7, eμ7, hin, h⟩ := mwr_ex h
      refine kr_iast hC hW (wx_31 g μ) (wxs_31 eμ7) hin dX11_pays_42 (fun H locs hW => ?_)
      refine lv_aload_n hx hb dX11_pays_43 rfl (lv_at hl 0 rfl) ?_
      refine gf_X11_26_x0 hC hW dX11_pays_44 ?_
      refine gf_X11_246_x3 hC hW dX11_pays_47 ?_
      refine lv_iload_n hx hb dX11_pays_50 rfl (lv_at hl 1 rfl) ?_
      obtain ⟨x8, ex8, hin, h⟩ := mrd_ex h
      refine kr_iald hC hW (wx_31 g μ7) hin ex8 dX11_pays_51 ?_
      cases h
      exact kr_iret hC hr hlocks hW dX11_pays_52
    · replace h := if_p hc5 h
      refine lv_iconst (v := (-1)) hx hb dX11_pays_28 (by decide) ?_
      cases h
      exact kr_iret hC hr hlocks hW dX11_pays_29
set_option maxHeartbeats 4000000 in
set_option maxRecDepth 100000 in
theorem tl_vs_Stops_lowestVan_2 (μ : Mm) (a1 : Int32) (a2 : Int32) (hC : Cx g RX8 cX8_lowestVan 4 p s m args c) {e0 : (Int32) ⊕ (Unit)} (kx0 : (Sum.elim (fun a => ∀ (ls : Array Slot) (H : Heap) (locs : List Loc), lv_has ls 4 [(3, .int a)] → wP g wx A s.heap μ H locs → W p l e (rmD 3) s m args below meth c H locs 0 0 Q (F0 m 17 ls [])) (fun _ => True)) e0) (kx1 : (Sum.elim (fun _ => True) (fun a => ∀ (ls : Array Slot) (H : Heap) (locs : List Loc), lv_has ls 4 [] → wP g wx A s.heap μ H locs → W p l e (rmD 3) s m args below meth c H locs 0 0 Q (F0 m 25 ls []))) e0) : ∀ (n : Nat) (q : Int32), miter (fun q => vs_Stops_lowestVan_b2 μ a1 a2 q) n q = some e0 → ∀ (ls : Array Slot) (H : Heap) (locs : List Loc), lv_has ls 4 [(0, .ref (ad g 4)), (1, .int a1), (2, .int a2), (3, .int q)] → wP g wx A s.heap μ H locs → W p l e (rmD 3) s m args below meth c H locs 0 0 Q (F0 m 2 ls []) := by
  obtain ⟨hx, hb, hml, hown, hts, hK, hN⟩ := id hC
  refine miter_ind (fun q r hf k1 k2 => ?_)
  obtain ⟨xs3, rfl⟩ : ∃ z, z = q := ⟨_, rfl⟩
  intro ls H locs hl hW
  have h : vs_Stops_lowestVan_b2 μ a1 a2 xs3 = some r := hf
  unfold vs_Stops_lowestVan_b2 at h
  refine lv_iload_n hx hb dX8_lowestVan_2 rfl (lv_at hl 3 rfl) ?_
  refine lv_iconst (v := 3) hx hb dX8_lowestVan_3 (by decide) ?_
  refine lv_icmp_ge (tgt := 25) hx hb dX8_lowestVan_4 (by decide) (fun hc1 => ?_) (fun hc1 => ?_)
  · replace h := if_p hc1 h
    obtain rfl := k2 _ (Option.some.inj h).symm
    exact kx1 _ _ _ (lv_sub hl [] rfl) hW
  · replace h := if_n hc1 h
    refine lv_aload_n hx hb dX8_lowestVan_7 rfl (lv_at hl 0 rfl) ?_
    refine lv_iload_n hx hb dX8_lowestVan_8 rfl (lv_at hl 3 rfl) ?_
    refine lv_iload_n hx hb dX8_lowestVan_9 rfl (lv_at hl 1 rfl) ?_
    refine lv_iload_n hx hb dX8_lowestVan_10 rfl (lv_at hl 2 rfl) ?_
    obtain ⟨x2, hx2, h⟩ := mbv_some h
    refine kr_ci hC hW (kr_runV hC hW hl.1 (t_vs_Stops_goesTo hx2) cw_X8_70 (wx_4 g μ) rfl rfl rfl (Nat.le_of_ble_eq_true rfl) dX8_lowestVan_11 (by decide)) (fun H locs hW => ?_)
    refine lv_if_eq (tgt := 19) hx hb dX8_lowestVan_14 (by decide) (fun hc3 => ?_) (fun hc3 => ?_)
    · replace h := if_p hc3 h
      refine lv_iinc (v := (xs3 + 1)) (lv' := [(3, .int (xs3 + 1)), (0, .ref (ad g 4)), (1, .int a1), (2, .int a2)]) hx hb dX8_lowestVan_19 hl (k := 3) rfl (by rw [oi_1]) (by decide) rfl (fun ls hl => ?_)
      refine lv_goto (tgt := 2) hx hb dX8_lowestVan_22 (by decide) ?_
      exact k1 (xs3 + 1) (Option.some.inj h).symm _ _ _ (lv_sub hl [1, 2, 3, 0] rfl) hW
    · replace h := if_n hc3 h
      obtain rfl := k2 _ (Option.some.inj h).symm
      exact kx0 _ _ _ (lv_sub hl [3] rfl) hW
set_option maxHeartbeats 4000000 in
set_option maxRecDepth 100000 in
theorem t_vs_Stops_lowestVan {l : Launch} {g : Gx} {A : Nat → Prop} {μ : Mm} {a1 : Int32} {a2 : Int32} {v : Int32} (h : vs_Stops_lowestVan μ a1 a2 = some v) : Cti l g A wx yX8_lowestVan cX8_lowestVan 4 (some .int) 3 [.ref (ad g 4), .int a1, .int a2] μ v μ := by
  refine ent (lv := [(0, .ref (ad g 4)), (1, .int a1), (2, .int a2)]) (by decide) (Nat.le_of_ble_eq_true rfl) rfl ?_
  intro p e s m args below meth c hC hr hlocks hnm hW ls hl
  replace hC : Cx g RX8 cX8_lowestVan 4 p s m args c := hC
  obtain ⟨hx, hb, hml, hown, hts, hK, hN⟩ := id hC
  unfold vs_Stops_lowestVan at h
  refine lv_iconst (v := 0) hx hb dX8_lowestVan_0 (by decide) ?_
  refine lv_istore_n (lv' := [(3, .int 0), (0, .ref (ad g 4)), (1, .int a1), (2, .int a2)]) hx hb dX8_lowestVan_1 rfl hl (by decide) rfl (fun ls hl => ?_)
  rcases msum2_ex h with ⟨x5, he4, h⟩ | ⟨e0, he4, h⟩
  · refine tl_vs_Stops_lowestVan_2 μ a1 a2 hC (e0 := (.inl x5)) (fun ls H locs hl hW => ?_) trivial FU 0 he4 _ _ _ (lv_sub hl [1, 2, 3, 0] rfl) hW
    refine lv_iload_n hx hb dX8_lowestVan_17 rfl (lv_at hl 0 rfl) ?_
    cases h
    exact kr_iret hC hr hlocks hW dX8_lowestVan_18
  · refine tl_vs_Stops_lowestVan_2 μ a1 a2 hC (e0 := (.inr ())) trivial (fun ls H locs hl hW => ?_) FU 0 he4 _ _ _ (lv_sub hl [1, 2, 3, 0] rfl) hW
    refine lv_iconst (v := (-1)) hx hb dX8_lowestVan_25 (by decide) ?_
    cases h
    exact kr_iret hC hr hlocks hW dX8_lowestVan_26
set_option maxHeartbeats 4000000 in
set_option maxRecDepth 100000 in
theorem t_vs_Asks_add {l : Launch} {g : Gx} {A : Nat → Prop} {μ : Mm} {a1 : Int32} {a2 : Int32} {a3 : Int32} {u : Mm} (h : vs_Asks_add μ a1 a2 a3 = some u) : Ctv l g A wx yX1_add cX1_add 4 none 0 [.ref (ad g 5), .int a1, .int a2, .int a3] μ u := by
  refine ent (lv := [(0, .ref (ad g 5)), (1, .int a1), (2, .int a2), (3, .int a3)]) (by decide) (Nat.le_of_ble_eq_true rfl) rfl ?_
  intro p e s m args below meth c hC hr hlocks hnm hW ls hl
  replace hC : Cx g RX1 cX1_add 4 p s m args c := hC
  obtain ⟨hx, hb, hml, hown, hts, hK, hN⟩ := id hC
  unfold vs_Asks_add at h
  refine lv_aload_n hx hb dX1_add_0 rfl (lv_at hl 0 rfl) ?_
  refine gf_X1_9_x5 hC hW dX1_add_1 ?_
  refine lv_iload_n hx hb dX1_add_4 rfl (lv_at hl 1 rfl) ?_
  refine lv_bipush (v := 32) hx hb dX1_add_5 (by decide) ?_
  refine lv_imul hx hb dX1_add_7 ?_
  refine lv_iload_n hx hb dX1_add_8 rfl (lv_at hl 2 rfl) ?_
  refine lv_iadd hx hb dX1_add_9 ?_
  refine lv_iload_n hx hb dX1_add_10 rfl (lv_at hl 3 rfl) ?_
  obtain ⟨μ1, eμ1, hin, h⟩ := mwr_ex h
  refine kr_iast hC hW (wx_44 g μ) (wxs_44 eμ1) hin dX1_add_11 (fun H locs hW => ?_)
  refine lv_aload_n hx hb dX1_add_12 rfl (lv_at hl 0 rfl) ?_
  refine lv_dup hx hb dX1_add_13 rfl ?_
  refine gf_X1_30_x5 hC hW dX1_add_14 ?_
  refine lv_iconst (v := 1) hx hb dX1_add_17 (by decide) ?_
  refine lv_iadd hx hb dX1_add_18 ?_
  obtain ⟨μ2, eμ2, h⟩ := mst_some h
  refine pf_X1_30_x5 hC hW eμ2 dX1_add_19 (fun H locs hW => ?_)
  cases h
  exact kr_vret hC hr hlocks hW dX1_add_22
set_option maxHeartbeats 4000000 in
set_option maxRecDepth 100000 in
theorem tj_vs_ask_51 {μ : Mm} (a1 : Int32) (a2 : Int32) (a3 : Int32) (y0 : Int32) (hC : Cx g RX11 cX11_ask 5 p s m args c) (hr : meth.sig.returnType = some .boolean) (hlocks : meth.locks = false) {v : Bool} {u : Mm} (hl : lv_has ls 5 [(0, .ref (ad g 0)), (1, .int a1), (2, .int a2), (3, .int a3)]) (hW : wP g wx A s.heap μ H locs) (h : vs_ask_j51 μ a1 a2 a3 y0 = some (v, u)) : W p l e (rmD 4) s m args below meth c H locs 0 0 (MQ below (Qi g A wx (bI v) u) args s 0 0 A) (F0 m 51 ls [.int y0]) := by
  obtain ⟨hx, hb, hml, hown, hts, hK, hN⟩ := id hC
  unfold vs_ask_j51 at h
  refine lv_istore (lv' := [(4, .int y0), (0, .ref (ad g 0)), (1, .int a1), (2, .int a2), (3, .int a3)]) hx hb dX11_ask_51 hl (by decide) rfl (fun ls hl => ?_)
  refine lv_iload hx hb dX11_ask_53 (lv_at hl 0 rfl) ?_
  refine lv_if_eq (tgt := 83) hx hb dX11_ask_55 (by decide) (fun hc8 => ?_) (fun hc8 => ?_)
  · replace h := if_p hc8 h
    refine lv_iconst (v := 0) hx hb dX11_ask_83 (by decide) ?_
    cases h
    exact kr_zret hC hr hlocks _ rfl hW dX11_ask_84
  · replace h := if_n hc8 h
    refine lv_aload_n hx hb dX11_ask_58 rfl (lv_at hl 1 rfl) ?_
    refine gf_X11_40_x0 hC hW dX11_ask_59 ?_
    refine lv_iload_n hx hb dX11_ask_62 rfl (lv_at hl 2 rfl) ?_
    refine lv_iload_n hx hb dX11_ask_63 rfl (lv_at hl 3 rfl) ?_
    obtain ⟨x9, hx9, h⟩ := mbv_some h
    refine kr_ci hC hW (kr_runV hC hW hl.1 (t_vs_Asks_dayOf hx9) cw_X11_258 (wx_5 g μ) rfl rfl rfl (Nat.le_of_ble_eq_true rfl) dX11_ask_64 (by decide)) (fun H locs hW => ?_)
    refine lv_iconst (v := (-1)) hx hb dX11_ask_67 (by decide) ?_
    refine lv_icmp_ne (tgt := 83) hx hb dX11_ask_68 (by decide) (fun hc10 => ?_) (fun hc10 => ?_)
    · replace h := if_n hc10 h
      refine lv_iconst (v := 0) hx hb dX11_ask_83 (by decide) ?_
      cases h
      exact kr_zret hC hr hlocks _ rfl hW dX11_ask_84
    · replace h := if_p hc10 h
      refine lv_aload_n hx hb dX11_ask_71 rfl (lv_at hl 1 rfl) ?_
      refine gf_X11_19_x0 hC hW dX11_ask_72 ?_
      refine lv_iload_n hx hb dX11_ask_75 rfl (lv_at hl 3 rfl) ?_
      obtain ⟨x11, hx11, h⟩ := mbv_some h
      refine kr_ci hC hW (kr_runV hC hW hl.1 (t_vs_Books_holder hx11) cw_X11_221 (wx_2 g μ) rfl rfl rfl (Nat.le_of_ble_eq_true rfl) dX11_ask_76 (by decide)) (fun H locs hW => ?_)
      refine lv_iload_n hx hb dX11_ask_79 rfl (lv_at hl 2 rfl) ?_
      refine lv_icmp_ne (tgt := 85) hx hb dX11_ask_80 (by decide) (fun hc12 => ?_) (fun hc12 => ?_)
      · replace h := if_n hc12 h
        refine lv_aload_n hx hb dX11_ask_85 rfl (lv_at hl 1 rfl) ?_
        refine gf_X11_40_x0 hC hW dX11_ask_86 ?_
        refine lv_iload_n hx hb dX11_ask_89 rfl (lv_at hl 2 rfl) ?_
        refine lv_iload_n hx hb dX11_ask_90 rfl (lv_at hl 3 rfl) ?_
        refine lv_iload_n hx hb dX11_ask_91 rfl (lv_at hl 4 rfl) ?_
        obtain ⟨μ14, hxμ14, h⟩ := mbv_some h
        refine kr_cv hC hW (kr_runV hC hW hl.1 (t_vs_Asks_add hxμ14) cw_X11_261 (wx_5 g μ) rfl rfl rfl (Nat.le_of_ble_eq_true rfl) dX11_ask_92 (by decide)) (fun H locs hW => ?_)
        refine lv_iconst (v := 1) hx hb dX11_ask_95 (by decide) ?_
        cases h
        exact kr_zret hC hr hlocks _ rfl hW dX11_ask_96
      · replace h := if_p hc12 h
        refine lv_iconst (v := 0) hx hb dX11_ask_83 (by decide) ?_
        cases h
        exact kr_zret hC hr hlocks _ rfl hW dX11_ask_84
set_option maxHeartbeats 4000000 in
set_option maxRecDepth 100000 in
theorem t_vs_ask {l : Launch} {g : Gx} {A : Nat → Prop} {μ : Mm} {a1 : Int32} {a2 : Int32} {a3 : Int32} {v : Bool} {u : Mm} (h : vs_ask μ a1 a2 a3 = some (v, u)) : Cti l g A wx yX11_ask cX11_ask 5 (some .boolean) 4 [.ref (ad g 0), .int a1, .int a2, .int a3] μ (bI v) u := by
  refine ent (lv := [(0, .ref (ad g 0)), (1, .int a1), (2, .int a2), (3, .int a3)]) (by decide) (Nat.le_of_ble_eq_true rfl) rfl ?_
  intro p e s m args below meth c hC hr hlocks hnm hW ls hl
  replace hC : Cx g RX11 cX11_ask 5 p s m args c := hC
  obtain ⟨hx, hb, hml, hown, hts, hK, hN⟩ := id hC
  unfold vs_ask at h
  refine lv_aload_n hx hb dX11_ask_0 rfl (lv_at hl 0 rfl) ?_
  refine lv_iload_n hx hb dX11_ask_1 rfl (lv_at hl 1 rfl) ?_
  refine lv_iload_n hx hb dX11_ask_2 rfl (lv_at hl 2 rfl) ?_
  obtain ⟨x1, hx1, h⟩ := mbv_some h
  refine kr_ci hC hW (kr_runV hC hW hl.1 (t_vs_isPair hx1) cw_X11_135 (wx_0 g μ) rfl rfl rfl (Nat.le_of_ble_eq_true rfl) dX11_ask_3 (by decide)) (fun H locs hW => ?_)
  refine lv_if_eq (tgt := 23) hx hb dX11_ask_6 (by decide) (fun hc2 => ?_) (fun hc2 => ?_)
  · replace h := if_p hc2 h
    refine lv_iconst (v := 0) hx hb dX11_ask_23 (by decide) ?_
    cases h
    exact kr_zret hC hr hlocks _ rfl hW dX11_ask_24
  · replace h := if_n hc2 h
    refine lv_iload_n hx hb dX11_ask_9 rfl (lv_at hl 3 rfl) ?_
    refine lv_aload_n hx hb dX11_ask_10 rfl (lv_at hl 0 rfl) ?_
    refine gf_X11_96_x0 hC hW dX11_ask_11 ?_
    refine lv_sipush (v := 199) hx hb dX11_ask_14 (by decide) ?_
    obtain ⟨x3, hx3, h⟩ := mbv_some h
    refine kr_ci hC hW (kr_runS hC hW hl.1 (t_vs_within hx3) cw_X11_100 rfl rfl (Nat.le_of_ble_eq_true rfl) dX11_ask_17 (by decide)) (fun H locs hW => ?_)
    refine lv_if_ne (tgt := 25) hx hb dX11_ask_20 (by decide) (fun hc4 => ?_) (fun hc4 => ?_)
    · replace h := if_n hc4 h
      refine lv_aload_n hx hb dX11_ask_25 rfl (lv_at hl 0 rfl) ?_
      refine gf_X11_33_x0 hC hW dX11_ask_26 ?_
      refine lv_aload_n hx hb dX11_ask_29 rfl (lv_at hl 0 rfl) ?_
      refine gf_X11_26_x0 hC hW dX11_ask_30 ?_
      refine gf_X11_202_x3 hC hW dX11_ask_33 ?_
      refine lv_iload_n hx hb dX11_ask_36 rfl (lv_at hl 1 rfl) ?_
      obtain ⟨x5, ex5, hin, h⟩ := mrd_ex h
      refine kr_iald hC hW (wx_25 g μ) hin ex5 dX11_ask_37 ?_
      refine lv_iload_n hx hb dX11_ask_38 rfl (lv_at hl 3 rfl) ?_
      obtain ⟨x6, hx6, h⟩ := mbv_some h
      refine kr_ci hC hW (kr_runV hC hW hl.1 (t_vs_Stops_lowestVan hx6) cw_X11_255 (wx_4 g μ) rfl rfl rfl (Nat.le_of_ble_eq_true rfl) dX11_ask_39 (by decide)) (fun H locs hW => ?_)
      refine lv_iconst (v := (-1)) hx hb dX11_ask_42 (by decide) ?_
      refine lv_icmp_eq (tgt := 50) hx hb dX11_ask_43 (by decide) (fun hc7 => ?_) (fun hc7 => ?_)
      · replace h := if_p hc7 h
        refine lv_iconst (v := 0) hx hb dX11_ask_50 (by decide) ?_
        exact tj_vs_ask_51 a1 a2 a3 0 hC hr hlocks (lv_sub hl [0, 1, 2, 3] rfl) hW h
      · replace h := if_n hc7 h
        refine lv_iconst (v := 1) hx hb dX11_ask_46 (by decide) ?_
        refine lv_goto (tgt := 51) hx hb dX11_ask_47 (by decide) ?_
        exact tj_vs_ask_51 a1 a2 a3 1 hC hr hlocks (lv_sub hl [0, 1, 2, 3] rfl) hW h
    · replace h := if_p hc4 h
      refine lv_iconst (v := 0) hx hb dX11_ask_23 (by decide) ?_
      cases h
      exact kr_zret hC hr hlocks _ rfl hW dX11_ask_24
set_option maxHeartbeats 4000000 in
set_option maxRecDepth 100000 in
theorem t_vs_unask {l : Launch} {g : Gx} {A : Nat → Prop} {μ : Mm} {a1 : Int32} {a2 : Int32} {v : Bool} {u : Mm} (h : vs_unask μ a1 a2 = some (v, u)) : Cti l g A wx yX11_unask cX11_unask 3 (some .boolean) 3 [.ref (ad g 0), .int a1, .int a2] μ (bI v) u := by
  refine ent (lv := [(0, .ref (ad g 0)), (1, .int a1), (2, .int a2)]) (by decide) (Nat.le_of_ble_eq_true rfl) rfl ?_
  intro p e s m args below meth c hC hr hlocks hnm hW ls hl
  replace hC : Cx g RX11 cX11_unask 3 p s m args c := hC
  obtain ⟨hx, hb, hml, hown, hts, hK, hN⟩ := id hC
  unfold vs_unask at h
  refine lv_aload_n hx hb dX11_unask_0 rfl (lv_at hl 0 rfl) ?_
  refine lv_iload_n hx hb dX11_unask_1 rfl (lv_at hl 1 rfl) ?_
  refine lv_iload_n hx hb dX11_unask_2 rfl (lv_at hl 2 rfl) ?_
  obtain ⟨x1, hx1, h⟩ := mbv_some h
  refine kr_ci hC hW (kr_runV hC hW hl.1 (t_vs_isPair hx1) cw_X11_135 (wx_0 g μ) rfl rfl rfl (Nat.le_of_ble_eq_true rfl) dX11_unask_3 (by decide)) (fun H locs hW => ?_)
  refine lv_if_eq (tgt := 25) hx hb dX11_unask_6 (by decide) (fun hc2 => ?_) (fun hc2 => ?_)
  · replace h := if_p hc2 h
    refine lv_iconst (v := 0) hx hb dX11_unask_25 (by decide) ?_
    cases h
    exact kr_zret hC hr hlocks _ rfl hW dX11_unask_26
  · replace h := if_n hc2 h
    refine lv_aload_n hx hb dX11_unask_9 rfl (lv_at hl 0 rfl) ?_
    refine gf_X11_40_x0 hC hW dX11_unask_10 ?_
    refine lv_iload_n hx hb dX11_unask_13 rfl (lv_at hl 1 rfl) ?_
    refine lv_iload_n hx hb dX11_unask_14 rfl (lv_at hl 2 rfl) ?_
    obtain ⟨x3, μ4, hx3, h⟩ := mbm_some h
    refine kr_ci hC hW (kr_runV hC hW hl.1 (t_vs_Asks_remove hx3) cw_X11_218 (wx_5 g μ) rfl rfl rfl (Nat.le_of_ble_eq_true rfl) dX11_unask_15 (by decide)) (fun H locs hW => ?_)
    refine lv_if_eq (tgt := 25) hx hb dX11_unask_18 (by decide) (fun hc5 => ?_) (fun hc5 => ?_)
    · replace h := if_p hc5 h
      refine lv_iconst (v := 0) hx hb dX11_unask_25 (by decide) ?_
      cases h
      exact kr_zret hC hr hlocks _ rfl hW dX11_unask_26
    · replace h := if_n hc5 h
      refine lv_iconst (v := 1) hx hb dX11_unask_21 (by decide) ?_
      refine lv_goto (tgt := 26) hx hb dX11_unask_22 (by decide) ?_
      cases h
      exact kr_zret hC hr hlocks _ rfl hW dX11_unask_26
set_option maxHeartbeats 4000000 in
set_option maxRecDepth 100000 in
theorem tl_vs_Asks_booksFor_5 (μ : Mm) (a1 : Int32) (a2 : Int32) (hC : Cx g RX1 cX1_booksFor 5 p s m args c) {e0 : (Int32)} (kx0 : ∀ (ls : Array Slot) (H : Heap) (locs : List Loc), lv_has ls 5 [(3, .int e0)] → wP g wx A s.heap μ H locs → W p l e (rmD 1) s m args below meth c H locs 0 0 Q (F0 m 36 ls [])) : ∀ (n : Nat) (q : Int32 × Int32), miter (fun q => vs_Asks_booksFor_b5 μ a1 a2 q.1 q.2) n q = some e0 → ∀ (ls : Array Slot) (H : Heap) (locs : List Loc), lv_has ls 5 [(0, .ref (ad g 5)), (1, .int a1), (2, .int a2), (3, .int q.1), (4, .int q.2)] → wP g wx A s.heap μ H locs → W p l e (rmD 1) s m args below meth c H locs 0 0 Q (F0 m 5 ls []) := by
  obtain ⟨hx, hb, hml, hown, hts, hK, hN⟩ := id hC
  refine miter_ind (fun q r hf k1 k2 => ?_)
  obtain ⟨xs3, xs4⟩ := q
  intro ls H locs hl hW
  have h : vs_Asks_booksFor_b5 μ a1 a2 xs3 xs4 = some r := hf
  unfold vs_Asks_booksFor_b5 at h
  refine lv_iload hx hb dX1_booksFor_5 (lv_at hl 4 rfl) ?_
  refine lv_bipush (v := 32) hx hb dX1_booksFor_7 (by decide) ?_
  refine lv_icmp_ge (tgt := 36) hx hb dX1_booksFor_9 (by decide) (fun hc1 => ?_) (fun hc1 => ?_)
  · replace h := if_p hc1 h
    obtain rfl := k2 _ (Option.some.inj h).symm
    exact kx0 _ _ _ (lv_sub hl [3] rfl) hW
  · replace h := if_n hc1 h
    refine lv_aload_n hx hb dX1_booksFor_12 rfl (lv_at hl 0 rfl) ?_
    refine lv_iload_n hx hb dX1_booksFor_13 rfl (lv_at hl 1 rfl) ?_
    refine lv_iload hx hb dX1_booksFor_14 (lv_at hl 4 rfl) ?_
    obtain ⟨x2, hx2, h⟩ := mbv_some h
    refine kr_ci hC hW (kr_runV hC hW hl.1 (t_vs_Asks_dayOf hx2) cw_X1_34 (wx_5 g μ) rfl rfl rfl (Nat.le_of_ble_eq_true rfl) dX1_booksFor_16 (by decide)) (fun H locs hW => ?_)
    refine lv_iload_n hx hb dX1_booksFor_19 rfl (lv_at hl 2 rfl) ?_
    refine lv_icmp_ne (tgt := 30) hx hb dX1_booksFor_20 (by decide) (fun hc3 => ?_) (fun hc3 => ?_)
    · replace h := if_n hc3 h
      refine lv_iinc (v := (xs4 + 1)) (lv' := [(4, .int (xs4 + 1)), (0, .ref (ad g 5)), (1, .int a1), (2, .int a2), (3, .int xs3)]) hx hb dX1_booksFor_30 hl (k := 4) rfl (by rw [oi_1]) (by decide) rfl (fun ls hl => ?_)
      refine lv_goto (tgt := 5) hx hb dX1_booksFor_33 (by decide) ?_
      exact k1 (xs3, (xs4 + 1)) (Option.some.inj h).symm _ _ _ (lv_sub hl [1, 2, 3, 4, 0] rfl) hW
    · replace h := if_p hc3 h
      refine lv_iload_n hx hb dX1_booksFor_23 rfl (lv_at hl 3 rfl) ?_
      refine lv_iconst (v := 1) hx hb dX1_booksFor_24 (by decide) ?_
      refine lv_iload hx hb dX1_booksFor_25 (lv_at hl 4 rfl) ?_
      refine lv_ishl hx hb dX1_booksFor_27 ?_
      refine lv_ior hx hb dX1_booksFor_28 ?_
      refine lv_istore_n (lv' := [(3, .int (xs3 ||| ((1 : Int32) <<< (xs4 &&& 31)))), (0, .ref (ad g 5)), (1, .int a1), (2, .int a2), (4, .int xs4)]) hx hb dX1_booksFor_29 rfl hl (by decide) rfl (fun ls hl => ?_)
      refine lv_iinc (v := (xs4 + 1)) (lv' := [(4, .int (xs4 + 1)), (3, .int (xs3 ||| ((1 : Int32) <<< (xs4 &&& 31)))), (0, .ref (ad g 5)), (1, .int a1), (2, .int a2)]) hx hb dX1_booksFor_30 hl (k := 4) rfl (by rw [oi_1]) (by decide) rfl (fun ls hl => ?_)
      refine lv_goto (tgt := 5) hx hb dX1_booksFor_33 (by decide) ?_
      exact k1 ((xs3 ||| ((1 : Int32) <<< (xs4 &&& 31))), (xs4 + 1)) (Option.some.inj h).symm _ _ _ (lv_sub hl [2, 3, 4, 1, 0] rfl) hW
set_option maxHeartbeats 4000000 in
set_option maxRecDepth 100000 in
theorem t_vs_Asks_booksFor {l : Launch} {g : Gx} {A : Nat → Prop} {μ : Mm} {a1 : Int32} {a2 : Int32} {v : Int32} (h : vs_Asks_booksFor μ a1 a2 = some v) : Cti l g A wx yX1_booksFor cX1_booksFor 5 (some .int) 1 [.ref (ad g 5), .int a1, .int a2] μ v μ := by
  refine ent (lv := [(0, .ref (ad g 5)), (1, .int a1), (2, .int a2)]) (by decide) (Nat.le_of_ble_eq_true rfl) rfl ?_
  intro p e s m args below meth c hC hr hlocks hnm hW ls hl
  replace hC : Cx g RX1 cX1_booksFor 5 p s m args c := hC
  obtain ⟨hx, hb, hml, hown, hts, hK, hN⟩ := id hC
  unfold vs_Asks_booksFor at h
  refine lv_iconst (v := 0) hx hb dX1_booksFor_0 (by decide) ?_
  refine lv_istore_n (lv' := [(3, .int 0), (0, .ref (ad g 5)), (1, .int a1), (2, .int a2)]) hx hb dX1_booksFor_1 rfl hl (by decide) rfl (fun ls hl => ?_)
  refine lv_iconst (v := 0) hx hb dX1_booksFor_2 (by decide) ?_
  refine lv_istore (lv' := [(4, .int 0), (3, .int 0), (0, .ref (ad g 5)), (1, .int a1), (2, .int a2)]) hx hb dX1_booksFor_3 hl (by decide) rfl (fun ls hl => ?_)
  obtain ⟨x4, he5, h⟩ := mbv_some h
  refine tl_vs_Asks_booksFor_5 μ a1 a2 hC (fun ls H locs hl hW => ?_) FU (0, 0) he5 _ _ _ (lv_sub hl [2, 3, 4, 1, 0] rfl) hW
  refine lv_iload_n hx hb dX1_booksFor_36 rfl (lv_at hl 0 rfl) ?_
  cases h
  exact kr_iret hC hr hlocks hW dX1_booksFor_37
set_option maxHeartbeats 4000000 in
set_option maxRecDepth 100000 in
theorem tl_vs_boardOf_16 (μ : Mm) (a1 : Int32) (a3 : Int32) (hC : Cx g RX11 cX11_boardOf 6 p s m args c) {e0 : (Int32)} (kx0 : ∀ (ls : Array Slot) (H : Heap) (locs : List Loc), lv_has ls 6 [(4, .int e0)] → wP g wx A s.heap μ H locs → W p l e (rmD 2) s m args below meth c H locs 0 0 Q (F0 m 66 ls [])) : ∀ (n : Nat) (q : Int32 × Int32), miter (fun q => vs_boardOf_b16 μ a1 a3 q.1 q.2) n q = some e0 → ∀ (ls : Array Slot) (H : Heap) (locs : List Loc), lv_has ls 6 [(0, .ref (ad g 0)), (1, .int a1), (3, .int a3), (4, .int q.1), (5, .int q.2)] → wP g wx A s.heap μ H locs → W p l e (rmD 2) s m args below meth c H locs 0 0 Q (F0 m 16 ls []) := by
  obtain ⟨hx, hb, hml, hown, hts, hK, hN⟩ := id hC
  refine miter_ind (fun q r hf k1 k2 => ?_)
  obtain ⟨xs4, xs5⟩ := q
  intro ls H locs hl hW
  have h : vs_boardOf_b16 μ a1 a3 xs4 xs5 = some r := hf
  unfold vs_boardOf_b16 at h
  refine lv_iload hx hb dX11_boardOf_16 (lv_at hl 4 rfl) ?_
  refine lv_aload_n hx hb dX11_boardOf_18 rfl (lv_at hl 0 rfl) ?_
  refine gf_X11_26_x0 hC hW dX11_boardOf_19 ?_
  refine gf_X11_278_x3 hC hW dX11_boardOf_22 ?_
  refine lv_icmp_ge (tgt := 66) hx hb dX11_boardOf_25 (by decide) (fun hc2 => ?_) (fun hc2 => ?_)
  · replace h := if_p hc2 h
    obtain rfl := k2 _ (Option.some.inj h).symm
    exact kx0 _ _ _ (lv_sub hl [3] rfl) hW
  · replace h := if_n hc2 h
    refine lv_iload_n hx hb dX11_boardOf_28 rfl (lv_at hl 2 rfl) ?_
    refine lv_aload_n hx hb dX11_boardOf_29 rfl (lv_at hl 0 rfl) ?_
    refine gf_X11_26_x0 hC hW dX11_boardOf_30 ?_
    refine gf_X11_202_x3 hC hW dX11_boardOf_33 ?_
    refine lv_iload hx hb dX11_boardOf_36 (lv_at hl 4 rfl) ?_
    obtain ⟨x3, ex3, hin, h⟩ := mrd_ex h
    refine kr_iald hC hW (wx_25 g μ) hin ex3 dX11_boardOf_38 ?_
    obtain ⟨x4, hx4, h⟩ := mbv_some h
    refine kr_ci hC hW (kr_runS hC hW hl.1 (t_vs_hasBit hx4) cw_X11_320 rfl rfl (Nat.le_of_ble_eq_true rfl) dX11_boardOf_39 (by decide)) (fun H locs hW => ?_)
    refine lv_if_eq (tgt := 60) hx hb dX11_boardOf_42 (by decide) (fun hc5 => ?_) (fun hc5 => ?_)
    · replace h := if_p hc5 h
      refine lv_iinc (v := (xs5 + 1)) (lv' := [(5, .int (xs5 + 1)), (0, .ref (ad g 0)), (1, .int a1), (3, .int a3), (4, .int xs4)]) hx hb dX11_boardOf_60 hl (k := 4) rfl (by rw [oi_1]) (by decide) rfl (fun ls hl => ?_)
      refine lv_goto (tgt := 16) hx hb dX11_boardOf_63 (by decide) ?_
      exact k1 (xs4, (xs5 + 1)) (Option.some.inj h).symm _ _ _ (lv_sub hl [1, 2, 3, 4, 0] rfl) hW
    · replace h := if_n hc5 h
      refine lv_iload hx hb dX11_boardOf_45 (lv_at hl 3 rfl) ?_
      refine lv_aload_n hx hb dX11_boardOf_47 rfl (lv_at hl 0 rfl) ?_
      refine gf_X11_40_x0 hC hW dX11_boardOf_48 ?_
      refine lv_iload hx hb dX11_boardOf_51 (lv_at hl 4 rfl) ?_
      refine lv_iload_n hx hb dX11_boardOf_53 rfl (lv_at hl 1 rfl) ?_
      obtain ⟨x6, hx6, h⟩ := mbv_some h
      refine kr_ci hC hW (kr_runV hC hW hl.1 (t_vs_Asks_booksFor hx6) cw_X11_409 (wx_5 g μ) rfl rfl rfl (Nat.le_of_ble_eq_true rfl) dX11_boardOf_54 (by decide)) (fun H locs hW => ?_)
      refine lv_ior hx hb dX11_boardOf_57 ?_
      refine lv_istore (lv' := [(4, .int (xs4 ||| x6)), (0, .ref (ad g 0)), (1, .int a1), (3, .int a3), (5, .int xs5)]) hx hb dX11_boardOf_58 hl (by decide) rfl (fun ls hl => ?_)
      refine lv_iinc (v := (xs5 + 1)) (lv' := [(5, .int (xs5 + 1)), (4, .int (xs4 ||| x6)), (0, .ref (ad g 0)), (1, .int a1), (3, .int a3)]) hx hb dX11_boardOf_60 hl (k := 4) rfl (by rw [oi_1]) (by decide) rfl (fun ls hl => ?_)
      refine lv_goto (tgt := 16) hx hb dX11_boardOf_63 (by decide) ?_
      exact k1 ((xs4 ||| x6), (xs5 + 1)) (Option.some.inj h).symm _ _ _ (lv_sub hl [2, 3, 4, 1, 0] rfl) hW
set_option maxHeartbeats 4000000 in
set_option maxRecDepth 100000 in
theorem t_vs_boardOf {l : Launch} {g : Gx} {A : Nat → Prop} {μ : Mm} {a1 : Int32} {a2 : Int32} {v : Int32} (h : vs_boardOf μ a1 a2 = some v) : Cti l g A wx yX11_boardOf cX11_boardOf 6 (some .int) 2 [.ref (ad g 0), .int a1, .int a2] μ v μ := by
  refine ent (lv := [(0, .ref (ad g 0)), (1, .int a1), (2, .int a2)]) (by decide) (Nat.le_of_ble_eq_true rfl) rfl ?_
  intro p e s m args below meth c hC hr hlocks hnm hW ls hl
  replace hC : Cx g RX11 cX11_boardOf 6 p s m args c := hC
  obtain ⟨hx, hb, hml, hown, hts, hK, hN⟩ := id hC
  unfold vs_boardOf at h
  refine lv_aload_n hx hb dX11_boardOf_0 rfl (lv_at hl 0 rfl) ?_
  refine gf_X11_33_x0 hC hW dX11_boardOf_1 ?_
  refine lv_iload_n hx hb dX11_boardOf_4 rfl (lv_at hl 2 rfl) ?_
  refine lv_iload_n hx hb dX11_boardOf_5 rfl (lv_at hl 1 rfl) ?_
  obtain ⟨x1, hx1, h⟩ := mbv_some h
  refine kr_ci hC hW (kr_runV hC hW hl.1 (t_vs_Stops_stopsOn hx1) cw_X11_350 (wx_4 g μ) rfl rfl rfl (Nat.le_of_ble_eq_true rfl) dX11_boardOf_6 (by decide)) (fun H locs hW => ?_)
  refine lv_istore_n (lv' := [(3, .int x1), (0, .ref (ad g 0)), (1, .int a1), (2, .int a2)]) hx hb dX11_boardOf_9 rfl hl (by decide) rfl (fun ls hl => ?_)
  refine lv_iconst (v := 0) hx hb dX11_boardOf_10 (by decide) ?_
  refine lv_istore (lv' := [(4, .int 0), (3, .int x1), (0, .ref (ad g 0)), (1, .int a1), (2, .int a2)]) hx hb dX11_boardOf_11 hl (by decide) rfl (fun ls hl => ?_)
  refine lv_iconst (v := 0) hx hb dX11_boardOf_13 (by decide) ?_
  refine lv_istore (lv' := [(5, .int 0), (4, .int 0), (3, .int x1), (0, .ref (ad g 0)), (1, .int a1), (2, .int a2)]) hx hb dX11_boardOf_14 hl (by decide) rfl (fun ls hl => ?_)
  obtain ⟨x7, he8, h⟩ := mbv_some h
  refine tl_vs_boardOf_16 μ a1 x1 hC (fun ls H locs hl hW => ?_) FU (0, 0) he8 _ _ _ (lv_sub hl [3, 4, 2, 1, 0] rfl) hW
  refine lv_iload hx hb dX11_boardOf_66 (lv_at hl 0 rfl) ?_
  cases h
  exact kr_iret hC hr hlocks hW dX11_boardOf_68
set_option maxHeartbeats 4000000 in
set_option maxRecDepth 100000 in
theorem t_vs_asLong {l : Launch} {g : Gx} {A : Nat → Prop} {Wd : Gx → Mm → va_W} {μ : Mm} {a0 : Int32} {v : Int64} (h : vs_asLong a0 = some v) : Ctl l g A Wd yX11_asLong cX11_asLong 1 (some .long) 0 [.int a0] μ v μ := by
  refine ent (lv := [(0, .int a0)]) (by decide) (Nat.le_of_ble_eq_true rfl) rfl ?_
  intro p e s m args below meth c hC hr hlocks hnm hW ls hl
  replace hC : Cx g RX11 cX11_asLong 1 p s m args c := hC
  obtain ⟨hx, hb, hml, hown, hts, hK, hN⟩ := id hC
  unfold vs_asLong at h
  refine lv_iload_n hx hb dX11_asLong_0 rfl (lv_at hl 0 rfl) ?_
  refine lv_i2l (v := (a0 : Int32).toInt64) hx hb dX11_asLong_1 rfl ?_
  refine lv_ldc2 hx hb hown (hts _ tw_841) dX11_asLong_2 ?_
  refine lv_land hx hb dX11_asLong_5 ?_
  cases h
  exact kr_lret hC hr hlocks hW dX11_asLong_6
set_option maxHeartbeats 4000000 in
set_option maxRecDepth 100000 in
theorem t_vs_aboard {l : Launch} {g : Gx} {A : Nat → Prop} {μ : Mm} {a1 : Int32} {a2 : Int32} {v : Int64} (h : vs_aboard μ a1 a2 = some v) : Ctl l g A wx yX11_aboard cX11_aboard 3 (some .long) 3 [.ref (ad g 0), .int a1, .int a2] μ v μ := by
  refine ent (lv := [(0, .ref (ad g 0)), (1, .int a1), (2, .int a2)]) (by decide) (Nat.le_of_ble_eq_true rfl) rfl ?_
  intro p e s m args below meth c hC hr hlocks hnm hW ls hl
  replace hC : Cx g RX11 cX11_aboard 3 p s m args c := hC
  obtain ⟨hx, hb, hml, hown, hts, hK, hN⟩ := id hC
  unfold vs_aboard at h
  refine lv_iload_n hx hb dX11_aboard_0 rfl (lv_at hl 1 rfl) ?_
  obtain ⟨x1, hx1, h⟩ := mbv_some h
  refine kr_ci hC hW (kr_runS hC hW hl.1 (t_vs_isDay hx1) cw_X11_179 rfl rfl (Nat.le_of_ble_eq_true rfl) dX11_aboard_1 (by decide)) (fun H locs hW => ?_)
  refine lv_if_eq (tgt := 26) hx hb dX11_aboard_4 (by decide) (fun hc2 => ?_) (fun hc2 => ?_)
  · replace h := if_p hc2 h
    refine lv_ldc2 hx hb hown (hts _ tw_842) dX11_aboard_26 ?_
    cases h
    exact kr_lret hC hr hlocks hW dX11_aboard_29
  · replace h := if_n hc2 h
    refine lv_iload_n hx hb dX11_aboard_7 rfl (lv_at hl 2 rfl) ?_
    obtain ⟨x3, hx3, h⟩ := mbv_some h
    refine kr_ci hC hW (kr_runS hC hW hl.1 (t_vs_isVan hx3) cw_X11_108 rfl rfl (Nat.le_of_ble_eq_true rfl) dX11_aboard_8 (by decide)) (fun H locs hW => ?_)
    refine lv_if_eq (tgt := 26) hx hb dX11_aboard_11 (by decide) (fun hc4 => ?_) (fun hc4 => ?_)
    · replace h := if_p hc4 h
      refine lv_ldc2 hx hb hown (hts _ tw_842) dX11_aboard_26 ?_
      cases h
      exact kr_lret hC hr hlocks hW dX11_aboard_29
    · replace h := if_n hc4 h
      refine lv_aload_n hx hb dX11_aboard_14 rfl (lv_at hl 0 rfl) ?_
      refine lv_iload_n hx hb dX11_aboard_15 rfl (lv_at hl 1 rfl) ?_
      refine lv_iload_n hx hb dX11_aboard_16 rfl (lv_at hl 2 rfl) ?_
      obtain ⟨x5, hx5, h⟩ := mbv_some h
      refine kr_ci hC hW (kr_runV hC hW hl.1 (t_vs_boardOf hx5) cw_X11_263 (wx_0 g μ) rfl rfl rfl (Nat.le_of_ble_eq_true rfl) dX11_aboard_17 (by decide)) (fun H locs hW => ?_)
      obtain ⟨x6, hx6, h⟩ := mbv_some h
      refine kr_cl hC hW (kr_runS hC hW hl.1 (t_vs_asLong hx6) cw_X11_266 rfl rfl (Nat.le_of_ble_eq_true rfl) dX11_aboard_20 (by decide)) (fun H locs hW => ?_)
      refine lv_goto (tgt := 29) hx hb dX11_aboard_23 (by decide) ?_
      cases h
      exact kr_lret hC hr hlocks hW dX11_aboard_29
set_option maxHeartbeats 4000000 in
set_option maxRecDepth 100000 in
theorem tl_vs_Stops_firstDay_2 (μ : Mm) (a1 : Int32) (hC : Cx g RX8 cX8_firstDay 4 p s m args c) {e0 : (Int32) ⊕ (Unit)} (kx0 : (Sum.elim (fun a => ∀ (ls : Array Slot) (H : Heap) (locs : List Loc), lv_has ls 4 [(3, .int a)] → wP g wx A s.heap μ H locs → W p l e (rmD 4) s m args below meth c H locs 0 0 Q (F0 m 19 ls [])) (fun _ => True)) e0) (kx1 : (Sum.elim (fun _ => True) (fun a => ∀ (ls : Array Slot) (H : Heap) (locs : List Loc), lv_has ls 4 [] → wP g wx A s.heap μ H locs → W p l e (rmD 4) s m args below meth c H locs 0 0 Q (F0 m 27 ls []))) e0) : ∀ (n : Nat) (q : Int32), miter (fun q => vs_Stops_firstDay_b2 μ a1 q) n q = some e0 → ∀ (ls : Array Slot) (H : Heap) (locs : List Loc), lv_has ls 4 [(0, .ref (ad g 4)), (1, .int a1), (3, .int q)] → wP g wx A s.heap μ H locs → W p l e (rmD 4) s m args below meth c H locs 0 0 Q (F0 m 2 ls []) := by
  obtain ⟨hx, hb, hml, hown, hts, hK, hN⟩ := id hC
  refine miter_ind (fun q r hf k1 k2 => ?_)
  obtain ⟨xs3, rfl⟩ : ∃ z, z = q := ⟨_, rfl⟩
  intro ls H locs hl hW
  have h : vs_Stops_firstDay_b2 μ a1 xs3 = some r := hf
  unfold vs_Stops_firstDay_b2 at h
  refine lv_iload_n hx hb dX8_firstDay_2 rfl (lv_at hl 2 rfl) ?_
  refine lv_sipush (v := 199) hx hb dX8_firstDay_3 (by decide) ?_
  refine lv_icmp_gt (tgt := 27) hx hb dX8_firstDay_6 (by decide) (fun hc1 => ?_) (fun hc1 => ?_)
  · replace h := if_p hc1 h
    obtain rfl := k2 _ (Option.some.inj h).symm
    exact kx1 _ _ _ (lv_sub hl [] rfl) hW
  · replace h := if_n hc1 h
    refine lv_aload_n hx hb dX8_firstDay_9 rfl (lv_at hl 0 rfl) ?_
    refine lv_iload_n hx hb dX8_firstDay_10 rfl (lv_at hl 1 rfl) ?_
    refine lv_iload_n hx hb dX8_firstDay_11 rfl (lv_at hl 2 rfl) ?_
    obtain ⟨x2, hx2, h⟩ := mbv_some h
    refine kr_ci hC hW (kr_runV hC hW hl.1 (t_vs_Stops_lowestVan hx2) cw_X8_73 (wx_4 g μ) rfl rfl rfl (Nat.le_of_ble_eq_true rfl) dX8_firstDay_12 (by decide)) (fun H locs hW => ?_)
    refine lv_iconst (v := (-1)) hx hb dX8_firstDay_15 (by decide) ?_
    refine lv_icmp_eq (tgt := 21) hx hb dX8_firstDay_16 (by decide) (fun hc3 => ?_) (fun hc3 => ?_)
    · replace h := if_p hc3 h
      refine lv_iinc (v := (xs3 + 1)) (lv' := [(3, .int (xs3 + 1)), (0, .ref (ad g 4)), (1, .int a1)]) hx hb dX8_firstDay_21 hl (k := 2) rfl (by rw [oi_1]) (by decide) rfl (fun ls hl => ?_)
      refine lv_goto (tgt := 2) hx hb dX8_firstDay_24 (by decide) ?_
      exact k1 (xs3 + 1) (Option.some.inj h).symm _ _ _ (lv_sub hl [1, 2, 0] rfl) hW
    · replace h := if_n hc3 h
      obtain rfl := k2 _ (Option.some.inj h).symm
      exact kx0 _ _ _ (lv_sub hl [2] rfl) hW
set_option maxHeartbeats 4000000 in
set_option maxRecDepth 100000 in
theorem t_vs_Stops_firstDay {l : Launch} {g : Gx} {A : Nat → Prop} {μ : Mm} {a1 : Int32} {a2 : Int32} {v : Int32} (h : vs_Stops_firstDay μ a1 a2 = some v) : Cti l g A wx yX8_firstDay cX8_firstDay 4 (some .int) 4 [.ref (ad g 4), .int a1, .int a2] μ v μ := by
  refine ent (lv := [(0, .ref (ad g 4)), (1, .int a1), (2, .int a2)]) (by decide) (Nat.le_of_ble_eq_true rfl) rfl ?_
  intro p e s m args below meth c hC hr hlocks hnm hW ls hl
  replace hC : Cx g RX8 cX8_firstDay 4 p s m args c := hC
  obtain ⟨hx, hb, hml, hown, hts, hK, hN⟩ := id hC
  unfold vs_Stops_firstDay at h
  refine lv_iload_n hx hb dX8_firstDay_0 rfl (lv_at hl 2 rfl) ?_
  refine lv_istore_n (lv' := [(3, .int a2), (0, .ref (ad g 4)), (1, .int a1), (2, .int a2)]) hx hb dX8_firstDay_1 rfl hl (by decide) rfl (fun ls hl => ?_)
  rcases msum2_ex h with ⟨x5, he4, h⟩ | ⟨e0, he4, h⟩
  · refine tl_vs_Stops_firstDay_2 μ a1 hC (e0 := (.inl x5)) (fun ls H locs hl hW => ?_) trivial FU a2 he4 _ _ _ (lv_sub hl [1, 2, 0] rfl) hW
    refine lv_iload_n hx hb dX8_firstDay_19 rfl (lv_at hl 0 rfl) ?_
    cases h
    exact kr_iret hC hr hlocks hW dX8_firstDay_20
  · refine tl_vs_Stops_firstDay_2 μ a1 hC (e0 := (.inr ())) trivial (fun ls H locs hl hW => ?_) FU a2 he4 _ _ _ (lv_sub hl [1, 2, 0] rfl) hW
    refine lv_iconst (v := (-1)) hx hb dX8_firstDay_27 (by decide) ?_
    cases h
    exact kr_iret hC hr hlocks hW dX8_firstDay_28
set_option maxHeartbeats 4000000 in
set_option maxRecDepth 100000 in
theorem t_vs_isElsewhereToday {l : Launch} {g : Gx} {A : Nat → Prop} {μ : Mm} {a1 : Int32} {a2 : Int32} {v : Bool} (h : vs_isElsewhereToday μ a1 a2 = some v) : Cti l g A wx yX11_isElsewhereToday cX11_isElsewhereToday 4 (some .boolean) 3 [.ref (ad g 0), .int a1, .int a2] μ (bI v) μ := by
  refine ent (lv := [(0, .ref (ad g 0)), (1, .int a1), (2, .int a2)]) (by decide) (Nat.le_of_ble_eq_true rfl) rfl ?_
  intro p e s m args below meth c hC hr hlocks hnm hW ls hl
  replace hC : Cx g RX11 cX11_isElsewhereToday 4 p s m args c := hC
  obtain ⟨hx, hb, hml, hown, hts, hK, hN⟩ := id hC
  unfold vs_isElsewhereToday at h
  refine lv_aload_n hx hb dX11_isElsewhereToday_0 rfl (lv_at hl 0 rfl) ?_
  refine gf_X11_19_x0 hC hW dX11_isElsewhereToday_1 ?_
  refine lv_iload_n hx hb dX11_isElsewhereToday_4 rfl (lv_at hl 1 rfl) ?_
  obtain ⟨x1, hx1, h⟩ := mbv_some h
  refine kr_ci hC hW (kr_runV hC hW hl.1 (t_vs_Books_vanOf hx1) cw_X11_199 (wx_2 g μ) rfl rfl rfl (Nat.le_of_ble_eq_true rfl) dX11_isElsewhereToday_5 (by decide)) (fun H locs hW => ?_)
  refine lv_istore_n (lv' := [(3, .int x1), (0, .ref (ad g 0)), (1, .int a1), (2, .int a2)]) hx hb dX11_isElsewhereToday_8 rfl hl (by decide) rfl (fun ls hl => ?_)
  refine lv_iload_n hx hb dX11_isElsewhereToday_9 rfl (lv_at hl 0 rfl) ?_
  refine lv_iconst (v := (-1)) hx hb dX11_isElsewhereToday_10 (by decide) ?_
  refine lv_icmp_eq (tgt := 34) hx hb dX11_isElsewhereToday_11 (by decide) (fun hc2 => ?_) (fun hc2 => ?_)
  · replace h := if_p hc2 h
    refine lv_iconst (v := 0) hx hb dX11_isElsewhereToday_34 (by decide) ?_
    cases h
    exact kr_zret hC hr hlocks _ rfl hW dX11_isElsewhereToday_35
  · replace h := if_n hc2 h
    refine lv_aload_n hx hb dX11_isElsewhereToday_14 rfl (lv_at hl 1 rfl) ?_
    refine gf_X11_33_x0 hC hW dX11_isElsewhereToday_15 ?_
    refine lv_iload_n hx hb dX11_isElsewhereToday_18 rfl (lv_at hl 0 rfl) ?_
    refine lv_iload_n hx hb dX11_isElsewhereToday_19 rfl (lv_at hl 3 rfl) ?_
    refine lv_aload_n hx hb dX11_isElsewhereToday_20 rfl (lv_at hl 1 rfl) ?_
    refine gf_X11_96_x0 hC hW dX11_isElsewhereToday_21 ?_
    obtain ⟨x3, hx3, h⟩ := mbv_some h
    refine kr_ci hC hW (kr_runV hC hW hl.1 (t_vs_Stops_goesTo hx3) cw_X11_182 (wx_4 g μ) rfl rfl rfl (Nat.le_of_ble_eq_true rfl) dX11_isElsewhereToday_24 (by decide)) (fun H locs hW => ?_)
    refine lv_if_ne (tgt := 34) hx hb dX11_isElsewhereToday_27 (by decide) (fun hc4 => ?_) (fun hc4 => ?_)
    · replace h := if_n hc4 h
      refine lv_iconst (v := 0) hx hb dX11_isElsewhereToday_34 (by decide) ?_
      cases h
      exact kr_zret hC hr hlocks _ rfl hW dX11_isElsewhereToday_35
    · replace h := if_p hc4 h
      refine lv_iconst (v := 1) hx hb dX11_isElsewhereToday_30 (by decide) ?_
      refine lv_goto (tgt := 35) hx hb dX11_isElsewhereToday_31 (by decide) ?_
      cases h
      exact kr_zret hC hr hlocks _ rfl hW dX11_isElsewhereToday_35
set_option maxHeartbeats 4000000 in
set_option maxRecDepth 100000 in
theorem tj_vs_promisedDay_112 {μ : Mm} (a3 : Int32) (y0 : Int32) (hC : Cx g RX11 cX11_promisedDay 8 p s m args c) (hr : meth.sig.returnType = some .int) (hlocks : meth.locks = false) {v : Int32} (hl : lv_has ls 8 [(0, .ref (ad g 0)), (3, .int a3)]) (hW : wP g wx A s.heap μ H locs) (h : vs_promisedDay_j112 μ a3 y0 = some v) : W p l e (rmD 5) s m args below meth c H locs 0 0 (MQ below (Qi g A wx v μ) args s 0 0 A) (F0 m 112 ls [.int y0]) := by
  obtain ⟨hx, hb, hml, hown, hts, hK, hN⟩ := id hC
  unfold vs_promisedDay_j112 at h
  refine lv_istore (lv' := [(5, .int y0), (0, .ref (ad g 0)), (3, .int a3)]) hx hb dX11_promisedDay_112 hl (by decide) rfl (fun ls hl => ?_)
  refine lv_goto (tgt := 134) hx hb dX11_promisedDay_114 (by decide) ?_
  refine lv_aload_n hx hb dX11_promisedDay_134 rfl (lv_at hl 1 rfl) ?_
  refine gf_X11_33_x0 hC hW dX11_promisedDay_135 ?_
  refine lv_iload_n hx hb dX11_promisedDay_138 rfl (lv_at hl 2 rfl) ?_
  refine lv_iload hx hb dX11_promisedDay_139 (lv_at hl 0 rfl) ?_
  obtain ⟨x17, hx17, h⟩ := mbv_some h
  refine kr_ci hC hW (kr_runV hC hW hl.1 (t_vs_Stops_firstDay hx17) cw_X11_415 (wx_4 g μ) rfl rfl rfl (Nat.le_of_ble_eq_true rfl) dX11_promisedDay_141 (by decide)) (fun H locs hW => ?_)
  refine lv_istore (lv' := [(6, .int x17), (5, .int y0), (0, .ref (ad g 0)), (3, .int a3)]) hx hb dX11_promisedDay_144 hl (by decide) rfl (fun ls hl => ?_)
  refine lv_iload hx hb dX11_promisedDay_146 (lv_at hl 0 rfl) ?_
  refine lv_iconst (v := (-1)) hx hb dX11_promisedDay_148 (by decide) ?_
  refine lv_icmp_ne (tgt := 157) hx hb dX11_promisedDay_149 (by decide) (fun hc18 => ?_) (fun hc18 => ?_)
  · replace h := if_n hc18 h
    refine lv_iload hx hb dX11_promisedDay_157 (lv_at hl 0 rfl) ?_
    cases h
    exact kr_iret hC hr hlocks hW dX11_promisedDay_159
  · replace h := if_p hc18 h
    refine lv_bipush (v := (-2)) hx hb dX11_promisedDay_152 (by decide) ?_
    refine lv_goto (tgt := 159) hx hb dX11_promisedDay_154 (by decide) ?_
    cases h
    exact kr_iret hC hr hlocks hW dX11_promisedDay_159
set_option maxHeartbeats 4000000 in
set_option maxRecDepth 100000 in
theorem t_vs_promisedDay {l : Launch} {g : Gx} {A : Nat → Prop} {μ : Mm} {a1 : Int32} {a2 : Int32} {v : Int32} (h : vs_promisedDay μ a1 a2 = some v) : Cti l g A wx yX11_promisedDay cX11_promisedDay 8 (some .int) 5 [.ref (ad g 0), .int a1, .int a2] μ v μ := by
  refine ent (lv := [(0, .ref (ad g 0)), (1, .int a1), (2, .int a2)]) (by decide) (Nat.le_of_ble_eq_true rfl) rfl ?_
  intro p e s m args below meth c hC hr hlocks hnm hW ls hl
  replace hC : Cx g RX11 cX11_promisedDay 8 p s m args c := hC
  obtain ⟨hx, hb, hml, hown, hts, hK, hN⟩ := id hC
  unfold vs_promisedDay at h
  refine lv_aload_n hx hb dX11_promisedDay_0 rfl (lv_at hl 0 rfl) ?_
  refine gf_X11_26_x0 hC hW dX11_promisedDay_1 ?_
  refine gf_X11_202_x3 hC hW dX11_promisedDay_4 ?_
  refine lv_iload_n hx hb dX11_promisedDay_7 rfl (lv_at hl 1 rfl) ?_
  obtain ⟨x1, ex1, hin, h⟩ := mrd_ex h
  refine kr_iald hC hW (wx_25 g μ) hin ex1 dX11_promisedDay_8 ?_
  refine lv_istore_n (lv' := [(3, .int x1), (0, .ref (ad g 0)), (1, .int a1), (2, .int a2)]) hx hb dX11_promisedDay_9 rfl hl (by decide) rfl (fun ls hl => ?_)
  refine lv_aload_n hx hb dX11_promisedDay_10 rfl (lv_at hl 1 rfl) ?_
  refine gf_X11_19_x0 hC hW dX11_promisedDay_11 ?_
  refine lv_iload_n hx hb dX11_promisedDay_14 rfl (lv_at hl 3 rfl) ?_
  obtain ⟨x2, hx2, h⟩ := mbv_some h
  refine kr_ci hC hW (kr_runV hC hW hl.1 (t_vs_Books_holder hx2) cw_X11_221 (wx_2 g μ) rfl rfl rfl (Nat.le_of_ble_eq_true rfl) dX11_promisedDay_15 (by decide)) (fun H locs hW => ?_)
  refine lv_istore (lv' := [(4, .int x2), (3, .int x1), (0, .ref (ad g 0)), (1, .int a1), (2, .int a2)]) hx hb dX11_promisedDay_18 hl (by decide) rfl (fun ls hl => ?_)
  refine lv_aload_n hx hb dX11_promisedDay_20 rfl (lv_at hl 2 rfl) ?_
  refine gf_X11_96_x0 hC hW dX11_promisedDay_21 ?_
  refine lv_istore (lv' := [(5, .int (μ 0 12)), (4, .int x2), (3, .int x1), (0, .ref (ad g 0)), (1, .int a1), (2, .int a2)]) hx hb dX11_promisedDay_24 hl (by decide) rfl (fun ls hl => ?_)
  refine lv_aload_n hx hb dX11_promisedDay_26 rfl (lv_at hl 3 rfl) ?_
  refine gf_X11_19_x0 hC hW dX11_promisedDay_27 ?_
  refine gf_X11_190_x2 hC hW dX11_promisedDay_30 ?_
  refine lv_iload_n hx hb dX11_promisedDay_33 rfl (lv_at hl 5 rfl) ?_
  obtain ⟨x3, ex3, hin, h⟩ := mrd_ex h
  refine kr_iald hC hW (wx_19 g μ) hin ex3 dX11_promisedDay_34 ?_
  refine lv_bipush (v := 40) hx hb dX11_promisedDay_35 (by decide) ?_
  refine lv_icmp_ne (tgt := 43) hx hb dX11_promisedDay_37 (by decide) (fun hc4 => ?_) (fun hc4 => ?_)
  · replace h := if_n hc4 h
    refine lv_iload hx hb dX11_promisedDay_43 (lv_at hl 1 rfl) ?_
    refine lv_iconst (v := (-1)) hx hb dX11_promisedDay_45 (by decide) ?_
    refine lv_icmp_eq (tgt := 117) hx hb dX11_promisedDay_46 (by decide) (fun hc5 => ?_) (fun hc5 => ?_)
    · replace h := if_p hc5 h
      refine lv_aload_n hx hb dX11_promisedDay_117 rfl (lv_at hl 3 rfl) ?_
      refine lv_iload_n hx hb dX11_promisedDay_118 rfl (lv_at hl 5 rfl) ?_
      refine lv_iload_n hx hb dX11_promisedDay_119 rfl (lv_at hl 2 rfl) ?_
      obtain ⟨x6, hx6, h⟩ := mbv_some h
      refine kr_ci hC hW (kr_runV hC hW hl.1 (t_vs_isElsewhereToday hx6) cw_X11_418 (wx_0 g μ) rfl rfl rfl (Nat.le_of_ble_eq_true rfl) dX11_promisedDay_120 (by decide)) (fun H locs hW => ?_)
      refine lv_if_eq (tgt := 134) hx hb dX11_promisedDay_123 (by decide) (fun hc7 => ?_) (fun hc7 => ?_)
      · replace h := if_p hc7 h
        refine lv_aload_n hx hb dX11_promisedDay_134 rfl (lv_at hl 3 rfl) ?_
        refine gf_X11_33_x0 hC hW dX11_promisedDay_135 ?_
        refine lv_iload_n hx hb dX11_promisedDay_138 rfl (lv_at hl 2 rfl) ?_
        refine lv_iload hx hb dX11_promisedDay_139 (lv_at hl 0 rfl) ?_
        obtain ⟨x8, hx8, h⟩ := mbv_some h
        refine kr_ci hC hW (kr_runV hC hW hl.1 (t_vs_Stops_firstDay hx8) cw_X11_415 (wx_4 g μ) rfl rfl rfl (Nat.le_of_ble_eq_true rfl) dX11_promisedDay_141 (by decide)) (fun H locs hW => ?_)
        refine lv_istore (lv' := [(6, .int x8), (5, .int (μ 0 12)), (4, .int x2), (3, .int x1), (0, .ref (ad g 0)), (1, .int a1), (2, .int a2)]) hx hb dX11_promisedDay_144 hl (by decide) rfl (fun ls hl => ?_)
        refine lv_iload hx hb dX11_promisedDay_146 (lv_at hl 0 rfl) ?_
        refine lv_iconst (v := (-1)) hx hb dX11_promisedDay_148 (by decide) ?_
        refine lv_icmp_ne (tgt := 157) hx hb dX11_promisedDay_149 (by decide) (fun hc9 => ?_) (fun hc9 => ?_)
        · replace h := if_n hc9 h
          refine lv_iload hx hb dX11_promisedDay_157 (lv_at hl 0 rfl) ?_
          cases h
          exact kr_iret hC hr hlocks hW dX11_promisedDay_159
        · replace h := if_p hc9 h
          refine lv_bipush (v := (-2)) hx hb dX11_promisedDay_152 (by decide) ?_
          refine lv_goto (tgt := 159) hx hb dX11_promisedDay_154 (by decide) ?_
          cases h
          exact kr_iret hC hr hlocks hW dX11_promisedDay_159
      · replace h := if_n hc7 h
        refine lv_aload_n hx hb dX11_promisedDay_126 rfl (lv_at hl 3 rfl) ?_
        refine gf_X11_96_x0 hC hW dX11_promisedDay_127 ?_
        refine lv_iconst (v := 1) hx hb dX11_promisedDay_130 (by decide) ?_
        refine lv_iadd hx hb dX11_promisedDay_131 ?_
        refine lv_istore (lv' := [(5, .int ((μ 0 12) + 1)), (4, .int x2), (3, .int x1), (0, .ref (ad g 0)), (1, .int a1), (2, .int a2)]) hx hb dX11_promisedDay_132 hl (by decide) rfl (fun ls hl => ?_)
        refine lv_aload_n hx hb dX11_promisedDay_134 rfl (lv_at hl 3 rfl) ?_
        refine gf_X11_33_x0 hC hW dX11_promisedDay_135 ?_
        refine lv_iload_n hx hb dX11_promisedDay_138 rfl (lv_at hl 2 rfl) ?_
        refine lv_iload hx hb dX11_promisedDay_139 (lv_at hl 0 rfl) ?_
        obtain ⟨x10, hx10, h⟩ := mbv_some h
        refine kr_ci hC hW (kr_runV hC hW hl.1 (t_vs_Stops_firstDay hx10) cw_X11_415 (wx_4 g μ) rfl rfl rfl (Nat.le_of_ble_eq_true rfl) dX11_promisedDay_141 (by decide)) (fun H locs hW => ?_)
        refine lv_istore (lv' := [(6, .int x10), (5, .int ((μ 0 12) + 1)), (4, .int x2), (3, .int x1), (0, .ref (ad g 0)), (1, .int a1), (2, .int a2)]) hx hb dX11_promisedDay_144 hl (by decide) rfl (fun ls hl => ?_)
        refine lv_iload hx hb dX11_promisedDay_146 (lv_at hl 0 rfl) ?_
        refine lv_iconst (v := (-1)) hx hb dX11_promisedDay_148 (by decide) ?_
        refine lv_icmp_ne (tgt := 157) hx hb dX11_promisedDay_149 (by decide) (fun hc11 => ?_) (fun hc11 => ?_)
        · replace h := if_n hc11 h
          refine lv_iload hx hb dX11_promisedDay_157 (lv_at hl 0 rfl) ?_
          cases h
          exact kr_iret hC hr hlocks hW dX11_promisedDay_159
        · replace h := if_p hc11 h
          refine lv_bipush (v := (-2)) hx hb dX11_promisedDay_152 (by decide) ?_
          refine lv_goto (tgt := 159) hx hb dX11_promisedDay_154 (by decide) ?_
          cases h
          exact kr_iret hC hr hlocks hW dX11_promisedDay_159
    · replace h := if_n hc5 h
      refine lv_aload_n hx hb dX11_promisedDay_49 rfl (lv_at hl 3 rfl) ?_
      refine gf_X11_26_x0 hC hW dX11_promisedDay_50 ?_
      refine gf_X11_202_x3 hC hW dX11_promisedDay_53 ?_
      refine lv_iload hx hb dX11_promisedDay_56 (lv_at hl 1 rfl) ?_
      obtain ⟨x12, ex12, hin, h⟩ := mrd_ex h
      refine kr_iald hC hW (wx_25 g μ) hin ex12 dX11_promisedDay_58 ?_
      refine lv_istore (lv' := [(6, .int x12), (5, .int (μ 0 12)), (4, .int x2), (3, .int x1), (0, .ref (ad g 0)), (1, .int a1), (2, .int a2)]) hx hb dX11_promisedDay_59 hl (by decide) rfl (fun ls hl => ?_)
      refine lv_aload_n hx hb dX11_promisedDay_61 rfl (lv_at hl 4 rfl) ?_
      refine gf_X11_33_x0 hC hW dX11_promisedDay_62 ?_
      refine lv_iload hx hb dX11_promisedDay_65 (lv_at hl 0 rfl) ?_
      refine lv_aload_n hx hb dX11_promisedDay_67 rfl (lv_at hl 4 rfl) ?_
      refine gf_X11_19_x0 hC hW dX11_promisedDay_68 ?_
      refine gf_X11_208_x2 hC hW dX11_promisedDay_71 ?_
      refine lv_iload_n hx hb dX11_promisedDay_74 rfl (lv_at hl 6 rfl) ?_
      obtain ⟨x13, ex13, hin, h⟩ := mrd_ex h
      refine kr_iald hC hW (wx_20 g μ) hin ex13 dX11_promisedDay_75 ?_
      refine lv_aload_n hx hb dX11_promisedDay_76 rfl (lv_at hl 4 rfl) ?_
      refine gf_X11_96_x0 hC hW dX11_promisedDay_77 ?_
      refine va_mmax hx hb (hml.trans hl.1.symm) hown (hts _ tw_851) (hts _ tw_709) (hts _ tw_15) (hts _ mth_max) (by decide) (Nat.le_of_ble_eq_true rfl) (Nat.le_refl 0) (Nat.le_refl 0) dX11_promisedDay_80 ?_
      refine W.eq (g2 := F0 m 83 ls [.int (jmax x13 (μ 0 12)), .int x12, .ref (ad g 4)]) rfl ?_
      obtain ⟨x14, hx14, h⟩ := mbv_some h
      refine kr_ci hC hW (kr_runV hC hW hl.1 (t_vs_Stops_firstDay hx14) cw_X11_415 (wx_4 g μ) rfl rfl rfl (Nat.le_of_ble_eq_true rfl) dX11_promisedDay_83 (by decide)) (fun H locs hW => ?_)
      refine lv_istore (lv' := [(7, .int x14), (6, .int x12), (5, .int (μ 0 12)), (4, .int x2), (3, .int x1), (0, .ref (ad g 0)), (1, .int a1), (2, .int a2)]) hx hb dX11_promisedDay_86 hl (by decide) rfl (fun ls hl => ?_)
      refine lv_iload hx hb dX11_promisedDay_88 (lv_at hl 0 rfl) ?_
      refine lv_iconst (v := (-1)) hx hb dX11_promisedDay_90 (by decide) ?_
      refine lv_icmp_ne (tgt := 97) hx hb dX11_promisedDay_91 (by decide) (fun hc15 => ?_) (fun hc15 => ?_)
      · replace h := if_n hc15 h
        refine lv_iload hx hb dX11_promisedDay_97 (lv_at hl 1 rfl) ?_
        refine lv_iload_n hx hb dX11_promisedDay_99 rfl (lv_at hl 4 rfl) ?_
        refine lv_icmp_ne (tgt := 108) hx hb dX11_promisedDay_100 (by decide) (fun hc16 => ?_) (fun hc16 => ?_)
        · replace h := if_n hc16 h
          refine lv_iload hx hb dX11_promisedDay_108 (lv_at hl 0 rfl) ?_
          refine lv_iconst (v := 1) hx hb dX11_promisedDay_110 (by decide) ?_
          refine lv_iadd hx hb dX11_promisedDay_111 ?_
          exact tj_vs_promisedDay_112 x1 (x14 + 1) hC hr hlocks (lv_sub hl [5, 4] rfl) hW h
        · replace h := if_p hc16 h
          refine lv_iload hx hb dX11_promisedDay_103 (lv_at hl 0 rfl) ?_
          refine lv_goto (tgt := 112) hx hb dX11_promisedDay_105 (by decide) ?_
          exact tj_vs_promisedDay_112 x1 x14 hC hr hlocks (lv_sub hl [5, 4] rfl) hW h
      · replace h := if_p hc15 h
        refine lv_bipush (v := (-2)) hx hb dX11_promisedDay_94 (by decide) ?_
        cases h
        exact kr_iret hC hr hlocks hW dX11_promisedDay_96
  · replace h := if_p hc4 h
    refine lv_bipush (v := (-2)) hx hb dX11_promisedDay_40 (by decide) ?_
    cases h
    exact kr_iret hC hr hlocks hW dX11_promisedDay_42
set_option maxHeartbeats 4000000 in
set_option maxRecDepth 100000 in
theorem t_vs_promise {l : Launch} {g : Gx} {A : Nat → Prop} {μ : Mm} {a1 : Int32} {a2 : Int32} {v : Int32} (h : vs_promise μ a1 a2 = some v) : Cti l g A wx yX11_promise cX11_promise 3 (some .int) 6 [.ref (ad g 0), .int a1, .int a2] μ v μ := by
  refine ent (lv := [(0, .ref (ad g 0)), (1, .int a1), (2, .int a2)]) (by decide) (Nat.le_of_ble_eq_true rfl) rfl ?_
  intro p e s m args below meth c hC hr hlocks hnm hW ls hl
  replace hC : Cx g RX11 cX11_promise 3 p s m args c := hC
  obtain ⟨hx, hb, hml, hown, hts, hK, hN⟩ := id hC
  unfold vs_promise at h
  refine lv_aload_n hx hb dX11_promise_0 rfl (lv_at hl 0 rfl) ?_
  refine lv_iload_n hx hb dX11_promise_1 rfl (lv_at hl 1 rfl) ?_
  refine lv_iload_n hx hb dX11_promise_2 rfl (lv_at hl 2 rfl) ?_
  obtain ⟨x1, hx1, h⟩ := mbv_some h
  refine kr_ci hC hW (kr_runV hC hW hl.1 (t_vs_isPair hx1) cw_X11_135 (wx_0 g μ) rfl rfl rfl (Nat.le_of_ble_eq_true rfl) dX11_promise_3 (by decide)) (fun H locs hW => ?_)
  refine lv_if_eq (tgt := 18) hx hb dX11_promise_6 (by decide) (fun hc2 => ?_) (fun hc2 => ?_)
  · replace h := if_p hc2 h
    refine lv_iconst (v := (-1)) hx hb dX11_promise_18 (by decide) ?_
    cases h
    exact kr_iret hC hr hlocks hW dX11_promise_19
  · replace h := if_n hc2 h
    refine lv_aload_n hx hb dX11_promise_9 rfl (lv_at hl 0 rfl) ?_
    refine lv_iload_n hx hb dX11_promise_10 rfl (lv_at hl 1 rfl) ?_
    refine lv_iload_n hx hb dX11_promise_11 rfl (lv_at hl 2 rfl) ?_
    obtain ⟨x3, hx3, h⟩ := mbv_some h
    refine kr_ci hC hW (kr_runV hC hW hl.1 (t_vs_promisedDay hx3) cw_X11_272 (wx_0 g μ) rfl rfl rfl (Nat.le_of_ble_eq_true rfl) dX11_promise_12 (by decide)) (fun H locs hW => ?_)
    refine lv_goto (tgt := 19) hx hb dX11_promise_15 (by decide) ?_
    cases h
    exact kr_iret hC hr hlocks hW dX11_promise_19
set_option maxHeartbeats 4000000 in
set_option maxRecDepth 100000 in
theorem tl_vs_Asks_isBehindAnother_11 (μ : Mm) (a1 : Int32) (a2 : Int32) (a3 : Int32) (a4 : Int32) (hC : Cx g RX1 cX1_isBehindAnother 7 p s m args c) {e0 : (Unit) ⊕ (Unit)} (kx0 : (Sum.elim (fun a => ∀ (ls : Array Slot) (H : Heap) (locs : List Loc), lv_has ls 7 [] → wP g wx A s.heap μ H locs → W p l e (rmD 1) s m args below meth c H locs 0 0 Q (F0 m 59 ls [])) (fun _ => True)) e0) (kx1 : (Sum.elim (fun _ => True) (fun a => ∀ (ls : Array Slot) (H : Heap) (locs : List Loc), lv_has ls 7 [] → wP g wx A s.heap μ H locs → W p l e (rmD 1) s m args below meth c H locs 0 0 Q (F0 m 67 ls []))) e0) : ∀ (n : Nat) (q : Int32), miter (fun q => vs_Asks_isBehindAnother_b11 μ a1 a2 a3 a4 q) n q = some e0 → ∀ (ls : Array Slot) (H : Heap) (locs : List Loc), lv_has ls 7 [(0, .ref (ad g 5)), (1, .int a1), (2, .int a2), (3, .int a3), (4, .int a4), (5, .int q)] → wP g wx A s.heap μ H locs → W p l e (rmD 1) s m args below meth c H locs 0 0 Q (F0 m 11 ls []) := by
  obtain ⟨hx, hb, hml, hown, hts, hK, hN⟩ := id hC
  refine miter_ind (fun q r hf k1 k2 => ?_)
  obtain ⟨xs5, rfl⟩ : ∃ z, z = q := ⟨_, rfl⟩
  intro ls H locs hl hW
  have h : vs_Asks_isBehindAnother_b11 μ a1 a2 a3 a4 xs5 = some r := hf
  unfold vs_Asks_isBehindAnother_b11 at h
  refine lv_iload hx hb dX1_isBehindAnother_11 (lv_at hl 5 rfl) ?_
  refine lv_bipush (v := 16) hx hb dX1_isBehindAnother_13 (by decide) ?_
  refine lv_icmp_ge (tgt := 67) hx hb dX1_isBehindAnother_15 (by decide) (fun hc2 => ?_) (fun hc2 => ?_)
  · replace h := if_p hc2 h
    obtain rfl := k2 _ (Option.some.inj h).symm
    exact kx1 _ _ _ (lv_sub hl [] rfl) hW
  · replace h := if_n hc2 h
    refine lv_aload_n hx hb dX1_isBehindAnother_18 rfl (lv_at hl 0 rfl) ?_
    refine lv_iload hx hb dX1_isBehindAnother_19 (lv_at hl 5 rfl) ?_
    refine lv_iload_n hx hb dX1_isBehindAnother_21 rfl (lv_at hl 2 rfl) ?_
    obtain ⟨x3, hx3, h⟩ := mbv_some h
    refine kr_ci hC hW (kr_runV hC hW hl.1 (t_vs_Asks_dayOf hx3) cw_X1_34 (wx_5 g μ) rfl rfl rfl (Nat.le_of_ble_eq_true rfl) dX1_isBehindAnother_22 (by decide)) (fun H locs hW => ?_)
    refine lv_istore (lv' := [(6, .int x3), (0, .ref (ad g 5)), (1, .int a1), (2, .int a2), (3, .int a3), (4, .int a4), (5, .int xs5)]) hx hb dX1_isBehindAnother_25 hl (by decide) rfl (fun ls hl => ?_)
    refine lv_iload hx hb dX1_isBehindAnother_27 (lv_at hl 6 rfl) ?_
    refine lv_iload_n hx hb dX1_isBehindAnother_29 rfl (lv_at hl 2 rfl) ?_
    refine lv_icmp_eq (tgt := 61) hx hb dX1_isBehindAnother_30 (by decide) (fun hc4 => ?_) (fun hc4 => ?_)
    · replace h := if_p hc4 h
      refine lv_iinc (v := (xs5 + 1)) (lv' := [(5, .int (xs5 + 1)), (6, .int x3), (0, .ref (ad g 5)), (1, .int a1), (2, .int a2), (3, .int a3), (4, .int a4)]) hx hb dX1_isBehindAnother_61 hl (k := 6) rfl (by rw [oi_1]) (by decide) rfl (fun ls hl => ?_)
      refine lv_goto (tgt := 11) hx hb dX1_isBehindAnother_64 (by decide) ?_
      exact k1 (xs5 + 1) (Option.some.inj h).symm _ _ _ (lv_sub hl [2, 3, 4, 5, 6, 0] rfl) hW
    · replace h := if_n hc4 h
      refine lv_iload hx hb dX1_isBehindAnother_33 (lv_at hl 0 rfl) ?_
      refine lv_iload_n hx hb dX1_isBehindAnother_35 rfl (lv_at hl 4 rfl) ?_
      refine lv_icmp_lt (tgt := 61) hx hb dX1_isBehindAnother_36 (by decide) (fun hc5 => ?_) (fun hc5 => ?_)
      · replace h := if_p hc5 h
        refine lv_iinc (v := (xs5 + 1)) (lv' := [(5, .int (xs5 + 1)), (6, .int x3), (0, .ref (ad g 5)), (1, .int a1), (2, .int a2), (3, .int a3), (4, .int a4)]) hx hb dX1_isBehindAnother_61 hl (k := 6) rfl (by rw [oi_1]) (by decide) rfl (fun ls hl => ?_)
        refine lv_goto (tgt := 11) hx hb dX1_isBehindAnother_64 (by decide) ?_
        exact k1 (xs5 + 1) (Option.some.inj h).symm _ _ _ (lv_sub hl [2, 3, 4, 5, 6, 0] rfl) hW
      · replace h := if_n hc5 h
        refine lv_iload hx hb dX1_isBehindAnother_39 (lv_at hl 0 rfl) ?_
        refine lv_iload hx hb dX1_isBehindAnother_41 (lv_at hl 5 rfl) ?_
        refine lv_icmp_lt (tgt := 59) hx hb dX1_isBehindAnother_43 (by decide) (fun hc6 => ?_) (fun hc6 => ?_)
        · replace h := if_p hc6 h
          obtain rfl := k2 _ (Option.some.inj h).symm
          exact kx0 _ _ _ (lv_sub hl [] rfl) hW
        · replace h := if_n hc6 h
          refine lv_iload hx hb dX1_isBehindAnother_46 (lv_at hl 0 rfl) ?_
          refine lv_iload hx hb dX1_isBehindAnother_48 (lv_at hl 5 rfl) ?_
          refine lv_icmp_ne (tgt := 61) hx hb dX1_isBehindAnother_50 (by decide) (fun hc7 => ?_) (fun hc7 => ?_)
          · replace h := if_n hc7 h
            refine lv_iinc (v := (xs5 + 1)) (lv' := [(5, .int (xs5 + 1)), (6, .int x3), (0, .ref (ad g 5)), (1, .int a1), (2, .int a2), (3, .int a3), (4, .int a4)]) hx hb dX1_isBehindAnother_61 hl (k := 6) rfl (by rw [oi_1]) (by decide) rfl (fun ls hl => ?_)
            refine lv_goto (tgt := 11) hx hb dX1_isBehindAnother_64 (by decide) ?_
            exact k1 (xs5 + 1) (Option.some.inj h).symm _ _ _ (lv_sub hl [2, 3, 4, 5, 6, 0] rfl) hW
          · replace h := if_p hc7 h
            refine lv_iload hx hb dX1_isBehindAnother_53 (lv_at hl 6 rfl) ?_
            refine lv_iload_n hx hb dX1_isBehindAnother_55 rfl (lv_at hl 2 rfl) ?_
            refine lv_icmp_ge (tgt := 61) hx hb dX1_isBehindAnother_56 (by decide) (fun hc8 => ?_) (fun hc8 => ?_)
            · replace h := if_p hc8 h
              refine lv_iinc (v := (xs5 + 1)) (lv' := [(5, .int (xs5 + 1)), (6, .int x3), (0, .ref (ad g 5)), (1, .int a1), (2, .int a2), (3, .int a3), (4, .int a4)]) hx hb dX1_isBehindAnother_61 hl (k := 6) rfl (by rw [oi_1]) (by decide) rfl (fun ls hl => ?_)
              refine lv_goto (tgt := 11) hx hb dX1_isBehindAnother_64 (by decide) ?_
              exact k1 (xs5 + 1) (Option.some.inj h).symm _ _ _ (lv_sub hl [2, 3, 4, 5, 6, 0] rfl) hW
            · replace h := if_n hc8 h
              obtain rfl := k2 _ (Option.some.inj h).symm
              exact kx0 _ _ _ (lv_sub hl [] rfl) hW
set_option maxHeartbeats 4000000 in
set_option maxRecDepth 100000 in
theorem t_vs_Asks_isBehindAnother {l : Launch} {g : Gx} {A : Nat → Prop} {μ : Mm} {a1 : Int32} {a2 : Int32} {a3 : Int32} {v : Bool} (h : vs_Asks_isBehindAnother μ a1 a2 a3 = some v) : Cti l g A wx yX1_isBehindAnother cX1_isBehindAnother 7 (some .boolean) 1 [.ref (ad g 5), .int a1, .int a2, .int a3] μ (bI v) μ := by
  refine ent (lv := [(0, .ref (ad g 5)), (1, .int a1), (2, .int a2), (3, .int a3)]) (by decide) (Nat.le_of_ble_eq_true rfl) rfl ?_
  intro p e s m args below meth c hC hr hlocks hnm hW ls hl
  replace hC : Cx g RX1 cX1_isBehindAnother 7 p s m args c := hC
  obtain ⟨hx, hb, hml, hown, hts, hK, hN⟩ := id hC
  unfold vs_Asks_isBehindAnother at h
  refine lv_aload_n hx hb dX1_isBehindAnother_0 rfl (lv_at hl 0 rfl) ?_
  refine lv_iload_n hx hb dX1_isBehindAnother_1 rfl (lv_at hl 1 rfl) ?_
  refine lv_iload_n hx hb dX1_isBehindAnother_2 rfl (lv_at hl 2 rfl) ?_
  obtain ⟨x1, hx1, h⟩ := mbv_some h
  refine kr_ci hC hW (kr_runV hC hW hl.1 (t_vs_Asks_dayOf hx1) cw_X1_34 (wx_5 g μ) rfl rfl rfl (Nat.le_of_ble_eq_true rfl) dX1_isBehindAnother_3 (by decide)) (fun H locs hW => ?_)
  refine lv_istore (lv' := [(4, .int x1), (0, .ref (ad g 5)), (1, .int a1), (2, .int a2), (3, .int a3)]) hx hb dX1_isBehindAnother_6 hl (by decide) rfl (fun ls hl => ?_)
  refine lv_iconst (v := 0) hx hb dX1_isBehindAnother_8 (by decide) ?_
  refine lv_istore (lv' := [(5, .int 0), (4, .int x1), (0, .ref (ad g 5)), (1, .int a1), (2, .int a2), (3, .int a3)]) hx hb dX1_isBehindAnother_9 hl (by decide) rfl (fun ls hl => ?_)
  rcases msum2_ex h with ⟨e0, he9, h⟩ | ⟨e0, he9, h⟩
  · refine tl_vs_Asks_isBehindAnother_11 μ a1 a2 a3 x1 hC (e0 := (.inl ())) (fun ls H locs hl hW => ?_) trivial FU 0 he9 _ _ _ (lv_sub hl [2, 3, 4, 5, 1, 0] rfl) hW
    refine lv_iconst (v := 1) hx hb dX1_isBehindAnother_59 (by decide) ?_
    cases h
    exact kr_zret hC hr hlocks _ rfl hW dX1_isBehindAnother_60
  · refine tl_vs_Asks_isBehindAnother_11 μ a1 a2 a3 x1 hC (e0 := (.inr ())) trivial (fun ls H locs hl hW => ?_) FU 0 he9 _ _ _ (lv_sub hl [2, 3, 4, 5, 1, 0] rfl) hW
    refine lv_iconst (v := 0) hx hb dX1_isBehindAnother_67 (by decide) ?_
    cases h
    exact kr_zret hC hr hlocks _ rfl hW dX1_isBehindAnother_68
set_option maxHeartbeats 4000000 in
set_option maxRecDepth 100000 in
theorem tl_vs_Books_lengthOf_4 (μ : Mm) (a1 : Int32) (hC : Cx g RX2 cX2_lengthOf 4 p s m args c) {e0 : (Int32)} (kx0 : ∀ (ls : Array Slot) (H : Heap) (locs : List Loc), lv_has ls 4 [(2, .int e0)] → wP g wx A s.heap μ H locs → W p l e (rmD 1) s m args below meth c H locs 0 0 Q (F0 m 35 ls [])) : ∀ (n : Nat) (q : Int32 × Int32), miter (fun q => vs_Books_lengthOf_b4 μ a1 q.1 q.2) n q = some e0 → ∀ (ls : Array Slot) (H : Heap) (locs : List Loc), lv_has ls 4 [(0, .ref (ad g 2)), (1, .int a1), (2, .int q.1), (3, .int q.2)] → wP g wx A s.heap μ H locs → W p l e (rmD 1) s m args below meth c H locs 0 0 Q (F0 m 4 ls []) := by
  obtain ⟨hx, hb, hml, hown, hts, hK, hN⟩ := id hC
  refine miter_ind (fun q r hf k1 k2 => ?_)
  obtain ⟨xs2, xs3⟩ := q
  intro ls H locs hl hW
  have h : vs_Books_lengthOf_b4 μ a1 xs2 xs3 = some r := hf
  unfold vs_Books_lengthOf_b4 at h
  refine lv_iload_n hx hb dX2_lengthOf_4 rfl (lv_at hl 3 rfl) ?_
  refine lv_aload_n hx hb dX2_lengthOf_5 rfl (lv_at hl 0 rfl) ?_
  refine gf_X2_42_x2 hC hW dX2_lengthOf_6 ?_
  refine lv_icmp_ge (tgt := 35) hx hb dX2_lengthOf_9 (by decide) (fun hc1 => ?_) (fun hc1 => ?_)
  · replace h := if_p hc1 h
    obtain rfl := k2 _ (Option.some.inj h).symm
    exact kx0 _ _ _ (lv_sub hl [2] rfl) hW
  · replace h := if_n hc1 h
    refine lv_iload_n hx hb dX2_lengthOf_12 rfl (lv_at hl 1 rfl) ?_
    refine lv_iload_n hx hb dX2_lengthOf_13 rfl (lv_at hl 3 rfl) ?_
    obtain ⟨x2, hx2, h⟩ := mbv_some h
    refine kr_ci hC hW (kr_runN hC hW hl.1 (t_vs_hasBit hx2) cw_X2_50 rfl rfl (Nat.le_of_ble_eq_true rfl) dX2_lengthOf_14 (by decide)) (fun H locs hW => ?_)
    refine lv_if_eq (tgt := 29) hx hb dX2_lengthOf_17 (by decide) (fun hc3 => ?_) (fun hc3 => ?_)
    · replace h := if_p hc3 h
      refine lv_iinc (v := (xs3 + 1)) (lv' := [(3, .int (xs3 + 1)), (0, .ref (ad g 2)), (1, .int a1), (2, .int xs2)]) hx hb dX2_lengthOf_29 hl (k := 3) rfl (by rw [oi_1]) (by decide) rfl (fun ls hl => ?_)
      refine lv_goto (tgt := 4) hx hb dX2_lengthOf_32 (by decide) ?_
      exact k1 (xs2, (xs3 + 1)) (Option.some.inj h).symm _ _ _ (lv_sub hl [1, 2, 3, 0] rfl) hW
    · replace h := if_n hc3 h
      refine lv_iload_n hx hb dX2_lengthOf_20 rfl (lv_at hl 2 rfl) ?_
      refine lv_aload_n hx hb dX2_lengthOf_21 rfl (lv_at hl 0 rfl) ?_
      refine gf_X2_15_x2 hC hW dX2_lengthOf_22 ?_
      refine lv_iload_n hx hb dX2_lengthOf_25 rfl (lv_at hl 3 rfl) ?_
      obtain ⟨x4, ex4, hin, h⟩ := mrd_ex h
      refine kr_iald hC hW (wx_16 g μ) hin ex4 dX2_lengthOf_26 ?_
      refine lv_iadd hx hb dX2_lengthOf_27 ?_
      refine lv_istore_n (lv' := [(2, .int (xs2 + x4)), (0, .ref (ad g 2)), (1, .int a1), (3, .int xs3)]) hx hb dX2_lengthOf_28 rfl hl (by decide) rfl (fun ls hl => ?_)
      refine lv_iinc (v := (xs3 + 1)) (lv' := [(3, .int (xs3 + 1)), (2, .int (xs2 + x4)), (0, .ref (ad g 2)), (1, .int a1)]) hx hb dX2_lengthOf_29 hl (k := 3) rfl (by rw [oi_1]) (by decide) rfl (fun ls hl => ?_)
      refine lv_goto (tgt := 4) hx hb dX2_lengthOf_32 (by decide) ?_
      exact k1 ((xs2 + x4), (xs3 + 1)) (Option.some.inj h).symm _ _ _ (lv_sub hl [2, 3, 1, 0] rfl) hW
set_option maxHeartbeats 4000000 in
set_option maxRecDepth 100000 in
theorem t_vs_Books_lengthOf {l : Launch} {g : Gx} {A : Nat → Prop} {μ : Mm} {a1 : Int32} {v : Int32} (h : vs_Books_lengthOf μ a1 = some v) : Cti l g A wx yX2_lengthOf cX2_lengthOf 4 (some .int) 1 [.ref (ad g 2), .int a1] μ v μ := by
  refine ent (lv := [(0, .ref (ad g 2)), (1, .int a1)]) (by decide) (Nat.le_of_ble_eq_true rfl) rfl ?_
  intro p e s m args below meth c hC hr hlocks hnm hW ls hl
  replace hC : Cx g RX2 cX2_lengthOf 4 p s m args c := hC
  obtain ⟨hx, hb, hml, hown, hts, hK, hN⟩ := id hC
  unfold vs_Books_lengthOf at h
  refine lv_iconst (v := 0) hx hb dX2_lengthOf_0 (by decide) ?_
  refine lv_istore_n (lv' := [(2, .int 0), (0, .ref (ad g 2)), (1, .int a1)]) hx hb dX2_lengthOf_1 rfl hl (by decide) rfl (fun ls hl => ?_)
  refine lv_iconst (v := 0) hx hb dX2_lengthOf_2 (by decide) ?_
  refine lv_istore_n (lv' := [(3, .int 0), (2, .int 0), (0, .ref (ad g 2)), (1, .int a1)]) hx hb dX2_lengthOf_3 rfl hl (by decide) rfl (fun ls hl => ?_)
  obtain ⟨x5, he6, h⟩ := mbv_some h
  refine tl_vs_Books_lengthOf_4 μ a1 hC (fun ls H locs hl hW => ?_) FU (0, 0) he6 _ _ _ (lv_sub hl [2, 3, 1, 0] rfl) hW
  refine lv_iload_n hx hb dX2_lengthOf_35 rfl (lv_at hl 0 rfl) ?_
  cases h
  exact kr_iret hC hr hlocks hW dX2_lengthOf_36
set_option maxHeartbeats 4000000 in
set_option maxRecDepth 100000 in
theorem tj_vs_hindrance_102 {μ : Mm} (a1 : Int32) (a2 : Int32) (a3 : Int32) (a5 : Int32) (hC : Cx g RX11 cX11_hindrance 7 p s m args c) (hr : meth.sig.returnType = some .int) (hlocks : meth.locks = false) {v : Int32} (hl : lv_has ls 7 [(0, .ref (ad g 0)), (1, .int a1), (2, .int a2), (3, .int a3), (5, .int a5)]) (hW : wP g wx A s.heap μ H locs) (h : vs_hindrance_j102 μ a1 a2 a3 a5 = some v) : W p l e (rmD 6) s m args below meth c H locs 0 0 (MQ below (Qi g A wx v μ) args s 0 0 A) (F0 m 102 ls []) := by
  obtain ⟨hx, hb, hml, hown, hts, hK, hN⟩ := id hC
  unfold vs_hindrance_j102 at h
  refine lv_aload_n hx hb dX11_hindrance_102 rfl (lv_at hl 0 rfl) ?_
  refine gf_X11_40_x0 hC hW dX11_hindrance_103 ?_
  refine lv_iload_n hx hb dX11_hindrance_106 rfl (lv_at hl 1 rfl) ?_
  refine lv_iload_n hx hb dX11_hindrance_107 rfl (lv_at hl 2 rfl) ?_
  refine lv_aload_n hx hb dX11_hindrance_108 rfl (lv_at hl 0 rfl) ?_
  refine gf_X11_96_x0 hC hW dX11_hindrance_109 ?_
  obtain ⟨x9, hx9, h⟩ := mbv_some h
  refine kr_ci hC hW (kr_runV hC hW hl.1 (t_vs_Asks_isBehindAnother hx9) cw_X11_421 (wx_5 g μ) rfl rfl rfl (Nat.le_of_ble_eq_true rfl) dX11_hindrance_112 (by decide)) (fun H locs hW => ?_)
  refine lv_if_eq (tgt := 120) hx hb dX11_hindrance_115 (by decide) (fun hc10 => ?_) (fun hc10 => ?_)
  · replace h := if_p hc10 h
    refine lv_aload_n hx hb dX11_hindrance_120 rfl (lv_at hl 0 rfl) ?_
    refine gf_X11_19_x0 hC hW dX11_hindrance_121 ?_
    refine lv_aload_n hx hb dX11_hindrance_124 rfl (lv_at hl 0 rfl) ?_
    refine lv_iload_n hx hb dX11_hindrance_125 rfl (lv_at hl 3 rfl) ?_
    refine lv_iload hx hb dX11_hindrance_126 (lv_at hl 4 rfl) ?_
    obtain ⟨x11, hx11, h⟩ := mbv_some h
    refine kr_ci hC hW (kr_runV hC hW hl.1 (t_vs_boardOf hx11) cw_X11_263 (wx_0 g μ) rfl rfl rfl (Nat.le_of_ble_eq_true rfl) dX11_hindrance_128 (by decide)) (fun H locs hW => ?_)
    obtain ⟨x12, hx12, h⟩ := mbv_some h
    refine kr_ci hC hW (kr_runV hC hW hl.1 (t_vs_Books_lengthOf hx12) cw_X11_424 (wx_2 g μ) rfl rfl rfl (Nat.le_of_ble_eq_true rfl) dX11_hindrance_131 (by decide)) (fun H locs hW => ?_)
    refine lv_aload_n hx hb dX11_hindrance_134 rfl (lv_at hl 0 rfl) ?_
    refine gf_X11_76_x0 hC hW dX11_hindrance_135 ?_
    refine lv_iload hx hb dX11_hindrance_138 (lv_at hl 4 rfl) ?_
    obtain ⟨x13, ex13, hin, h⟩ := mrd_ex h
    refine kr_iald hC hW (wx_12 g μ) hin ex13 dX11_hindrance_140 ?_
    refine lv_icmp_le (tgt := 149) hx hb dX11_hindrance_141 (by decide) (fun hc14 => ?_) (fun hc14 => ?_)
    · replace h := if_p hc14 h
      refine lv_iconst (v := 0) hx hb dX11_hindrance_149 (by decide) ?_
      cases h
      exact kr_iret hC hr hlocks hW dX11_hindrance_150
    · replace h := if_n hc14 h
      refine lv_bipush (v := 6) hx hb dX11_hindrance_144 (by decide) ?_
      refine lv_goto (tgt := 150) hx hb dX11_hindrance_146 (by decide) ?_
      cases h
      exact kr_iret hC hr hlocks hW dX11_hindrance_150
  · replace h := if_n hc10 h
    refine lv_iconst (v := 5) hx hb dX11_hindrance_118 (by decide) ?_
    cases h
    exact kr_iret hC hr hlocks hW dX11_hindrance_119
set_option maxHeartbeats 4000000 in
set_option maxRecDepth 100000 in
theorem tj_vs_hindrance_82 {μ : Mm} (a1 : Int32) (a2 : Int32) (a3 : Int32) (a4 : Int32) (a5 : Int32) (hC : Cx g RX11 cX11_hindrance 7 p s m args c) (hr : meth.sig.returnType = some .int) (hlocks : meth.locks = false) {v : Int32} (hl : lv_has ls 7 [(0, .ref (ad g 0)), (1, .int a1), (2, .int a2), (3, .int a3), (4, .int a4), (5, .int a5)]) (hW : wP g wx A s.heap μ H locs) (h : vs_hindrance_j82 μ a1 a2 a3 a4 a5 = some v) : W p l e (rmD 6) s m args below meth c H locs 0 0 (MQ below (Qi g A wx v μ) args s 0 0 A) (F0 m 82 ls []) := by
  obtain ⟨hx, hb, hml, hown, hts, hK, hN⟩ := id hC
  unfold vs_hindrance_j82 at h
  refine lv_iload_n hx hb dX11_hindrance_82 rfl (lv_at hl 3 rfl) ?_
  refine lv_aload_n hx hb dX11_hindrance_83 rfl (lv_at hl 0 rfl) ?_
  refine gf_X11_96_x0 hC hW dX11_hindrance_84 ?_
  refine lv_icmp_ne (tgt := 102) hx hb dX11_hindrance_87 (by decide) (fun hc8 => ?_) (fun hc8 => ?_)
  · replace h := if_n hc8 h
    exact tj_vs_hindrance_102 a1 a2 a3 a5 hC hr hlocks (lv_sub hl [0, 1, 2, 3, 5] rfl) hW h
  · replace h := if_p hc8 h
    refine lv_aload_n hx hb dX11_hindrance_90 rfl (lv_at hl 0 rfl) ?_
    refine lv_iload_n hx hb dX11_hindrance_91 rfl (lv_at hl 2 rfl) ?_
    refine lv_iload hx hb dX11_hindrance_92 (lv_at hl 4 rfl) ?_
    obtain ⟨x15, hx15, h⟩ := mbv_some h
    refine kr_ci hC hW (kr_runV hC hW hl.1 (t_vs_isElsewhereToday hx15) cw_X11_418 (wx_0 g μ) rfl rfl rfl (Nat.le_of_ble_eq_true rfl) dX11_hindrance_94 (by decide)) (fun H locs hW => ?_)
    refine lv_if_eq (tgt := 102) hx hb dX11_hindrance_97 (by decide) (fun hc16 => ?_) (fun hc16 => ?_)
    · replace h := if_p hc16 h
      exact tj_vs_hindrance_102 a1 a2 a3 a5 hC hr hlocks (lv_sub hl [0, 1, 2, 3, 5] rfl) hW h
    · replace h := if_n hc16 h
      refine lv_iconst (v := 4) hx hb dX11_hindrance_100 (by decide) ?_
      cases h
      exact kr_iret hC hr hlocks hW dX11_hindrance_101
set_option maxHeartbeats 4000000 in
set_option maxRecDepth 100000 in
theorem t_vs_hindrance {l : Launch} {g : Gx} {A : Nat → Prop} {μ : Mm} {a1 : Int32} {a2 : Int32} {a3 : Int32} {v : Int32} (h : vs_hindrance μ a1 a2 a3 = some v) : Cti l g A wx yX11_hindrance cX11_hindrance 7 (some .int) 6 [.ref (ad g 0), .int a1, .int a2, .int a3] μ v μ := by
  refine ent (lv := [(0, .ref (ad g 0)), (1, .int a1), (2, .int a2), (3, .int a3)]) (by decide) (Nat.le_of_ble_eq_true rfl) rfl ?_
  intro p e s m args below meth c hC hr hlocks hnm hW ls hl
  replace hC : Cx g RX11 cX11_hindrance 7 p s m args c := hC
  obtain ⟨hx, hb, hml, hown, hts, hK, hN⟩ := id hC
  unfold vs_hindrance at h
  refine lv_aload_n hx hb dX11_hindrance_0 rfl (lv_at hl 0 rfl) ?_
  refine gf_X11_26_x0 hC hW dX11_hindrance_1 ?_
  refine gf_X11_202_x3 hC hW dX11_hindrance_4 ?_
  refine lv_iload_n hx hb dX11_hindrance_7 rfl (lv_at hl 1 rfl) ?_
  obtain ⟨x1, ex1, hin, h⟩ := mrd_ex h
  refine kr_iald hC hW (wx_25 g μ) hin ex1 dX11_hindrance_8 ?_
  refine lv_istore (lv' := [(4, .int x1), (0, .ref (ad g 0)), (1, .int a1), (2, .int a2), (3, .int a3)]) hx hb dX11_hindrance_9 hl (by decide) rfl (fun ls hl => ?_)
  refine lv_aload_n hx hb dX11_hindrance_11 rfl (lv_at hl 1 rfl) ?_
  refine gf_X11_33_x0 hC hW dX11_hindrance_12 ?_
  refine lv_iload hx hb dX11_hindrance_15 (lv_at hl 0 rfl) ?_
  refine lv_iload_n hx hb dX11_hindrance_17 rfl (lv_at hl 4 rfl) ?_
  obtain ⟨x2, hx2, h⟩ := mbv_some h
  refine kr_ci hC hW (kr_runV hC hW hl.1 (t_vs_Stops_lowestVan hx2) cw_X11_255 (wx_4 g μ) rfl rfl rfl (Nat.le_of_ble_eq_true rfl) dX11_hindrance_18 (by decide)) (fun H locs hW => ?_)
  refine lv_istore (lv' := [(5, .int x2), (4, .int x1), (0, .ref (ad g 0)), (1, .int a1), (2, .int a2), (3, .int a3)]) hx hb dX11_hindrance_21 hl (by decide) rfl (fun ls hl => ?_)
  refine lv_aload_n hx hb dX11_hindrance_23 rfl (lv_at hl 2 rfl) ?_
  refine gf_X11_19_x0 hC hW dX11_hindrance_24 ?_
  refine gf_X11_190_x2 hC hW dX11_hindrance_27 ?_
  refine lv_iload_n hx hb dX11_hindrance_30 rfl (lv_at hl 4 rfl) ?_
  obtain ⟨x3, ex3, hin, h⟩ := mrd_ex h
  refine kr_iald hC hW (wx_19 g μ) hin ex3 dX11_hindrance_31 ?_
  refine lv_bipush (v := 40) hx hb dX11_hindrance_32 (by decide) ?_
  refine lv_icmp_ne (tgt := 39) hx hb dX11_hindrance_34 (by decide) (fun hc4 => ?_) (fun hc4 => ?_)
  · replace h := if_n hc4 h
    refine lv_iload hx hb dX11_hindrance_39 (lv_at hl 0 rfl) ?_
    refine lv_iconst (v := (-1)) hx hb dX11_hindrance_41 (by decide) ?_
    refine lv_icmp_ne (tgt := 47) hx hb dX11_hindrance_42 (by decide) (fun hc5 => ?_) (fun hc5 => ?_)
    · replace h := if_n hc5 h
      refine lv_aload_n hx hb dX11_hindrance_47 rfl (lv_at hl 2 rfl) ?_
      refine gf_X11_19_x0 hC hW dX11_hindrance_48 ?_
      refine lv_iload_n hx hb dX11_hindrance_51 rfl (lv_at hl 4 rfl) ?_
      obtain ⟨x6, hx6, h⟩ := mbv_some h
      refine kr_ci hC hW (kr_runV hC hW hl.1 (t_vs_Books_holder hx6) cw_X11_221 (wx_2 g μ) rfl rfl rfl (Nat.le_of_ble_eq_true rfl) dX11_hindrance_52 (by decide)) (fun H locs hW => ?_)
      refine lv_iconst (v := (-1)) hx hb dX11_hindrance_55 (by decide) ?_
      refine lv_icmp_eq (tgt := 82) hx hb dX11_hindrance_56 (by decide) (fun hc7 => ?_) (fun hc7 => ?_)
      · replace h := if_p hc7 h
        exact tj_vs_hindrance_82 a1 a2 a3 x1 x2 hC hr hlocks (lv_sub hl [2, 3, 4, 5, 1, 0] rfl) hW h
      · replace h := if_n hc7 h
        refine lv_aload_n hx hb dX11_hindrance_59 rfl (lv_at hl 2 rfl) ?_
        refine lv_iload_n hx hb dX11_hindrance_60 rfl (lv_at hl 3 rfl) ?_
        refine lv_iload_n hx hb dX11_hindrance_61 rfl (lv_at hl 4 rfl) ?_
        obtain ⟨x17, hx17, h⟩ := mbv_some h
        refine kr_ci hC hW (kr_runV hC hW hl.1 (t_vs_promisedDay hx17) cw_X11_272 (wx_0 g μ) rfl rfl rfl (Nat.le_of_ble_eq_true rfl) dX11_hindrance_62 (by decide)) (fun H locs hW => ?_)
        refine lv_istore (lv' := [(6, .int x17), (5, .int x2), (4, .int x1), (0, .ref (ad g 0)), (1, .int a1), (2, .int a2), (3, .int a3)]) hx hb dX11_hindrance_65 hl (by decide) rfl (fun ls hl => ?_)
        refine lv_iload hx hb dX11_hindrance_67 (lv_at hl 0 rfl) ?_
        refine lv_bipush (v := (-2)) hx hb dX11_hindrance_69 (by decide) ?_
        refine lv_icmp_eq (tgt := 80) hx hb dX11_hindrance_71 (by decide) (fun hc18 => ?_) (fun hc18 => ?_)
        · replace h := if_p hc18 h
          refine lv_iconst (v := 3) hx hb dX11_hindrance_80 (by decide) ?_
          cases h
          exact kr_iret hC hr hlocks hW dX11_hindrance_81
        · replace h := if_n hc18 h
          refine lv_iload hx hb dX11_hindrance_74 (lv_at hl 0 rfl) ?_
          refine lv_iload_n hx hb dX11_hindrance_76 rfl (lv_at hl 6 rfl) ?_
          refine lv_icmp_le (tgt := 82) hx hb dX11_hindrance_77 (by decide) (fun hc19 => ?_) (fun hc19 => ?_)
          · replace h := if_p hc19 h
            exact tj_vs_hindrance_82 a1 a2 a3 x1 x2 hC hr hlocks (lv_sub hl [3, 4, 5, 6, 2, 1] rfl) hW h
          · replace h := if_n hc19 h
            refine lv_iconst (v := 3) hx hb dX11_hindrance_80 (by decide) ?_
            cases h
            exact kr_iret hC hr hlocks hW dX11_hindrance_81
    · replace h := if_p hc5 h
      refine lv_iconst (v := 2) hx hb dX11_hindrance_45 (by decide) ?_
      cases h
      exact kr_iret hC hr hlocks hW dX11_hindrance_46
  · replace h := if_p hc4 h
    refine lv_iconst (v := 1) hx hb dX11_hindrance_37 (by decide) ?_
    cases h
    exact kr_iret hC hr hlocks hW dX11_hindrance_38
set_option maxHeartbeats 4000000 in
set_option maxRecDepth 100000 in
theorem t_vs_whyNot {l : Launch} {g : Gx} {A : Nat → Prop} {μ : Mm} {a1 : Int32} {a2 : Int32} {v : Int32} (h : vs_whyNot μ a1 a2 = some v) : Cti l g A wx yX11_whyNot cX11_whyNot 4 (some .int) 7 [.ref (ad g 0), .int a1, .int a2] μ v μ := by
  refine ent (lv := [(0, .ref (ad g 0)), (1, .int a1), (2, .int a2)]) (by decide) (Nat.le_of_ble_eq_true rfl) rfl ?_
  intro p e s m args below meth c hC hr hlocks hnm hW ls hl
  replace hC : Cx g RX11 cX11_whyNot 4 p s m args c := hC
  obtain ⟨hx, hb, hml, hown, hts, hK, hN⟩ := id hC
  unfold vs_whyNot at h
  refine lv_aload_n hx hb dX11_whyNot_0 rfl (lv_at hl 0 rfl) ?_
  refine lv_iload_n hx hb dX11_whyNot_1 rfl (lv_at hl 1 rfl) ?_
  refine lv_iload_n hx hb dX11_whyNot_2 rfl (lv_at hl 2 rfl) ?_
  obtain ⟨x1, hx1, h⟩ := mbv_some h
  refine kr_ci hC hW (kr_runV hC hW hl.1 (t_vs_isPair hx1) cw_X11_135 (wx_0 g μ) rfl rfl rfl (Nat.le_of_ble_eq_true rfl) dX11_whyNot_3 (by decide)) (fun H locs hW => ?_)
  refine lv_if_ne (tgt := 11) hx hb dX11_whyNot_6 (by decide) (fun hc2 => ?_) (fun hc2 => ?_)
  · replace h := if_n hc2 h
    refine lv_aload_n hx hb dX11_whyNot_11 rfl (lv_at hl 0 rfl) ?_
    refine gf_X11_40_x0 hC hW dX11_whyNot_12 ?_
    refine lv_iload_n hx hb dX11_whyNot_15 rfl (lv_at hl 1 rfl) ?_
    refine lv_iload_n hx hb dX11_whyNot_16 rfl (lv_at hl 2 rfl) ?_
    obtain ⟨x3, hx3, h⟩ := mbv_some h
    refine kr_ci hC hW (kr_runV hC hW hl.1 (t_vs_Asks_dayOf hx3) cw_X11_258 (wx_5 g μ) rfl rfl rfl (Nat.le_of_ble_eq_true rfl) dX11_whyNot_17 (by decide)) (fun H locs hW => ?_)
    refine lv_istore_n (lv' := [(3, .int x3), (0, .ref (ad g 0)), (1, .int a1), (2, .int a2)]) hx hb dX11_whyNot_20 rfl hl (by decide) rfl (fun ls hl => ?_)
    refine lv_iload_n hx hb dX11_whyNot_21 rfl (lv_at hl 0 rfl) ?_
    refine lv_iconst (v := (-1)) hx hb dX11_whyNot_22 (by decide) ?_
    refine lv_icmp_eq (tgt := 34) hx hb dX11_whyNot_23 (by decide) (fun hc4 => ?_) (fun hc4 => ?_)
    · replace h := if_p hc4 h
      refine lv_iconst (v := (-1)) hx hb dX11_whyNot_34 (by decide) ?_
      refine lv_goto (tgt := 45) hx hb dX11_whyNot_35 (by decide) ?_
      cases h
      exact kr_iret hC hr hlocks hW dX11_whyNot_45
    · replace h := if_n hc4 h
      refine lv_iload_n hx hb dX11_whyNot_26 rfl (lv_at hl 0 rfl) ?_
      refine lv_aload_n hx hb dX11_whyNot_27 rfl (lv_at hl 1 rfl) ?_
      refine gf_X11_96_x0 hC hW dX11_whyNot_28 ?_
      refine lv_icmp_ge (tgt := 38) hx hb dX11_whyNot_31 (by decide) (fun hc5 => ?_) (fun hc5 => ?_)
      · replace h := if_p hc5 h
        refine lv_aload_n hx hb dX11_whyNot_38 rfl (lv_at hl 1 rfl) ?_
        refine lv_iload_n hx hb dX11_whyNot_39 rfl (lv_at hl 2 rfl) ?_
        refine lv_iload_n hx hb dX11_whyNot_40 rfl (lv_at hl 3 rfl) ?_
        refine lv_iload_n hx hb dX11_whyNot_41 rfl (lv_at hl 0 rfl) ?_
        obtain ⟨x6, hx6, h⟩ := mbv_some h
        refine kr_ci hC hW (kr_runV hC hW hl.1 (t_vs_hindrance hx6) cw_X11_275 (wx_0 g μ) rfl rfl rfl (Nat.le_of_ble_eq_true rfl) dX11_whyNot_42 (by decide)) (fun H locs hW => ?_)
        cases h
        exact kr_iret hC hr hlocks hW dX11_whyNot_45
      · replace h := if_n hc5 h
        refine lv_iconst (v := (-1)) hx hb dX11_whyNot_34 (by decide) ?_
        refine lv_goto (tgt := 45) hx hb dX11_whyNot_35 (by decide) ?_
        cases h
        exact kr_iret hC hr hlocks hW dX11_whyNot_45
  · replace h := if_p hc2 h
    refine lv_iconst (v := (-1)) hx hb dX11_whyNot_9 (by decide) ?_
    cases h
    exact kr_iret hC hr hlocks hW dX11_whyNot_10
set_option maxHeartbeats 4000000 in
set_option maxRecDepth 100000 in
theorem tl_vs_Asks_awaited_5 (μ : Mm) (a1 : Int32) (hC : Cx g RX1 cX1_awaited 6 p s m args c) {e0 : (Int32)} (kx0 : ∀ (ls : Array Slot) (H : Heap) (locs : List Loc), lv_has ls 6 [(3, .int e0)] → wP g wx A s.heap μ H locs → W p l e (rmD 2) s m args below meth c H locs 0 0 Q (F0 m 52 ls [])) : ∀ (n : Nat) (q : Int32 × Int32), miter (fun q => vs_Asks_awaited_b5 μ a1 q.1 q.2) n q = some e0 → ∀ (ls : Array Slot) (H : Heap) (locs : List Loc), lv_has ls 6 [(0, .ref (ad g 5)), (1, .int a1), (2, .ref (ad g 2)), (3, .int q.1), (4, .int q.2)] → wP g wx A s.heap μ H locs → W p l e (rmD 2) s m args below meth c H locs 0 0 Q (F0 m 5 ls []) := by
  obtain ⟨hx, hb, hml, hown, hts, hK, hN⟩ := id hC
  refine miter_ind (fun q r hf k1 k2 => ?_)
  obtain ⟨xs3, xs4⟩ := q
  intro ls H locs hl hW
  have h : vs_Asks_awaited_b5 μ a1 xs3 xs4 = some r := hf
  unfold vs_Asks_awaited_b5 at h
  refine lv_iload hx hb dX1_awaited_5 (lv_at hl 4 rfl) ?_
  refine lv_aload_n hx hb dX1_awaited_7 rfl (lv_at hl 2 rfl) ?_
  refine gf_X1_52_x2 hC hW dX1_awaited_8 ?_
  refine lv_icmp_ge (tgt := 52) hx hb dX1_awaited_11 (by decide) (fun hc1 => ?_) (fun hc1 => ?_)
  · replace h := if_p hc1 h
    obtain rfl := k2 _ (Option.some.inj h).symm
    exact kx0 _ _ _ (lv_sub hl [3] rfl) hW
  · replace h := if_n hc1 h
    refine lv_aload_n hx hb dX1_awaited_14 rfl (lv_at hl 2 rfl) ?_
    refine lv_iload hx hb dX1_awaited_15 (lv_at hl 4 rfl) ?_
    obtain ⟨x2, hx2, h⟩ := mbv_some h
    refine kr_ci hC hW (kr_runV hC hW hl.1 (t_vs_Books_holder hx2) cw_X1_55 (wx_2 g μ) rfl rfl rfl (Nat.le_of_ble_eq_true rfl) dX1_awaited_17 (by decide)) (fun H locs hW => ?_)
    refine lv_istore (lv' := [(5, .int x2), (0, .ref (ad g 5)), (1, .int a1), (2, .ref (ad g 2)), (3, .int xs3), (4, .int xs4)]) hx hb dX1_awaited_20 hl (by decide) rfl (fun ls hl => ?_)
    refine lv_iload hx hb dX1_awaited_22 (lv_at hl 0 rfl) ?_
    refine lv_iconst (v := (-1)) hx hb dX1_awaited_24 (by decide) ?_
    refine lv_icmp_eq (tgt := 46) hx hb dX1_awaited_25 (by decide) (fun hc3 => ?_) (fun hc3 => ?_)
    · replace h := if_p hc3 h
      refine lv_iinc (v := (xs4 + 1)) (lv' := [(4, .int (xs4 + 1)), (5, .int x2), (0, .ref (ad g 5)), (1, .int a1), (2, .ref (ad g 2)), (3, .int xs3)]) hx hb dX1_awaited_46 hl (k := 5) rfl (by rw [oi_1]) (by decide) rfl (fun ls hl => ?_)
      refine lv_goto (tgt := 5) hx hb dX1_awaited_49 (by decide) ?_
      exact k1 (xs3, (xs4 + 1)) (Option.some.inj h).symm _ _ _ (lv_sub hl [2, 3, 4, 5, 0] rfl) hW
    · replace h := if_n hc3 h
      refine lv_aload_n hx hb dX1_awaited_28 rfl (lv_at hl 1 rfl) ?_
      refine lv_iload_n hx hb dX1_awaited_29 rfl (lv_at hl 2 rfl) ?_
      refine lv_iload hx hb dX1_awaited_30 (lv_at hl 5 rfl) ?_
      obtain ⟨x4, hx4, h⟩ := mbv_some h
      refine kr_ci hC hW (kr_runV hC hW hl.1 (t_vs_Asks_dayOf hx4) cw_X1_34 (wx_5 g μ) rfl rfl rfl (Nat.le_of_ble_eq_true rfl) dX1_awaited_32 (by decide)) (fun H locs hW => ?_)
      refine lv_iconst (v := (-1)) hx hb dX1_awaited_35 (by decide) ?_
      refine lv_icmp_eq (tgt := 46) hx hb dX1_awaited_36 (by decide) (fun hc5 => ?_) (fun hc5 => ?_)
      · replace h := if_p hc5 h
        refine lv_iinc (v := (xs4 + 1)) (lv' := [(4, .int (xs4 + 1)), (5, .int x2), (0, .ref (ad g 5)), (1, .int a1), (2, .ref (ad g 2)), (3, .int xs3)]) hx hb dX1_awaited_46 hl (k := 5) rfl (by rw [oi_1]) (by decide) rfl (fun ls hl => ?_)
        refine lv_goto (tgt := 5) hx hb dX1_awaited_49 (by decide) ?_
        exact k1 (xs3, (xs4 + 1)) (Option.some.inj h).symm _ _ _ (lv_sub hl [2, 3, 4, 5, 0] rfl) hW
      · replace h := if_n hc5 h
        refine lv_iload_n hx hb dX1_awaited_39 rfl (lv_at hl 4 rfl) ?_
        refine lv_iconst (v := 1) hx hb dX1_awaited_40 (by decide) ?_
        refine lv_iload hx hb dX1_awaited_41 (lv_at hl 0 rfl) ?_
        refine lv_ishl hx hb dX1_awaited_43 ?_
        refine lv_ior hx hb dX1_awaited_44 ?_
        refine lv_istore_n (lv' := [(3, .int (xs3 ||| ((1 : Int32) <<< (x2 &&& 31)))), (5, .int x2), (0, .ref (ad g 5)), (1, .int a1), (2, .ref (ad g 2)), (4, .int xs4)]) hx hb dX1_awaited_45 rfl hl (by decide) rfl (fun ls hl => ?_)
        refine lv_iinc (v := (xs4 + 1)) (lv' := [(4, .int (xs4 + 1)), (3, .int (xs3 ||| ((1 : Int32) <<< (x2 &&& 31)))), (5, .int x2), (0, .ref (ad g 5)), (1, .int a1), (2, .ref (ad g 2))]) hx hb dX1_awaited_46 hl (k := 5) rfl (by rw [oi_1]) (by decide) rfl (fun ls hl => ?_)
        refine lv_goto (tgt := 5) hx hb dX1_awaited_49 (by decide) ?_
        exact k1 ((xs3 ||| ((1 : Int32) <<< (x2 &&& 31))), (xs4 + 1)) (Option.some.inj h).symm _ _ _ (lv_sub hl [3, 4, 5, 1, 0] rfl) hW
set_option maxHeartbeats 4000000 in
set_option maxRecDepth 100000 in
theorem t_vs_Asks_awaited {l : Launch} {g : Gx} {A : Nat → Prop} {μ : Mm} {a1 : Int32} {v : Int32} (h : vs_Asks_awaited μ a1 = some v) : Cti l g A wx yX1_awaited cX1_awaited 6 (some .int) 2 [.ref (ad g 5), .int a1, .ref (ad g 2)] μ v μ := by
  refine ent (lv := [(0, .ref (ad g 5)), (1, .int a1), (2, .ref (ad g 2))]) (by decide) (Nat.le_of_ble_eq_true rfl) rfl ?_
  intro p e s m args below meth c hC hr hlocks hnm hW ls hl
  replace hC : Cx g RX1 cX1_awaited 6 p s m args c := hC
  obtain ⟨hx, hb, hml, hown, hts, hK, hN⟩ := id hC
  unfold vs_Asks_awaited at h
  refine lv_iconst (v := 0) hx hb dX1_awaited_0 (by decide) ?_
  refine lv_istore_n (lv' := [(3, .int 0), (0, .ref (ad g 5)), (1, .int a1), (2, .ref (ad g 2))]) hx hb dX1_awaited_1 rfl hl (by decide) rfl (fun ls hl => ?_)
  refine lv_iconst (v := 0) hx hb dX1_awaited_2 (by decide) ?_
  refine lv_istore (lv' := [(4, .int 0), (3, .int 0), (0, .ref (ad g 5)), (1, .int a1), (2, .ref (ad g 2))]) hx hb dX1_awaited_3 hl (by decide) rfl (fun ls hl => ?_)
  obtain ⟨x6, he7, h⟩ := mbv_some h
  refine tl_vs_Asks_awaited_5 μ a1 hC (fun ls H locs hl hW => ?_) FU (0, 0) he7 _ _ _ (lv_sub hl [2, 3, 4, 1, 0] rfl) hW
  refine lv_iload_n hx hb dX1_awaited_52 rfl (lv_at hl 0 rfl) ?_
  cases h
  exact kr_iret hC hr hlocks hW dX1_awaited_53
set_option maxHeartbeats 4000000 in
set_option maxRecDepth 100000 in
theorem tl_vs_Arrays_fill_53178_46_5 (a1 : Int32) (a3 : Int32) (hC : Cx g RJ7 cJ7_fill_53178 4 p s m args c) {e0 : (Mm)} (kx0 : ∀ (ls : Array Slot) (H : Heap) (locs : List Loc), lv_has ls 4 [] → wP g wx A s.heap e0 H locs → W p l e (rmD 0) s m args below meth c H locs 0 0 Q (F0 m 20 ls [])) : ∀ (n : Nat) (q : Int32 × Mm), miter (fun q => vs_Arrays_fill_53178_46_b5 q.2 a1 a3 q.1) n q = some e0 → ∀ (ls : Array Slot) (H : Heap) (locs : List Loc), lv_has ls 4 [(0, .ref (ad g 46)), (1, .int a1), (2, .int q.1), (3, .int a3)] → wP g wx A s.heap q.2 H locs → W p l e (rmD 0) s m args below meth c H locs 0 0 Q (F0 m 5 ls []) := by
  obtain ⟨hx, hb, hml, hown, hts, hK, hN⟩ := id hC
  refine miter_ind (fun q r hf k1 k2 => ?_)
  obtain ⟨xs2, μ⟩ := q
  intro ls H locs hl hW
  have h : vs_Arrays_fill_53178_46_b5 μ a1 a3 xs2 = some r := hf
  unfold vs_Arrays_fill_53178_46_b5 at h
  refine lv_iload_n hx hb dJ7_fill_53178_5 rfl (lv_at hl 2 rfl) ?_
  refine lv_iload_n hx hb dJ7_fill_53178_6 rfl (lv_at hl 3 rfl) ?_
  refine lv_icmp_ge (tgt := 20) hx hb dJ7_fill_53178_7 (by decide) (fun hc1 => ?_) (fun hc1 => ?_)
  · replace h := if_p hc1 h
    obtain rfl := k2 _ (Option.some.inj h).symm
    exact kx0 _ _ _ (lv_sub hl [] rfl) hW
  · replace h := if_n hc1 h
    refine lv_aload_n hx hb dJ7_fill_53178_10 rfl (lv_at hl 0 rfl) ?_
    refine lv_iload_n hx hb dJ7_fill_53178_11 rfl (lv_at hl 2 rfl) ?_
    refine lv_iload_n hx hb dJ7_fill_53178_12 rfl (lv_at hl 1 rfl) ?_
    obtain ⟨μ2, eμ2, hin, h⟩ := mwr_ex h
    refine kr_iast hC hW (wx_46 g μ) (wxs_46 eμ2) hin dJ7_fill_53178_13 (fun H locs hW => ?_)
    refine lv_iinc (v := (xs2 + 1)) (lv' := [(2, .int (xs2 + 1)), (0, .ref (ad g 46)), (1, .int a1), (3, .int a3)]) hx hb dJ7_fill_53178_14 hl (k := 2) rfl (by rw [oi_1]) (by decide) rfl (fun ls hl => ?_)
    refine lv_goto (tgt := 5) hx hb dJ7_fill_53178_17 (by decide) ?_
    exact k1 ((xs2 + 1), μ2) (Option.some.inj h).symm _ _ _ (lv_sub hl [1, 2, 0, 3] rfl) hW
set_option maxHeartbeats 4000000 in
set_option maxRecDepth 100000 in
theorem t_vs_Arrays_fill_53178_46 {l : Launch} {g : Gx} {A : Nat → Prop} {μ : Mm} {a1 : Int32} {u : Mm} (h : vs_Arrays_fill_53178_46 μ a1 = some u) : Ctv l g A wx yJ7_fill_53178 cJ7_fill_53178 4 none 0 [.ref (ad g 46), .int a1] μ u := by
  refine ent (lv := [(0, .ref (ad g 46)), (1, .int a1)]) (by decide) (Nat.le_of_ble_eq_true rfl) rfl ?_
  intro p e s m args below meth c hC hr hlocks hnm hW ls hl
  replace hC : Cx g RJ7 cJ7_fill_53178 4 p s m args c := hC
  obtain ⟨hx, hb, hml, hown, hts, hK, hN⟩ := id hC
  unfold vs_Arrays_fill_53178_46 at h
  refine lv_iconst (v := 0) hx hb dJ7_fill_53178_0 (by decide) ?_
  refine lv_istore_n (lv' := [(2, .int 0), (0, .ref (ad g 46)), (1, .int a1)]) hx hb dJ7_fill_53178_1 rfl hl (by decide) rfl (fun ls hl => ?_)
  refine lv_aload_n hx hb dJ7_fill_53178_2 rfl (lv_at hl 1 rfl) ?_
  refine kr_alen (v := 16) hC hW (wx_46 g μ) (by decide) dJ7_fill_53178_3 ?_
  refine lv_istore_n (lv' := [(3, .int 16), (2, .int 0), (0, .ref (ad g 46)), (1, .int a1)]) hx hb dJ7_fill_53178_4 rfl hl (by decide) rfl (fun ls hl => ?_)
  obtain ⟨μ3, he4, h⟩ := mbv_some h
  refine tl_vs_Arrays_fill_53178_46_5 a1 16 hC (fun ls H locs hl hW => ?_) FU (0, μ) he4 _ _ _ (lv_sub hl [2, 3, 1, 0] rfl) hW
  cases h
  exact kr_vret hC hr hlocks hW dJ7_fill_53178_20
set_option maxHeartbeats 4000000 in
set_option maxRecDepth 100000 in
theorem tl_vs_Asks_shortestFrom_36 (a1 : Int32) (a2 : Int32) (a3 : Int32) (a4 : Int32) (a5 : Int32) (hC : Cx g RX1 cX1_shortestFrom 8 p s m args c) {e0 : (Int32 × Mm)} (kx0 : ∀ (ls : Array Slot) (H : Heap) (locs : List Loc), lv_has ls 8 [(0, .ref (ad g 5)), (1, .int a1), (2, .int a2), (4, .int a4), (5, .int a5), (6, .int e0.1)] → wP g wx A s.heap e0.2 H locs → W p l e (rmD 1) s m args below meth c H locs 0 0 Q (F0 m 88 ls [])) : ∀ (n : Nat) (q : Int32 × Int32 × Mm), miter (fun q => vs_Asks_shortestFrom_b36 q.2.2 a1 a2 a3 a4 a5 q.1 q.2.1) n q = some e0 → ∀ (ls : Array Slot) (H : Heap) (locs : List Loc), lv_has ls 8 [(0, .ref (ad g 5)), (1, .int a1), (2, .int a2), (3, .int a3), (4, .int a4), (5, .int a5), (6, .int q.1), (7, .int q.2.1)] → wP g wx A s.heap q.2.2 H locs → W p l e (rmD 1) s m args below meth c H locs 0 0 Q (F0 m 36 ls []) := by
  obtain ⟨hx, hb, hml, hown, hts, hK, hN⟩ := id hC
  refine miter_ind (fun q r hf k1 k2 => ?_)
  obtain ⟨xs6, xs7, μ⟩ := q
  intro ls H locs hl hW
  have h : vs_Asks_shortestFrom_b36 μ a1 a2 a3 a4 a5 xs6 xs7 = some r := hf
  unfold vs_Asks_shortestFrom_b36 at h
  refine lv_iload hx hb dX1_shortestFrom_36 (lv_at hl 7 rfl) ?_
  refine lv_iload_n hx hb dX1_shortestFrom_38 rfl (lv_at hl 2 rfl) ?_
  refine lv_icmp_ge (tgt := 88) hx hb dX1_shortestFrom_39 (by decide) (fun hc5 => ?_) (fun hc5 => ?_)
  · replace h := if_p hc5 h
    obtain rfl := k2 _ (Option.some.inj h).symm
    exact kx0 _ _ _ (lv_sub hl [0, 1, 2, 4, 5, 6] rfl) hW
  · replace h := if_n hc5 h
    refine lv_iload hx hb dX1_shortestFrom_42 (lv_at hl 4 rfl) ?_
    refine lv_iload hx hb dX1_shortestFrom_44 (lv_at hl 7 rfl) ?_
    obtain ⟨x6, hx6, h⟩ := mbv_some h
    refine kr_ci hC hW (kr_runN hC hW hl.1 (t_vs_hasBit hx6) cw_X1_59 rfl rfl (Nat.le_of_ble_eq_true rfl) dX1_shortestFrom_46 (by decide)) (fun H locs hW => ?_)
    refine lv_if_ne (tgt := 82) hx hb dX1_shortestFrom_49 (by decide) (fun hc7 => ?_) (fun hc7 => ?_)
    · replace h := if_n hc7 h
      refine lv_iinc (v := (xs7 + 1)) (lv' := [(7, .int (xs7 + 1)), (0, .ref (ad g 5)), (1, .int a1), (2, .int a2), (3, .int a3), (4, .int a4), (5, .int a5), (6, .int xs6)]) hx hb dX1_shortestFrom_82 hl (k := 7) rfl (by rw [oi_1]) (by decide) rfl (fun ls hl => ?_)
      refine lv_goto (tgt := 36) hx hb dX1_shortestFrom_85 (by decide) ?_
      exact k1 (xs6, (xs7 + 1), μ) (Option.some.inj h).symm _ _ _ (lv_sub hl [1, 2, 3, 4, 5, 6, 7, 0] rfl) hW
    · replace h := if_p hc7 h
      refine lv_aload_n hx hb dX1_shortestFrom_52 rfl (lv_at hl 0 rfl) ?_
      refine gf_X1_15_x5 hC hW dX1_shortestFrom_53 ?_
      refine lv_iload hx hb dX1_shortestFrom_56 (lv_at hl 7 rfl) ?_
      obtain ⟨x8, ex8, hin, h⟩ := mrd_ex h
      refine kr_iald hC hW (wx_45 g μ) hin ex8 dX1_shortestFrom_58 ?_
      refine lv_iload_n hx hb dX1_shortestFrom_59 rfl (lv_at hl 3 rfl) ?_
      refine lv_iand hx hb dX1_shortestFrom_60 ?_
      refine lv_if_eq (tgt := 82) hx hb dX1_shortestFrom_61 (by decide) (fun hc9 => ?_) (fun hc9 => ?_)
      · replace h := if_p hc9 h
        refine lv_iinc (v := (xs7 + 1)) (lv' := [(7, .int (xs7 + 1)), (0, .ref (ad g 5)), (1, .int a1), (2, .int a2), (3, .int a3), (4, .int a4), (5, .int a5), (6, .int xs6)]) hx hb dX1_shortestFrom_82 hl (k := 7) rfl (by rw [oi_1]) (by decide) rfl (fun ls hl => ?_)
        refine lv_goto (tgt := 36) hx hb dX1_shortestFrom_85 (by decide) ?_
        exact k1 (xs6, (xs7 + 1), μ) (Option.some.inj h).symm _ _ _ (lv_sub hl [1, 2, 3, 4, 5, 6, 7, 0] rfl) hW
      · replace h := if_n hc9 h
        refine lv_iload hx hb dX1_shortestFrom_64 (lv_at hl 6 rfl) ?_
        refine lv_iconst (v := 1) hx hb dX1_shortestFrom_66 (by decide) ?_
        refine lv_iload hx hb dX1_shortestFrom_67 (lv_at hl 7 rfl) ?_
        refine lv_ishl hx hb dX1_shortestFrom_69 ?_
        refine lv_ior hx hb dX1_shortestFrom_70 ?_
        refine lv_istore (lv' := [(6, .int (xs6 ||| ((1 : Int32) <<< (xs7 &&& 31)))), (0, .ref (ad g 5)), (1, .int a1), (2, .int a2), (3, .int a3), (4, .int a4), (5, .int a5), (7, .int xs7)]) hx hb dX1_shortestFrom_71 hl (by decide) rfl (fun ls hl => ?_)
        refine lv_aload_n hx hb dX1_shortestFrom_73 rfl (lv_at hl 1 rfl) ?_
        refine gf_X1_18_x5 hC hW dX1_shortestFrom_74 ?_
        refine lv_iload hx hb dX1_shortestFrom_77 (lv_at hl 7 rfl) ?_
        refine lv_iload hx hb dX1_shortestFrom_79 (lv_at hl 6 rfl) ?_
        obtain ⟨μ10, eμ10, hin, h⟩ := mwr_ex h
        refine kr_iast hC hW (wx_46 g μ) (wxs_46 eμ10) hin dX1_shortestFrom_81 (fun H locs hW => ?_)
        refine lv_iinc (v := (xs7 + 1)) (lv' := [(7, .int (xs7 + 1)), (6, .int (xs6 ||| ((1 : Int32) <<< (xs7 &&& 31)))), (0, .ref (ad g 5)), (1, .int a1), (2, .int a2), (3, .int a3), (4, .int a4), (5, .int a5)]) hx hb dX1_shortestFrom_82 hl (k := 7) rfl (by rw [oi_1]) (by decide) rfl (fun ls hl => ?_)
        refine lv_goto (tgt := 36) hx hb dX1_shortestFrom_85 (by decide) ?_
        exact k1 ((xs6 ||| ((1 : Int32) <<< (xs7 &&& 31))), (xs7 + 1), μ10) (Option.some.inj h).symm _ _ _ (lv_sub hl [2, 3, 4, 5, 6, 7, 1, 0] rfl) hW
set_option maxHeartbeats 4000000 in
set_option maxRecDepth 100000 in
theorem tl_vs_Asks_shortestFrom_18 (a1 : Int32) (a2 : Int32) (hC : Cx g RX1 cX1_shortestFrom 8 p s m args c) {e0 : (Int32 × Mm) ⊕ (Mm)} (kx0 : (Sum.elim (fun a => ∀ (ls : Array Slot) (H : Heap) (locs : List Loc), lv_has ls 8 [(5, .int a.1)] → wP g wx A s.heap a.2 H locs → W p l e (rmD 1) s m args below meth c H locs 0 0 Q (F0 m 100 ls [])) (fun _ => True)) e0) (kx1 : (Sum.elim (fun _ => True) (fun a => ∀ (ls : Array Slot) (H : Heap) (locs : List Loc), lv_has ls 8 [] → wP g wx A s.heap a H locs → W p l e (rmD 1) s m args below meth c H locs 0 0 Q (F0 m 121 ls []))) e0) : ∀ (n : Nat) (q : Int32 × Int32 × Int32 × Mm), miter (fun q => vs_Asks_shortestFrom_b18 q.2.2.2 a1 a2 q.1 q.2.1 q.2.2.1) n q = some e0 → ∀ (ls : Array Slot) (H : Heap) (locs : List Loc), lv_has ls 8 [(0, .ref (ad g 5)), (1, .int a1), (2, .int a2), (3, .int q.1), (4, .int q.2.1), (5, .int q.2.2.1)] → wP g wx A s.heap q.2.2.2 H locs → W p l e (rmD 1) s m args below meth c H locs 0 0 Q (F0 m 18 ls []) := by
  obtain ⟨hx, hb, hml, hown, hts, hK, hN⟩ := id hC
  refine miter_ind (fun q r hf k1 k2 => ?_)
  obtain ⟨xs3, xs4, xs5, μ⟩ := q
  intro ls H locs hl hW
  have h : vs_Asks_shortestFrom_b18 μ a1 a2 xs3 xs4 xs5 = some r := hf
  unfold vs_Asks_shortestFrom_b18 at h
  refine lv_iload hx hb dX1_shortestFrom_18 (lv_at hl 5 rfl) ?_
  refine lv_iload_n hx hb dX1_shortestFrom_20 rfl (lv_at hl 2 rfl) ?_
  refine lv_icmp_ge (tgt := 121) hx hb dX1_shortestFrom_21 (by decide) (fun hc3 => ?_) (fun hc3 => ?_)
  · replace h := if_p hc3 h
    obtain rfl := k2 _ (Option.some.inj h).symm
    exact kx1 _ _ _ (lv_sub hl [] rfl) hW
  · replace h := if_n hc3 h
    refine lv_iload_n hx hb dX1_shortestFrom_24 rfl (lv_at hl 3 rfl) ?_
    refine lv_if_eq (tgt := 121) hx hb dX1_shortestFrom_25 (by decide) (fun hc4 => ?_) (fun hc4 => ?_)
    · replace h := if_p hc4 h
      obtain rfl := k2 _ (Option.some.inj h).symm
      exact kx1 _ _ _ (lv_sub hl [] rfl) hW
    · replace h := if_n hc4 h
      refine lv_iconst (v := 0) hx hb dX1_shortestFrom_28 (by decide) ?_
      refine lv_istore (lv' := [(6, .int 0), (0, .ref (ad g 5)), (1, .int a1), (2, .int a2), (3, .int xs3), (4, .int xs4), (5, .int xs5)]) hx hb dX1_shortestFrom_29 hl (by decide) rfl (fun ls hl => ?_)
      refine lv_iload_n hx hb dX1_shortestFrom_31 rfl (lv_at hl 2 rfl) ?_
      refine lv_iconst (v := 1) hx hb dX1_shortestFrom_32 (by decide) ?_
      refine lv_iadd hx hb dX1_shortestFrom_33 ?_
      refine lv_istore (lv' := [(7, .int (a1 + 1)), (6, .int 0), (0, .ref (ad g 5)), (1, .int a1), (2, .int a2), (3, .int xs3), (4, .int xs4), (5, .int xs5)]) hx hb dX1_shortestFrom_34 hl (by decide) rfl (fun ls hl => ?_)
      obtain ⟨e0, he15, h⟩ := mbv_some h
      obtain ⟨x11, μ12, ee, h9⟩ := un2_ex h
      clear h
      subst ee
      have h := h9
      clear h9
      refine tl_vs_Asks_shortestFrom_36 a1 a2 xs3 xs4 xs5 hC (fun ls H locs hl hW => ?_) FU (0, (a1 + 1), μ) he15 _ _ _ (lv_sub hl [2, 3, 4, 5, 6, 7, 1, 0] rfl) hW
      refine lv_aload_n hx hb dX1_shortestFrom_88 rfl (lv_at hl 0 rfl) ?_
      refine gf_X1_15_x5 hC hW dX1_shortestFrom_89 ?_
      refine lv_iload_n hx hb dX1_shortestFrom_92 rfl (lv_at hl 1 rfl) ?_
      obtain ⟨x13, ex13, hin, h⟩ := mrd_ex h
      refine kr_iald hC hW (wx_45 g μ12) hin ex13 dX1_shortestFrom_93 ?_
      refine lv_iload hx hb dX1_shortestFrom_94 (lv_at hl 5 rfl) ?_
      refine lv_iand hx hb dX1_shortestFrom_96 ?_
      refine lv_if_eq (tgt := 105) hx hb dX1_shortestFrom_97 (by decide) (fun hc14 => ?_) (fun hc14 => ?_)
      · replace h := if_p hc14 h
        refine lv_iload hx hb dX1_shortestFrom_105 (lv_at hl 3 rfl) ?_
        refine lv_iload hx hb dX1_shortestFrom_107 (lv_at hl 5 rfl) ?_
        refine lv_ior hx hb dX1_shortestFrom_109 ?_
        refine lv_istore (lv' := [(4, .int (xs4 ||| x11)), (0, .ref (ad g 5)), (1, .int a1), (2, .int a2), (5, .int xs5), (6, .int x11)]) hx hb dX1_shortestFrom_110 hl (by decide) rfl (fun ls hl => ?_)
        refine lv_iload hx hb dX1_shortestFrom_112 (lv_at hl 5 rfl) ?_
        refine lv_istore_n (lv' := [(3, .int x11), (4, .int (xs4 ||| x11)), (0, .ref (ad g 5)), (1, .int a1), (2, .int a2), (5, .int xs5), (6, .int x11)]) hx hb dX1_shortestFrom_114 rfl hl (by decide) rfl (fun ls hl => ?_)
        refine lv_iinc (v := (xs5 + 1)) (lv' := [(5, .int (xs5 + 1)), (3, .int x11), (4, .int (xs4 ||| x11)), (0, .ref (ad g 5)), (1, .int a1), (2, .int a2), (6, .int x11)]) hx hb dX1_shortestFrom_115 hl (k := 5) rfl (by rw [oi_1]) (by decide) rfl (fun ls hl => ?_)
        refine lv_goto (tgt := 18) hx hb dX1_shortestFrom_118 (by decide) ?_
        exact k1 (x11, (xs4 ||| x11), (xs5 + 1), μ12) (Option.some.inj h).symm _ _ _ (lv_sub hl [3, 4, 5, 1, 2, 0] rfl) hW
      · replace h := if_n hc14 h
        obtain rfl := k2 _ (Option.some.inj h).symm
        exact kx0 _ _ _ (lv_sub hl [4] rfl) hW
set_option maxHeartbeats 4000000 in
set_option maxRecDepth 100000 in
theorem t_vs_Asks_shortestFrom {l : Launch} {g : Gx} {A : Nat → Prop} {μ : Mm} {a1 : Int32} {a2 : Int32} {v : Int32} {u : Mm} (h : vs_Asks_shortestFrom μ a1 a2 = some (v, u)) : Cti l g A wx yX1_shortestFrom cX1_shortestFrom 8 (some .int) 1 [.ref (ad g 5), .int a1, .int a2] μ v u := by
  refine ent (lv := [(0, .ref (ad g 5)), (1, .int a1), (2, .int a2)]) (by decide) (Nat.le_of_ble_eq_true rfl) rfl ?_
  intro p e s m args below meth c hC hr hlocks hnm hW ls hl
  replace hC : Cx g RX1 cX1_shortestFrom 8 p s m args c := hC
  obtain ⟨hx, hb, hml, hown, hts, hK, hN⟩ := id hC
  unfold vs_Asks_shortestFrom at h
  refine lv_iconst (v := 1) hx hb dX1_shortestFrom_0 (by decide) ?_
  refine lv_iload_n hx hb dX1_shortestFrom_1 rfl (lv_at hl 1 rfl) ?_
  refine lv_ishl hx hb dX1_shortestFrom_2 ?_
  refine lv_istore_n (lv' := [(3, .int ((1 : Int32) <<< (a1 &&& 31))), (0, .ref (ad g 5)), (1, .int a1), (2, .int a2)]) hx hb dX1_shortestFrom_3 rfl hl (by decide) rfl (fun ls hl => ?_)
  refine lv_iload_n hx hb dX1_shortestFrom_4 rfl (lv_at hl 0 rfl) ?_
  refine lv_istore (lv' := [(4, .int ((1 : Int32) <<< (a1 &&& 31))), (3, .int ((1 : Int32) <<< (a1 &&& 31))), (0, .ref (ad g 5)), (1, .int a1), (2, .int a2)]) hx hb dX1_shortestFrom_5 hl (by decide) rfl (fun ls hl => ?_)
  refine lv_aload_n hx hb dX1_shortestFrom_7 rfl (lv_at hl 2 rfl) ?_
  refine gf_X1_18_x5 hC hW dX1_shortestFrom_8 ?_
  refine lv_iconst (v := (-1)) hx hb dX1_shortestFrom_11 (by decide) ?_
  obtain ⟨μ2, hxμ2, h⟩ := mbv_some h
  refine kr_cv hC hW (kr_runS hC hW hl.1 (t_vs_Arrays_fill_53178_46 hxμ2) cw_X1_24 rfl rfl (Nat.le_of_ble_eq_true rfl) dX1_shortestFrom_12 (by decide)) (fun H locs hW => ?_)
  refine lv_iconst (v := 1) hx hb dX1_shortestFrom_15 (by decide) ?_
  refine lv_istore (lv' := [(5, .int 1), (4, .int ((1 : Int32) <<< (a1 &&& 31))), (3, .int ((1 : Int32) <<< (a1 &&& 31))), (0, .ref (ad g 5)), (1, .int a1), (2, .int a2)]) hx hb dX1_shortestFrom_16 hl (by decide) rfl (fun ls hl => ?_)
  rcases msum2_ex h with ⟨e0, he16, h⟩ | ⟨μ19, he16, h⟩
  · obtain ⟨x17, μ18, ee, h9⟩ := un2_ex h
    clear h
    subst ee
    have h := h9
    clear h9
    refine tl_vs_Asks_shortestFrom_18 a1 a2 hC (e0 := (.inl (x17, μ18))) (fun ls H locs hl hW => ?_) trivial FU (((1 : Int32) <<< (a1 &&& 31)), ((1 : Int32) <<< (a1 &&& 31)), 1, μ2) he16 _ _ _ (lv_sub hl [3, 4, 5, 2, 1, 0] rfl) hW
    refine lv_iload hx hb dX1_shortestFrom_100 (lv_at hl 0 rfl) ?_
    refine lv_iconst (v := 1) hx hb dX1_shortestFrom_102 (by decide) ?_
    refine lv_iadd hx hb dX1_shortestFrom_103 ?_
    cases h
    exact kr_iret hC hr hlocks hW dX1_shortestFrom_104
  · refine tl_vs_Asks_shortestFrom_18 a1 a2 hC (e0 := (.inr μ19)) trivial (fun ls H locs hl hW => ?_) FU (((1 : Int32) <<< (a1 &&& 31)), ((1 : Int32) <<< (a1 &&& 31)), 1, μ2) he16 _ _ _ (lv_sub hl [3, 4, 5, 2, 1, 0] rfl) hW
    refine lv_iconst (v := (-1)) hx hb dX1_shortestFrom_121 (by decide) ?_
    cases h
    exact kr_iret hC hr hlocks hW dX1_shortestFrom_122
set_option maxHeartbeats 4000000 in
set_option maxRecDepth 100000 in
theorem tl_vs_Asks_lowestNext_3 (μ : Mm) (a1 : Int32) (a2 : Int32) (a3 : Int32) (hC : Cx g RX1 cX1_lowestNext 5 p s m args c) {e0 : (Int32) ⊕ (Unit)} (kx0 : (Sum.elim (fun a => ∀ (ls : Array Slot) (H : Heap) (locs : List Loc), lv_has ls 5 [(4, .int a)] → wP g wx A s.heap μ H locs → W p l e (rmD 1) s m args below meth c H locs 0 0 Q (F0 m 34 ls [])) (fun _ => True)) e0) (kx1 : (Sum.elim (fun _ => True) (fun a => ∀ (ls : Array Slot) (H : Heap) (locs : List Loc), lv_has ls 5 [(1, .int a1)] → wP g wx A s.heap μ H locs → W p l e (rmD 1) s m args below meth c H locs 0 0 Q (F0 m 43 ls []))) e0) : ∀ (n : Nat) (q : Int32), miter (fun q => vs_Asks_lowestNext_b3 μ a1 a2 a3 q) n q = some e0 → ∀ (ls : Array Slot) (H : Heap) (locs : List Loc), lv_has ls 5 [(0, .ref (ad g 5)), (1, .int a1), (2, .int a2), (3, .int a3), (4, .int q)] → wP g wx A s.heap μ H locs → W p l e (rmD 1) s m args below meth c H locs 0 0 Q (F0 m 3 ls []) := by
  obtain ⟨hx, hb, hml, hown, hts, hK, hN⟩ := id hC
  refine miter_ind (fun q r hf k1 k2 => ?_)
  obtain ⟨xs4, rfl⟩ : ∃ z, z = q := ⟨_, rfl⟩
  intro ls H locs hl hW
  have h : vs_Asks_lowestNext_b3 μ a1 a2 a3 xs4 = some r := hf
  unfold vs_Asks_lowestNext_b3 at h
  refine lv_iload hx hb dX1_lowestNext_3 (lv_at hl 4 rfl) ?_
  refine lv_iload_n hx hb dX1_lowestNext_5 rfl (lv_at hl 3 rfl) ?_
  refine lv_icmp_ge (tgt := 43) hx hb dX1_lowestNext_6 (by decide) (fun hc1 => ?_) (fun hc1 => ?_)
  · replace h := if_p hc1 h
    obtain rfl := k2 _ (Option.some.inj h).symm
    exact kx1 _ _ _ (lv_sub hl [1] rfl) hW
  · replace h := if_n hc1 h
    refine lv_aload_n hx hb dX1_lowestNext_9 rfl (lv_at hl 0 rfl) ?_
    refine gf_X1_15_x5 hC hW dX1_lowestNext_10 ?_
    refine lv_iload_n hx hb dX1_lowestNext_13 rfl (lv_at hl 1 rfl) ?_
    obtain ⟨x2, ex2, hin, h⟩ := mrd_ex h
    refine kr_iald hC hW (wx_45 g μ) hin ex2 dX1_lowestNext_14 ?_
    refine lv_iload hx hb dX1_lowestNext_15 (lv_at hl 4 rfl) ?_
    obtain ⟨x3, hx3, h⟩ := mbv_some h
    refine kr_ci hC hW (kr_runN hC hW hl.1 (t_vs_hasBit hx3) cw_X1_59 rfl rfl (Nat.le_of_ble_eq_true rfl) dX1_lowestNext_17 (by decide)) (fun H locs hW => ?_)
    refine lv_if_eq (tgt := 37) hx hb dX1_lowestNext_20 (by decide) (fun hc4 => ?_) (fun hc4 => ?_)
    · replace h := if_p hc4 h
      refine lv_iinc (v := (xs4 + 1)) (lv' := [(4, .int (xs4 + 1)), (0, .ref (ad g 5)), (1, .int a1), (2, .int a2), (3, .int a3)]) hx hb dX1_lowestNext_37 hl (k := 4) rfl (by rw [oi_1]) (by decide) rfl (fun ls hl => ?_)
      refine lv_goto (tgt := 3) hx hb dX1_lowestNext_40 (by decide) ?_
      exact k1 (xs4 + 1) (Option.some.inj h).symm _ _ _ (lv_sub hl [1, 2, 3, 4, 0] rfl) hW
    · replace h := if_n hc4 h
      refine lv_aload_n hx hb dX1_lowestNext_23 rfl (lv_at hl 0 rfl) ?_
      refine gf_X1_18_x5 hC hW dX1_lowestNext_24 ?_
      refine lv_iload hx hb dX1_lowestNext_27 (lv_at hl 4 rfl) ?_
      obtain ⟨x5, ex5, hin, h⟩ := mrd_ex h
      refine kr_iald hC hW (wx_46 g μ) hin ex5 dX1_lowestNext_29 ?_
      refine lv_iload_n hx hb dX1_lowestNext_30 rfl (lv_at hl 2 rfl) ?_
      refine lv_icmp_ne (tgt := 37) hx hb dX1_lowestNext_31 (by decide) (fun hc6 => ?_) (fun hc6 => ?_)
      · replace h := if_n hc6 h
        refine lv_iinc (v := (xs4 + 1)) (lv' := [(4, .int (xs4 + 1)), (0, .ref (ad g 5)), (1, .int a1), (2, .int a2), (3, .int a3)]) hx hb dX1_lowestNext_37 hl (k := 4) rfl (by rw [oi_1]) (by decide) rfl (fun ls hl => ?_)
        refine lv_goto (tgt := 3) hx hb dX1_lowestNext_40 (by decide) ?_
        exact k1 (xs4 + 1) (Option.some.inj h).symm _ _ _ (lv_sub hl [1, 2, 3, 4, 0] rfl) hW
      · replace h := if_p hc6 h
        obtain rfl := k2 _ (Option.some.inj h).symm
        exact kx0 _ _ _ (lv_sub hl [4] rfl) hW
set_option maxHeartbeats 4000000 in
set_option maxRecDepth 100000 in
theorem t_vs_Asks_lowestNext {l : Launch} {g : Gx} {A : Nat → Prop} {μ : Mm} {a1 : Int32} {a2 : Int32} {a3 : Int32} {v : Int32} (h : vs_Asks_lowestNext μ a1 a2 a3 = some v) : Cti l g A wx yX1_lowestNext cX1_lowestNext 5 (some .int) 1 [.ref (ad g 5), .int a1, .int a2, .int a3] μ v μ := by
  refine ent (lv := [(0, .ref (ad g 5)), (1, .int a1), (2, .int a2), (3, .int a3)]) (by decide) (Nat.le_of_ble_eq_true rfl) rfl ?_
  intro p e s m args below meth c hC hr hlocks hnm hW ls hl
  replace hC : Cx g RX1 cX1_lowestNext 5 p s m args c := hC
  obtain ⟨hx, hb, hml, hown, hts, hK, hN⟩ := id hC
  unfold vs_Asks_lowestNext at h
  refine lv_iconst (v := 0) hx hb dX1_lowestNext_0 (by decide) ?_
  refine lv_istore (lv' := [(4, .int 0), (0, .ref (ad g 5)), (1, .int a1), (2, .int a2), (3, .int a3)]) hx hb dX1_lowestNext_1 hl (by decide) rfl (fun ls hl => ?_)
  rcases msum2_ex h with ⟨x8, he7, h⟩ | ⟨e0, he7, h⟩
  · refine tl_vs_Asks_lowestNext_3 μ a1 a2 a3 hC (e0 := (.inl x8)) (fun ls H locs hl hW => ?_) trivial FU 0 he7 _ _ _ (lv_sub hl [1, 2, 3, 4, 0] rfl) hW
    refine lv_iload hx hb dX1_lowestNext_34 (lv_at hl 0 rfl) ?_
    cases h
    exact kr_iret hC hr hlocks hW dX1_lowestNext_36
  · refine tl_vs_Asks_lowestNext_3 μ a1 a2 a3 hC (e0 := (.inr ())) trivial (fun ls H locs hl hW => ?_) FU 0 he7 _ _ _ (lv_sub hl [1, 2, 3, 4, 0] rfl) hW
    refine lv_iload_n hx hb dX1_lowestNext_43 rfl (lv_at hl 0 rfl) ?_
    cases h
    exact kr_iret hC hr hlocks hW dX1_lowestNext_44
set_option maxHeartbeats 4000000 in
set_option maxRecDepth 100000 in
theorem tl_vs_Asks_tellFrom_9 (a2 : Int32) (hC : Cx g RX1 cX1_tellFrom 4 p s m args c) {e0 : (Mm)} (kx0 : ∀ (ls : Array Slot) (H : Heap) (locs : List Loc), lv_has ls 4 [] → wP g wx A s.heap e0 H locs → W p l e (rmD 2) s m args below meth c H locs 0 0 Q (F0 m 48 ls [])) : ∀ (n : Nat) (q : Int32 × Mm), miter (fun q => vs_Asks_tellFrom_b9 q.2 a2 q.1) n q = some e0 → ∀ (ls : Array Slot) (H : Heap) (locs : List Loc), lv_has ls 4 [(0, .ref (ad g 5)), (2, .int a2), (3, .int q.1)] → wP g wx A s.heap q.2 H locs → W p l e (rmD 2) s m args below meth c H locs 0 0 Q (F0 m 9 ls []) := by
  obtain ⟨hx, hb, hml, hown, hts, hK, hN⟩ := id hC
  refine miter_ind (fun q r hf k1 k2 => ?_)
  obtain ⟨xs3, μ⟩ := q
  intro ls H locs hl hW
  have h : vs_Asks_tellFrom_b9 μ a2 xs3 = some r := hf
  unfold vs_Asks_tellFrom_b9 at h
  refine lv_iload_n hx hb dX1_tellFrom_9 rfl (lv_at hl 2 rfl) ?_
  refine lv_aload_n hx hb dX1_tellFrom_10 rfl (lv_at hl 0 rfl) ?_
  refine gf_X1_42_x5 hC hW dX1_tellFrom_11 ?_
  refine lv_icmp_ge (tgt := 48) hx hb dX1_tellFrom_14 (by decide) (fun hc2 => ?_) (fun hc2 => ?_)
  · replace h := if_p hc2 h
    obtain rfl := k2 _ (Option.some.inj h).symm
    exact kx0 _ _ _ (lv_sub hl [] rfl) hW
  · replace h := if_n hc2 h
    refine lv_aload_n hx hb dX1_tellFrom_17 rfl (lv_at hl 0 rfl) ?_
    refine gf_X1_21_x5 hC hW dX1_tellFrom_18 ?_
    refine lv_iload_n hx hb dX1_tellFrom_21 rfl (lv_at hl 2 rfl) ?_
    refine lv_aload_n hx hb dX1_tellFrom_22 rfl (lv_at hl 0 rfl) ?_
    refine lv_aload_n hx hb dX1_tellFrom_23 rfl (lv_at hl 0 rfl) ?_
    refine gf_X1_21_x5 hC hW dX1_tellFrom_24 ?_
    refine lv_iload_n hx hb dX1_tellFrom_27 rfl (lv_at hl 2 rfl) ?_
    refine lv_iconst (v := 1) hx hb dX1_tellFrom_28 (by decide) ?_
    refine lv_isub hx hb dX1_tellFrom_29 ?_
    obtain ⟨x3, ex3, hin, h⟩ := mrd_ex h
    refine kr_iald hC hW (wx_47 g μ) hin ex3 dX1_tellFrom_30 ?_
    refine lv_aload_n hx hb dX1_tellFrom_31 rfl (lv_at hl 0 rfl) ?_
    refine gf_X1_42_x5 hC hW dX1_tellFrom_32 ?_
    refine lv_iload_n hx hb dX1_tellFrom_35 rfl (lv_at hl 2 rfl) ?_
    refine lv_isub hx hb dX1_tellFrom_36 ?_
    refine lv_iload_n hx hb dX1_tellFrom_37 rfl (lv_at hl 1 rfl) ?_
    obtain ⟨x4, hx4, h⟩ := mbv_some h
    refine kr_ci hC hW (kr_runV hC hW hl.1 (t_vs_Asks_lowestNext hx4) cw_X1_63 (wx_5 g μ) rfl rfl rfl (Nat.le_of_ble_eq_true rfl) dX1_tellFrom_38 (by decide)) (fun H locs hW => ?_)
    obtain ⟨μ5, eμ5, hin, h⟩ := mwr_ex h
    refine kr_iast hC hW (wx_47 g μ) (wxs_47 eμ5) hin dX1_tellFrom_41 (fun H locs hW => ?_)
    refine lv_iinc (v := (xs3 + 1)) (lv' := [(3, .int (xs3 + 1)), (0, .ref (ad g 5)), (2, .int a2)]) hx hb dX1_tellFrom_42 hl (k := 2) rfl (by rw [oi_1]) (by decide) rfl (fun ls hl => ?_)
    refine lv_goto (tgt := 9) hx hb dX1_tellFrom_45 (by decide) ?_
    exact k1 ((xs3 + 1), μ5) (Option.some.inj h).symm _ _ _ (lv_sub hl [1, 2, 0] rfl) hW
set_option maxHeartbeats 4000000 in
set_option maxRecDepth 100000 in
theorem t_vs_Asks_tellFrom {l : Launch} {g : Gx} {A : Nat → Prop} {μ : Mm} {a1 : Int32} {a2 : Int32} {u : Mm} (h : vs_Asks_tellFrom μ a1 a2 = some u) : Ctv l g A wx yX1_tellFrom cX1_tellFrom 4 none 2 [.ref (ad g 5), .int a1, .int a2] μ u := by
  refine ent (lv := [(0, .ref (ad g 5)), (1, .int a1), (2, .int a2)]) (by decide) (Nat.le_of_ble_eq_true rfl) rfl ?_
  intro p e s m args below meth c hC hr hlocks hnm hW ls hl
  replace hC : Cx g RX1 cX1_tellFrom 4 p s m args c := hC
  obtain ⟨hx, hb, hml, hown, hts, hK, hN⟩ := id hC
  unfold vs_Asks_tellFrom at h
  refine lv_aload_n hx hb dX1_tellFrom_0 rfl (lv_at hl 0 rfl) ?_
  refine gf_X1_21_x5 hC hW dX1_tellFrom_1 ?_
  refine lv_iconst (v := 0) hx hb dX1_tellFrom_4 (by decide) ?_
  refine lv_iload_n hx hb dX1_tellFrom_5 rfl (lv_at hl 1 rfl) ?_
  obtain ⟨μ1, eμ1, hin, h⟩ := mwr_ex h
  refine kr_iast hC hW (wx_47 g μ) (wxs_47 eμ1) hin dX1_tellFrom_6 (fun H locs hW => ?_)
  refine lv_iconst (v := 1) hx hb dX1_tellFrom_7 (by decide) ?_
  refine lv_istore_n (lv' := [(3, .int 1), (0, .ref (ad g 5)), (1, .int a1), (2, .int a2)]) hx hb dX1_tellFrom_8 rfl hl (by decide) rfl (fun ls hl => ?_)
  obtain ⟨μ6, he7, h⟩ := mbv_some h
  refine tl_vs_Asks_tellFrom_9 a2 hC (fun ls H locs hl hW => ?_) FU (1, μ1) he7 _ _ _ (lv_sub hl [1, 3, 0] rfl) hW
  cases h
  exact kr_vret hC hr hlocks hW dX1_tellFrom_48
set_option maxHeartbeats 4000000 in
set_option maxRecDepth 100000 in
theorem tl_vs_Asks_findRing_2 (a2 : Int32) (hC : Cx g RX1 cX1_findRing 5 p s m args c) {e0 : (Mm)} (kx0 : ∀ (ls : Array Slot) (H : Heap) (locs : List Loc), lv_has ls 5 [(0, .ref (ad g 5)), (2, .int a2)] → wP g wx A s.heap e0 H locs → W p l e (rmD 3) s m args below meth c H locs 0 0 Q (F0 m 25 ls [])) : ∀ (n : Nat) (q : Int32 × Mm), miter (fun q => vs_Asks_findRing_b2 q.2 a2 q.1) n q = some e0 → ∀ (ls : Array Slot) (H : Heap) (locs : List Loc), lv_has ls 5 [(0, .ref (ad g 5)), (1, .ref (ad g 2)), (2, .int a2), (3, .int q.1)] → wP g wx A s.heap q.2 H locs → W p l e (rmD 3) s m args below meth c H locs 0 0 Q (F0 m 2 ls []) := by
  obtain ⟨hx, hb, hml, hown, hts, hK, hN⟩ := id hC
  refine miter_ind (fun q r hf k1 k2 => ?_)
  obtain ⟨xs3, μ⟩ := q
  intro ls H locs hl hW
  have h : vs_Asks_findRing_b2 μ a2 xs3 = some r := hf
  unfold vs_Asks_findRing_b2 at h
  refine lv_iload_n hx hb dX1_findRing_2 rfl (lv_at hl 3 rfl) ?_
  refine lv_iload_n hx hb dX1_findRing_3 rfl (lv_at hl 2 rfl) ?_
  refine lv_icmp_ge (tgt := 25) hx hb dX1_findRing_4 (by decide) (fun hc1 => ?_) (fun hc1 => ?_)
  · replace h := if_p hc1 h
    obtain rfl := k2 _ (Option.some.inj h).symm
    exact kx0 _ _ _ (lv_sub hl [0, 2] rfl) hW
  · replace h := if_n hc1 h
    refine lv_aload_n hx hb dX1_findRing_7 rfl (lv_at hl 0 rfl) ?_
    refine gf_X1_15_x5 hC hW dX1_findRing_8 ?_
    refine lv_iload_n hx hb dX1_findRing_11 rfl (lv_at hl 3 rfl) ?_
    refine lv_aload_n hx hb dX1_findRing_12 rfl (lv_at hl 0 rfl) ?_
    refine lv_iload_n hx hb dX1_findRing_13 rfl (lv_at hl 3 rfl) ?_
    refine lv_aload_n hx hb dX1_findRing_14 rfl (lv_at hl 1 rfl) ?_
    obtain ⟨x2, hx2, h⟩ := mbv_some h
    refine kr_ci hC hW (kr_runV hC hW hl.1 (t_vs_Asks_awaited hx2) cw_X1_38 (wx_5 g μ) rfl rfl rfl (Nat.le_of_ble_eq_true rfl) dX1_findRing_15 (by decide)) (fun H locs hW => ?_)
    obtain ⟨μ3, eμ3, hin, h⟩ := mwr_ex h
    refine kr_iast hC hW (wx_45 g μ) (wxs_45 eμ3) hin dX1_findRing_18 (fun H locs hW => ?_)
    refine lv_iinc (v := (xs3 + 1)) (lv' := [(3, .int (xs3 + 1)), (0, .ref (ad g 5)), (1, .ref (ad g 2)), (2, .int a2)]) hx hb dX1_findRing_19 hl (k := 3) rfl (by rw [oi_1]) (by decide) rfl (fun ls hl => ?_)
    refine lv_goto (tgt := 2) hx hb dX1_findRing_22 (by decide) ?_
    exact k1 ((xs3 + 1), μ3) (Option.some.inj h).symm _ _ _ (lv_sub hl [1, 2, 3, 0] rfl) hW
set_option maxHeartbeats 4000000 in
set_option maxRecDepth 100000 in
theorem tl_vs_Asks_findRing_32 (a2 : Int32) (hC : Cx g RX1 cX1_findRing 5 p s m args c) {e0 : (Mm)} (kx0 : ∀ (ls : Array Slot) (H : Heap) (locs : List Loc), lv_has ls 5 [] → wP g wx A s.heap e0 H locs → W p l e (rmD 3) s m args below meth c H locs 0 0 Q (F0 m 85 ls [])) : ∀ (n : Nat) (q : Int32 × Mm), miter (fun q => vs_Asks_findRing_b32 q.2 a2 q.1) n q = some e0 → ∀ (ls : Array Slot) (H : Heap) (locs : List Loc), lv_has ls 5 [(0, .ref (ad g 5)), (2, .int a2), (3, .int q.1)] → wP g wx A s.heap q.2 H locs → W p l e (rmD 3) s m args below meth c H locs 0 0 Q (F0 m 32 ls []) := by
  obtain ⟨hx, hb, hml, hown, hts, hK, hN⟩ := id hC
  refine miter_ind (fun q r hf k1 k2 => ?_)
  obtain ⟨xs3, μ⟩ := q
  intro ls H locs hl hW
  have h : vs_Asks_findRing_b32 μ a2 xs3 = some r := hf
  unfold vs_Asks_findRing_b32 at h
  refine lv_iload_n hx hb dX1_findRing_32 rfl (lv_at hl 2 rfl) ?_
  refine lv_iload_n hx hb dX1_findRing_33 rfl (lv_at hl 1 rfl) ?_
  refine lv_icmp_ge (tgt := 85) hx hb dX1_findRing_34 (by decide) (fun hc6 => ?_) (fun hc6 => ?_)
  · replace h := if_p hc6 h
    obtain rfl := k2 _ (Option.some.inj h).symm
    exact kx0 _ _ _ (lv_sub hl [] rfl) hW
  · replace h := if_n hc6 h
    refine lv_aload_n hx hb dX1_findRing_37 rfl (lv_at hl 0 rfl) ?_
    refine lv_iload_n hx hb dX1_findRing_38 rfl (lv_at hl 2 rfl) ?_
    refine lv_iload_n hx hb dX1_findRing_39 rfl (lv_at hl 1 rfl) ?_
    obtain ⟨x7, μ8, hx7, h⟩ := mbm_some h
    refine kr_ci hC hW (kr_runV hC hW hl.1 (t_vs_Asks_shortestFrom hx7) cw_X1_45 (wx_5 g μ) rfl rfl rfl (Nat.le_of_ble_eq_true rfl) dX1_findRing_40 (by decide)) (fun H locs hW => ?_)
    refine lv_istore (lv' := [(4, .int x7), (0, .ref (ad g 5)), (2, .int a2), (3, .int xs3)]) hx hb dX1_findRing_43 hl (by decide) rfl (fun ls hl => ?_)
    refine lv_iload hx hb dX1_findRing_45 (lv_at hl 0 rfl) ?_
    refine lv_iconst (v := (-1)) hx hb dX1_findRing_47 (by decide) ?_
    refine lv_icmp_eq (tgt := 79) hx hb dX1_findRing_48 (by decide) (fun hc9 => ?_) (fun hc9 => ?_)
    · replace h := if_p hc9 h
      refine lv_iinc (v := (xs3 + 1)) (lv' := [(3, .int (xs3 + 1)), (4, .int x7), (0, .ref (ad g 5)), (2, .int a2)]) hx hb dX1_findRing_79 hl (k := 3) rfl (by rw [oi_1]) (by decide) rfl (fun ls hl => ?_)
      refine lv_goto (tgt := 32) hx hb dX1_findRing_82 (by decide) ?_
      exact k1 ((xs3 + 1), μ8) (Option.some.inj h).symm _ _ _ (lv_sub hl [2, 3, 0] rfl) hW
    · replace h := if_n hc9 h
      refine lv_aload_n hx hb dX1_findRing_51 rfl (lv_at hl 1 rfl) ?_
      refine gf_X1_42_x5 hC hW dX1_findRing_52 ?_
      refine lv_if_eq (tgt := 67) hx hb dX1_findRing_55 (by decide) (fun hc10 => ?_) (fun hc10 => ?_)
      · replace h := if_p hc10 h
        refine lv_aload_n hx hb dX1_findRing_67 rfl (lv_at hl 1 rfl) ?_
        refine lv_iload hx hb dX1_findRing_68 (lv_at hl 0 rfl) ?_
        obtain ⟨μ11, eμ11, h⟩ := mst_some h
        refine pf_X1_42_x5 hC hW eμ11 dX1_findRing_70 (fun H locs hW => ?_)
        refine lv_aload_n hx hb dX1_findRing_73 rfl (lv_at hl 1 rfl) ?_
        refine lv_iload_n hx hb dX1_findRing_74 rfl (lv_at hl 3 rfl) ?_
        refine lv_iload_n hx hb dX1_findRing_75 rfl (lv_at hl 2 rfl) ?_
        obtain ⟨μ13, hxμ13, h⟩ := mbv_some h
        refine kr_cv hC hW (kr_runV hC hW hl.1 (t_vs_Asks_tellFrom hxμ13) cw_X1_48 (wx_5 g μ11) rfl rfl rfl (Nat.le_of_ble_eq_true rfl) dX1_findRing_76 (by decide)) (fun H locs hW => ?_)
        refine lv_iinc (v := (xs3 + 1)) (lv' := [(3, .int (xs3 + 1)), (4, .int x7), (0, .ref (ad g 5)), (2, .int a2)]) hx hb dX1_findRing_79 hl (k := 3) rfl (by rw [oi_1]) (by decide) rfl (fun ls hl => ?_)
        refine lv_goto (tgt := 32) hx hb dX1_findRing_82 (by decide) ?_
        exact k1 ((xs3 + 1), μ13) (Option.some.inj h).symm _ _ _ (lv_sub hl [2, 3, 0] rfl) hW
      · replace h := if_n hc10 h
        refine lv_iload hx hb dX1_findRing_58 (lv_at hl 0 rfl) ?_
        refine lv_aload_n hx hb dX1_findRing_60 rfl (lv_at hl 1 rfl) ?_
        refine gf_X1_42_x5 hC hW dX1_findRing_61 ?_
        refine lv_icmp_ge (tgt := 79) hx hb dX1_findRing_64 (by decide) (fun hc14 => ?_) (fun hc14 => ?_)
        · replace h := if_p hc14 h
          refine lv_iinc (v := (xs3 + 1)) (lv' := [(3, .int (xs3 + 1)), (4, .int x7), (0, .ref (ad g 5)), (2, .int a2)]) hx hb dX1_findRing_79 hl (k := 3) rfl (by rw [oi_1]) (by decide) rfl (fun ls hl => ?_)
          refine lv_goto (tgt := 32) hx hb dX1_findRing_82 (by decide) ?_
          exact k1 ((xs3 + 1), μ8) (Option.some.inj h).symm _ _ _ (lv_sub hl [2, 3, 0] rfl) hW
        · replace h := if_n hc14 h
          refine lv_aload_n hx hb dX1_findRing_67 rfl (lv_at hl 1 rfl) ?_
          refine lv_iload hx hb dX1_findRing_68 (lv_at hl 0 rfl) ?_
          obtain ⟨μ15, eμ15, h⟩ := mst_some h
          refine pf_X1_42_x5 hC hW eμ15 dX1_findRing_70 (fun H locs hW => ?_)
          refine lv_aload_n hx hb dX1_findRing_73 rfl (lv_at hl 1 rfl) ?_
          refine lv_iload_n hx hb dX1_findRing_74 rfl (lv_at hl 3 rfl) ?_
          refine lv_iload_n hx hb dX1_findRing_75 rfl (lv_at hl 2 rfl) ?_
          obtain ⟨μ17, hxμ17, h⟩ := mbv_some h
          refine kr_cv hC hW (kr_runV hC hW hl.1 (t_vs_Asks_tellFrom hxμ17) cw_X1_48 (wx_5 g μ15) rfl rfl rfl (Nat.le_of_ble_eq_true rfl) dX1_findRing_76 (by decide)) (fun H locs hW => ?_)
          refine lv_iinc (v := (xs3 + 1)) (lv' := [(3, .int (xs3 + 1)), (4, .int x7), (0, .ref (ad g 5)), (2, .int a2)]) hx hb dX1_findRing_79 hl (k := 3) rfl (by rw [oi_1]) (by decide) rfl (fun ls hl => ?_)
          refine lv_goto (tgt := 32) hx hb dX1_findRing_82 (by decide) ?_
          exact k1 ((xs3 + 1), μ17) (Option.some.inj h).symm _ _ _ (lv_sub hl [2, 3, 0] rfl) hW
set_option maxHeartbeats 4000000 in
set_option maxRecDepth 100000 in
theorem t_vs_Asks_findRing {l : Launch} {g : Gx} {A : Nat → Prop} {μ : Mm} {a2 : Int32} {u : Mm} (h : vs_Asks_findRing μ a2 = some u) : Ctv l g A wx yX1_findRing cX1_findRing 5 none 3 [.ref (ad g 5), .ref (ad g 2), .int a2] μ u := by
  refine ent (lv := [(0, .ref (ad g 5)), (1, .ref (ad g 2)), (2, .int a2)]) (by decide) (Nat.le_of_ble_eq_true rfl) rfl ?_
  intro p e s m args below meth c hC hr hlocks hnm hW ls hl
  replace hC : Cx g RX1 cX1_findRing 5 p s m args c := hC
  obtain ⟨hx, hb, hml, hown, hts, hK, hN⟩ := id hC
  unfold vs_Asks_findRing at h
  refine lv_iconst (v := 0) hx hb dX1_findRing_0 (by decide) ?_
  refine lv_istore_n (lv' := [(3, .int 0), (0, .ref (ad g 5)), (1, .ref (ad g 2)), (2, .int a2)]) hx hb dX1_findRing_1 rfl hl (by decide) rfl (fun ls hl => ?_)
  obtain ⟨μ4, he20, h⟩ := mbv_some h
  refine tl_vs_Asks_findRing_2 a2 hC (fun ls H locs hl hW => ?_) FU (0, μ) he20 _ _ _ (lv_sub hl [1, 2, 3, 0] rfl) hW
  refine lv_aload_n hx hb dX1_findRing_25 rfl (lv_at hl 0 rfl) ?_
  refine lv_iconst (v := 0) hx hb dX1_findRing_26 (by decide) ?_
  obtain ⟨μ5, eμ5, h⟩ := mst_some h
  refine pf_X1_42_x5 hC hW eμ5 dX1_findRing_27 (fun H locs hW => ?_)
  refine lv_iconst (v := 0) hx hb dX1_findRing_30 (by decide) ?_
  refine lv_istore_n (lv' := [(3, .int 0), (0, .ref (ad g 5)), (2, .int a2)]) hx hb dX1_findRing_31 rfl hl (by decide) rfl (fun ls hl => ?_)
  obtain ⟨μ18, he19, h⟩ := mbv_some h
  refine tl_vs_Asks_findRing_32 a2 hC (fun ls H locs hl hW => ?_) FU (0, μ5) he19 _ _ _ (lv_sub hl [1, 2, 0] rfl) hW
  cases h
  exact kr_vret hC hr hlocks hW dX1_findRing_85
set_option maxHeartbeats 4000000 in
set_option maxRecDepth 100000 in
theorem t_vs_ring {l : Launch} {g : Gx} {A : Nat → Prop} {μ : Mm} {a1 : Int32} {v : Int32} {u : Mm} (h : vs_ring μ a1 = some (v, u)) : Cti l g A wx yX11_ring cX11_ring 2 (some .int) 4 [.ref (ad g 0), .int a1] μ v u := by
  refine ent (lv := [(0, .ref (ad g 0)), (1, .int a1)]) (by decide) (Nat.le_of_ble_eq_true rfl) rfl ?_
  intro p e s m args below meth c hC hr hlocks hnm hW ls hl
  replace hC : Cx g RX11 cX11_ring 2 p s m args c := hC
  obtain ⟨hx, hb, hml, hown, hts, hK, hN⟩ := id hC
  unfold vs_ring at h
  refine lv_aload_n hx hb dX11_ring_0 rfl (lv_at hl 0 rfl) ?_
  refine gf_X11_40_x0 hC hW dX11_ring_1 ?_
  refine lv_aload_n hx hb dX11_ring_4 rfl (lv_at hl 0 rfl) ?_
  refine gf_X11_19_x0 hC hW dX11_ring_5 ?_
  refine lv_aload_n hx hb dX11_ring_8 rfl (lv_at hl 0 rfl) ?_
  refine gf_X11_26_x0 hC hW dX11_ring_9 ?_
  refine gf_X11_278_x3 hC hW dX11_ring_12 ?_
  obtain ⟨μ2, hxμ2, h⟩ := mbv_some h
  refine kr_cv hC hW (kr_runV hC hW hl.1 (t_vs_Asks_findRing hxμ2) cw_X11_279 (wx_5 g μ) rfl rfl rfl (Nat.le_of_ble_eq_true rfl) dX11_ring_15 (by decide)) (fun H locs hW => ?_)
  refine lv_iload_n hx hb dX11_ring_18 rfl (lv_at hl 1 rfl) ?_
  refine lv_iconst (v := (-1)) hx hb dX11_ring_19 (by decide) ?_
  refine lv_icmp_ne (tgt := 31) hx hb dX11_ring_20 (by decide) (fun hc3 => ?_) (fun hc3 => ?_)
  · replace h := if_n hc3 h
    refine lv_iload_n hx hb dX11_ring_31 rfl (lv_at hl 1 rfl) ?_
    refine lv_iconst (v := 0) hx hb dX11_ring_32 (by decide) ?_
    refine lv_aload_n hx hb dX11_ring_33 rfl (lv_at hl 0 rfl) ?_
    refine gf_X11_40_x0 hC hW dX11_ring_34 ?_
    refine gf_X11_283_x5 hC hW dX11_ring_37 ?_
    refine lv_iconst (v := 1) hx hb dX11_ring_40 (by decide) ?_
    refine lv_isub hx hb dX11_ring_41 ?_
    obtain ⟨x4, hx4, h⟩ := mbv_some h
    refine kr_ci hC hW (kr_runS hC hW hl.1 (t_vs_within hx4) cw_X11_100 rfl rfl (Nat.le_of_ble_eq_true rfl) dX11_ring_42 (by decide)) (fun H locs hW => ?_)
    refine lv_if_eq (tgt := 60) hx hb dX11_ring_45 (by decide) (fun hc5 => ?_) (fun hc5 => ?_)
    · replace h := if_p hc5 h
      refine lv_iconst (v := (-1)) hx hb dX11_ring_60 (by decide) ?_
      cases h
      exact kr_iret hC hr hlocks hW dX11_ring_61
    · replace h := if_n hc5 h
      refine lv_aload_n hx hb dX11_ring_48 rfl (lv_at hl 0 rfl) ?_
      refine gf_X11_40_x0 hC hW dX11_ring_49 ?_
      refine gf_X11_286_x5 hC hW dX11_ring_52 ?_
      refine lv_iload_n hx hb dX11_ring_55 rfl (lv_at hl 1 rfl) ?_
      obtain ⟨x6, ex6, hin, h⟩ := mrd_ex h
      refine kr_iald hC hW (wx_47 g μ2) hin ex6 dX11_ring_56 ?_
      refine lv_goto (tgt := 61) hx hb dX11_ring_57 (by decide) ?_
      cases h
      exact kr_iret hC hr hlocks hW dX11_ring_61
  · replace h := if_p hc3 h
    refine lv_aload_n hx hb dX11_ring_23 rfl (lv_at hl 0 rfl) ?_
    refine gf_X11_40_x0 hC hW dX11_ring_24 ?_
    refine gf_X11_283_x5 hC hW dX11_ring_27 ?_
    cases h
    exact kr_iret hC hr hlocks hW dX11_ring_30
set_option maxHeartbeats 4000000 in
set_option maxRecDepth 100000 in
theorem t_vs_isMuch {l : Launch} {g : Gx} {A : Nat → Prop} {Wd : Gx → Mm → va_W} {μ : Mm} {a0 : Int32} {v : Bool} (h : vs_isMuch a0 = some v) : Cti l g A Wd yX11_isMuch cX11_isMuch 1 (some .boolean) 1 [.int a0] μ (bI v) μ := by
  refine ent (lv := [(0, .int a0)]) (by decide) (Nat.le_of_ble_eq_true rfl) rfl ?_
  intro p e s m args below meth c hC hr hlocks hnm hW ls hl
  replace hC : Cx g RX11 cX11_isMuch 1 p s m args c := hC
  obtain ⟨hx, hb, hml, hown, hts, hK, hN⟩ := id hC
  unfold vs_isMuch at h
  refine lv_iload_n hx hb dX11_isMuch_0 rfl (lv_at hl 0 rfl) ?_
  refine lv_iconst (v := 1) hx hb dX11_isMuch_1 (by decide) ?_
  refine lv_sipush (v := 1000) hx hb dX11_isMuch_2 (by decide) ?_
  obtain ⟨x1, hx1, h⟩ := mbv_some h
  refine kr_ci hC hW (kr_runS hC hW hl.1 (t_vs_within hx1) cw_X11_100 rfl rfl (Nat.le_of_ble_eq_true rfl) dX11_isMuch_5 (by decide)) (fun H locs hW => ?_)
  cases h
  exact kr_zret hC hr hlocks _ rfl hW dX11_isMuch_8
set_option maxHeartbeats 4000000 in
set_option maxRecDepth 100000 in
theorem tl_vs_readersOf_4 (μ : Mm) (a1 : Int32) (hC : Cx g RX11 cX11_readersOf 4 p s m args c) {e0 : (Int32)} (kx0 : ∀ (ls : Array Slot) (H : Heap) (locs : List Loc), lv_has ls 4 [(2, .int e0)] → wP g wx A s.heap μ H locs → W p l e (rmD 1) s m args below meth c H locs 0 0 Q (F0 m 41 ls [])) : ∀ (n : Nat) (q : Int32 × Int32), miter (fun q => vs_readersOf_b4 μ a1 q.1 q.2) n q = some e0 → ∀ (ls : Array Slot) (H : Heap) (locs : List Loc), lv_has ls 4 [(0, .ref (ad g 0)), (1, .int a1), (2, .int q.1), (3, .int q.2)] → wP g wx A s.heap μ H locs → W p l e (rmD 1) s m args below meth c H locs 0 0 Q (F0 m 4 ls []) := by
  obtain ⟨hx, hb, hml, hown, hts, hK, hN⟩ := id hC
  refine miter_ind (fun q r hf k1 k2 => ?_)
  obtain ⟨xs2, xs3⟩ := q
  intro ls H locs hl hW
  have h : vs_readersOf_b4 μ a1 xs2 xs3 = some r := hf
  unfold vs_readersOf_b4 at h
  refine lv_iload_n hx hb dX11_readersOf_4 rfl (lv_at hl 3 rfl) ?_
  refine lv_aload_n hx hb dX11_readersOf_5 rfl (lv_at hl 0 rfl) ?_
  refine gf_X11_33_x0 hC hW dX11_readersOf_6 ?_
  refine gf_X11_374_x4 hC hW dX11_readersOf_9 ?_
  refine lv_icmp_ge (tgt := 41) hx hb dX11_readersOf_12 (by decide) (fun hc1 => ?_) (fun hc1 => ?_)
  · replace h := if_p hc1 h
    obtain rfl := k2 _ (Option.some.inj h).symm
    exact kx0 _ _ _ (lv_sub hl [2] rfl) hW
  · replace h := if_n hc1 h
    refine lv_iload_n hx hb dX11_readersOf_15 rfl (lv_at hl 1 rfl) ?_
    refine lv_iload_n hx hb dX11_readersOf_16 rfl (lv_at hl 3 rfl) ?_
    obtain ⟨x2, hx2, h⟩ := mbv_some h
    refine kr_ci hC hW (kr_runS hC hW hl.1 (t_vs_hasBit hx2) cw_X11_320 rfl rfl (Nat.le_of_ble_eq_true rfl) dX11_readersOf_17 (by decide)) (fun H locs hW => ?_)
    refine lv_if_eq (tgt := 35) hx hb dX11_readersOf_20 (by decide) (fun hc3 => ?_) (fun hc3 => ?_)
    · replace h := if_p hc3 h
      refine lv_iinc (v := (xs3 + 1)) (lv' := [(3, .int (xs3 + 1)), (0, .ref (ad g 0)), (1, .int a1), (2, .int xs2)]) hx hb dX11_readersOf_35 hl (k := 3) rfl (by rw [oi_1]) (by decide) rfl (fun ls hl => ?_)
      refine lv_goto (tgt := 4) hx hb dX11_readersOf_38 (by decide) ?_
      exact k1 (xs2, (xs3 + 1)) (Option.some.inj h).symm _ _ _ (lv_sub hl [1, 2, 3, 0] rfl) hW
    · replace h := if_n hc3 h
      refine lv_iload_n hx hb dX11_readersOf_23 rfl (lv_at hl 2 rfl) ?_
      refine lv_aload_n hx hb dX11_readersOf_24 rfl (lv_at hl 0 rfl) ?_
      refine gf_X11_33_x0 hC hW dX11_readersOf_25 ?_
      refine gf_X11_129_x4 hC hW dX11_readersOf_28 ?_
      refine lv_iload_n hx hb dX11_readersOf_31 rfl (lv_at hl 3 rfl) ?_
      obtain ⟨x4, ex4, hin, h⟩ := mrd_ex h
      refine kr_iald hC hW (wx_39 g μ) hin ex4 dX11_readersOf_32 ?_
      refine lv_ior hx hb dX11_readersOf_33 ?_
      refine lv_istore_n (lv' := [(2, .int (xs2 ||| x4)), (0, .ref (ad g 0)), (1, .int a1), (3, .int xs3)]) hx hb dX11_readersOf_34 rfl hl (by decide) rfl (fun ls hl => ?_)
      refine lv_iinc (v := (xs3 + 1)) (lv' := [(3, .int (xs3 + 1)), (2, .int (xs2 ||| x4)), (0, .ref (ad g 0)), (1, .int a1)]) hx hb dX11_readersOf_35 hl (k := 3) rfl (by rw [oi_1]) (by decide) rfl (fun ls hl => ?_)
      refine lv_goto (tgt := 4) hx hb dX11_readersOf_38 (by decide) ?_
      exact k1 ((xs2 ||| x4), (xs3 + 1)) (Option.some.inj h).symm _ _ _ (lv_sub hl [2, 3, 1, 0] rfl) hW
set_option maxHeartbeats 4000000 in
set_option maxRecDepth 100000 in
theorem t_vs_readersOf {l : Launch} {g : Gx} {A : Nat → Prop} {μ : Mm} {a1 : Int32} {v : Int32} (h : vs_readersOf μ a1 = some v) : Cti l g A wx yX11_readersOf cX11_readersOf 4 (some .int) 1 [.ref (ad g 0), .int a1] μ v μ := by
  refine ent (lv := [(0, .ref (ad g 0)), (1, .int a1)]) (by decide) (Nat.le_of_ble_eq_true rfl) rfl ?_
  intro p e s m args below meth c hC hr hlocks hnm hW ls hl
  replace hC : Cx g RX11 cX11_readersOf 4 p s m args c := hC
  obtain ⟨hx, hb, hml, hown, hts, hK, hN⟩ := id hC
  unfold vs_readersOf at h
  refine lv_iconst (v := 0) hx hb dX11_readersOf_0 (by decide) ?_
  refine lv_istore_n (lv' := [(2, .int 0), (0, .ref (ad g 0)), (1, .int a1)]) hx hb dX11_readersOf_1 rfl hl (by decide) rfl (fun ls hl => ?_)
  refine lv_iconst (v := 0) hx hb dX11_readersOf_2 (by decide) ?_
  refine lv_istore_n (lv' := [(3, .int 0), (2, .int 0), (0, .ref (ad g 0)), (1, .int a1)]) hx hb dX11_readersOf_3 rfl hl (by decide) rfl (fun ls hl => ?_)
  obtain ⟨x5, he6, h⟩ := mbv_some h
  refine tl_vs_readersOf_4 μ a1 hC (fun ls H locs hl hW => ?_) FU (0, 0) he6 _ _ _ (lv_sub hl [2, 3, 1, 0] rfl) hW
  refine lv_iload_n hx hb dX11_readersOf_41 rfl (lv_at hl 0 rfl) ?_
  cases h
  exact kr_iret hC hr hlocks hW dX11_readersOf_42
set_option maxHeartbeats 4000000 in
set_option maxRecDepth 100000 in
theorem t_vs_readersToday {l : Launch} {g : Gx} {A : Nat → Prop} {μ : Mm} {a1 : Int32} {v : Int32} (h : vs_readersToday μ a1 = some v) : Cti l g A wx yX11_readersToday cX11_readersToday 2 (some .int) 2 [.ref (ad g 0), .int a1] μ v μ := by
  refine ent (lv := [(0, .ref (ad g 0)), (1, .int a1)]) (by decide) (Nat.le_of_ble_eq_true rfl) rfl ?_
  intro p e s m args below meth c hC hr hlocks hnm hW ls hl
  replace hC : Cx g RX11 cX11_readersToday 2 p s m args c := hC
  obtain ⟨hx, hb, hml, hown, hts, hK, hN⟩ := id hC
  unfold vs_readersToday at h
  refine lv_aload_n hx hb dX11_readersToday_0 rfl (lv_at hl 0 rfl) ?_
  refine lv_aload_n hx hb dX11_readersToday_1 rfl (lv_at hl 0 rfl) ?_
  refine gf_X11_33_x0 hC hW dX11_readersToday_2 ?_
  refine lv_iload_n hx hb dX11_readersToday_5 rfl (lv_at hl 1 rfl) ?_
  refine lv_aload_n hx hb dX11_readersToday_6 rfl (lv_at hl 0 rfl) ?_
  refine gf_X11_96_x0 hC hW dX11_readersToday_7 ?_
  obtain ⟨x1, hx1, h⟩ := mbv_some h
  refine kr_ci hC hW (kr_runV hC hW hl.1 (t_vs_Stops_stopsOn hx1) cw_X11_350 (wx_4 g μ) rfl rfl rfl (Nat.le_of_ble_eq_true rfl) dX11_readersToday_10 (by decide)) (fun H locs hW => ?_)
  obtain ⟨x2, hx2, h⟩ := mbv_some h
  refine kr_ci hC hW (kr_runV hC hW hl.1 (t_vs_readersOf hx2) cw_X11_427 (wx_0 g μ) rfl rfl rfl (Nat.le_of_ble_eq_true rfl) dX11_readersToday_13 (by decide)) (fun H locs hW => ?_)
  cases h
  exact kr_iret hC hr hlocks hW dX11_readersToday_16
set_option maxHeartbeats 4000000 in
set_option maxRecDepth 100000 in
theorem t_vs_Serving_clear {l : Launch} {g : Gx} {A : Nat → Prop} {μ : Mm} {u : Mm} (h : vs_Serving_clear μ = some u) : Ctv l g A wx yX7_clear cX7_clear 1 none 0 [.ref (ad g 9)] μ u := by
  refine ent (lv := [(0, .ref (ad g 9))]) (by decide) (Nat.le_of_ble_eq_true rfl) rfl ?_
  intro p e s m args below meth c hC hr hlocks hnm hW ls hl
  replace hC : Cx g RX7 cX7_clear 1 p s m args c := hC
  obtain ⟨hx, hb, hml, hown, hts, hK, hN⟩ := id hC
  unfold vs_Serving_clear at h
  refine lv_aload_n hx hb dX7_clear_0 rfl (lv_at hl 0 rfl) ?_
  refine lv_iconst (v := 0) hx hb dX7_clear_1 (by decide) ?_
  obtain ⟨μ1, eμ1, h⟩ := mst_some h
  refine pf_X7_33_x9 hC hW eμ1 dX7_clear_2 (fun H locs hW => ?_)
  refine lv_aload_n hx hb dX7_clear_5 rfl (lv_at hl 0 rfl) ?_
  refine lv_iconst (v := 0) hx hb dX7_clear_6 (by decide) ?_
  obtain ⟨μ2, eμ2, h⟩ := mst_some h
  refine pf_X7_37_x9 hC hW eμ2 dX7_clear_7 (fun H locs hW => ?_)
  cases h
  exact kr_vret hC hr hlocks hW dX7_clear_10
set_option maxHeartbeats 4000000 in
set_option maxRecDepth 100000 in
theorem tl_vs_wantersOf_6 (a1 : Int32) (a2 : Int32) (a3 : Int32) (hC : Cx g RX11 cX11_wantersOf 6 p s m args c) {e0 : (Int32 × Mm)} (kx0 : ∀ (ls : Array Slot) (H : Heap) (locs : List Loc), lv_has ls 6 [(4, .int e0.1)] → wP g wx A s.heap e0.2 H locs → W p l e (rmD 5) s m args below meth c H locs 0 0 Q (F0 m 61 ls [])) : ∀ (n : Nat) (q : Int32 × Int32 × Mm), miter (fun q => vs_wantersOf_b6 q.2.2 a1 a2 a3 q.1 q.2.1) n q = some e0 → ∀ (ls : Array Slot) (H : Heap) (locs : List Loc), lv_has ls 6 [(0, .ref (ad g 0)), (1, .int a1), (2, .int a2), (3, .int a3), (4, .int q.1), (5, .int q.2.1)] → wP g wx A s.heap q.2.2 H locs → W p l e (rmD 5) s m args below meth c H locs 0 0 Q (F0 m 6 ls []) := by
  obtain ⟨hx, hb, hml, hown, hts, hK, hN⟩ := id hC
  refine miter_ind (fun q r hf k1 k2 => ?_)
  obtain ⟨xs4, xs5, μ⟩ := q
  intro ls H locs hl hW
  have h : vs_wantersOf_b6 μ a1 a2 a3 xs4 xs5 = some r := hf
  unfold vs_wantersOf_b6 at h
  refine lv_iload hx hb dX11_wantersOf_6 (lv_at hl 5 rfl) ?_
  refine lv_aload_n hx hb dX11_wantersOf_8 rfl (lv_at hl 0 rfl) ?_
  refine gf_X11_26_x0 hC hW dX11_wantersOf_9 ?_
  refine gf_X11_278_x3 hC hW dX11_wantersOf_12 ?_
  refine lv_icmp_ge (tgt := 61) hx hb dX11_wantersOf_15 (by decide) (fun hc1 => ?_) (fun hc1 => ?_)
  · replace h := if_p hc1 h
    obtain rfl := k2 _ (Option.some.inj h).symm
    exact kx0 _ _ _ (lv_sub hl [4] rfl) hW
  · replace h := if_n hc1 h
    refine lv_iload_n hx hb dX11_wantersOf_18 rfl (lv_at hl 2 rfl) ?_
    refine lv_iload hx hb dX11_wantersOf_19 (lv_at hl 5 rfl) ?_
    obtain ⟨x2, hx2, h⟩ := mbv_some h
    refine kr_ci hC hW (kr_runS hC hW hl.1 (t_vs_hasBit hx2) cw_X11_320 rfl rfl (Nat.le_of_ble_eq_true rfl) dX11_wantersOf_21 (by decide)) (fun H locs hW => ?_)
    refine lv_if_eq (tgt := 55) hx hb dX11_wantersOf_24 (by decide) (fun hc3 => ?_) (fun hc3 => ?_)
    · replace h := if_p hc3 h
      refine lv_iinc (v := (xs5 + 1)) (lv' := [(5, .int (xs5 + 1)), (0, .ref (ad g 0)), (1, .int a1), (2, .int a2), (3, .int a3), (4, .int xs4)]) hx hb dX11_wantersOf_55 hl (k := 5) rfl (by rw [oi_1]) (by decide) rfl (fun ls hl => ?_)
      refine lv_goto (tgt := 6) hx hb dX11_wantersOf_58 (by decide) ?_
      exact k1 (xs4, (xs5 + 1), μ) (Option.some.inj h).symm _ _ _ (lv_sub hl [1, 2, 3, 4, 5, 0] rfl) hW
    · replace h := if_n hc3 h
      refine lv_aload_n hx hb dX11_wantersOf_27 rfl (lv_at hl 0 rfl) ?_
      refine gf_X11_56_x0 hC hW dX11_wantersOf_28 ?_
      refine lv_iload hx hb dX11_wantersOf_31 (lv_at hl 5 rfl) ?_
      refine lv_iload_n hx hb dX11_wantersOf_33 rfl (lv_at hl 1 rfl) ?_
      refine lv_iconst (v := 0) hx hb dX11_wantersOf_34 (by decide) ?_
      refine lv_aload_n hx hb dX11_wantersOf_35 rfl (lv_at hl 0 rfl) ?_
      refine gf_X11_96_x0 hC hW dX11_wantersOf_36 ?_
      obtain ⟨x4, μ5, hx4, h⟩ := mbm_some h
      refine kr_ci hC hW (kr_runV hC hW hl.1 (t_vs_Wishes_wish hx4) cw_X11_175 (wx_7 g μ) rfl rfl rfl (Nat.le_of_ble_eq_true rfl) dX11_wantersOf_39 (by decide)) (fun H locs hW => ?_)
      refine lv_iload_n hx hb dX11_wantersOf_42 rfl (lv_at hl 3 rfl) ?_
      refine lv_icmp_lt (tgt := 55) hx hb dX11_wantersOf_43 (by decide) (fun hc6 => ?_) (fun hc6 => ?_)
      · replace h := if_p hc6 h
        refine lv_iinc (v := (xs5 + 1)) (lv' := [(5, .int (xs5 + 1)), (0, .ref (ad g 0)), (1, .int a1), (2, .int a2), (3, .int a3), (4, .int xs4)]) hx hb dX11_wantersOf_55 hl (k := 5) rfl (by rw [oi_1]) (by decide) rfl (fun ls hl => ?_)
        refine lv_goto (tgt := 6) hx hb dX11_wantersOf_58 (by decide) ?_
        exact k1 (xs4, (xs5 + 1), μ5) (Option.some.inj h).symm _ _ _ (lv_sub hl [1, 2, 3, 4, 5, 0] rfl) hW
      · replace h := if_n hc6 h
        refine lv_iload hx hb dX11_wantersOf_46 (lv_at hl 4 rfl) ?_
        refine lv_iconst (v := 1) hx hb dX11_wantersOf_48 (by decide) ?_
        refine lv_iload hx hb dX11_wantersOf_49 (lv_at hl 5 rfl) ?_
        refine lv_ishl hx hb dX11_wantersOf_51 ?_
        refine lv_ior hx hb dX11_wantersOf_52 ?_
        refine lv_istore (lv' := [(4, .int (xs4 ||| ((1 : Int32) <<< (xs5 &&& 31)))), (0, .ref (ad g 0)), (1, .int a1), (2, .int a2), (3, .int a3), (5, .int xs5)]) hx hb dX11_wantersOf_53 hl (by decide) rfl (fun ls hl => ?_)
        refine lv_iinc (v := (xs5 + 1)) (lv' := [(5, .int (xs5 + 1)), (4, .int (xs4 ||| ((1 : Int32) <<< (xs5 &&& 31)))), (0, .ref (ad g 0)), (1, .int a1), (2, .int a2), (3, .int a3)]) hx hb dX11_wantersOf_55 hl (k := 5) rfl (by rw [oi_1]) (by decide) rfl (fun ls hl => ?_)
        refine lv_goto (tgt := 6) hx hb dX11_wantersOf_58 (by decide) ?_
        exact k1 ((xs4 ||| ((1 : Int32) <<< (xs5 &&& 31))), (xs5 + 1), μ5) (Option.some.inj h).symm _ _ _ (lv_sub hl [2, 3, 4, 5, 1, 0] rfl) hW
set_option maxHeartbeats 4000000 in
set_option maxRecDepth 100000 in
theorem t_vs_wantersOf {l : Launch} {g : Gx} {A : Nat → Prop} {μ : Mm} {a1 : Int32} {a2 : Int32} {a3 : Int32} {v : Int32} {u : Mm} (h : vs_wantersOf μ a1 a2 a3 = some (v, u)) : Cti l g A wx yX11_wantersOf cX11_wantersOf 6 (some .int) 5 [.ref (ad g 0), .int a1, .int a2, .int a3] μ v u := by
  refine ent (lv := [(0, .ref (ad g 0)), (1, .int a1), (2, .int a2), (3, .int a3)]) (by decide) (Nat.le_of_ble_eq_true rfl) rfl ?_
  intro p e s m args below meth c hC hr hlocks hnm hW ls hl
  replace hC : Cx g RX11 cX11_wantersOf 6 p s m args c := hC
  obtain ⟨hx, hb, hml, hown, hts, hK, hN⟩ := id hC
  unfold vs_wantersOf at h
  refine lv_iconst (v := 0) hx hb dX11_wantersOf_0 (by decide) ?_
  refine lv_istore (lv' := [(4, .int 0), (0, .ref (ad g 0)), (1, .int a1), (2, .int a2), (3, .int a3)]) hx hb dX11_wantersOf_1 hl (by decide) rfl (fun ls hl => ?_)
  refine lv_iconst (v := 0) hx hb dX11_wantersOf_3 (by decide) ?_
  refine lv_istore (lv' := [(5, .int 0), (4, .int 0), (0, .ref (ad g 0)), (1, .int a1), (2, .int a2), (3, .int a3)]) hx hb dX11_wantersOf_4 hl (by decide) rfl (fun ls hl => ?_)
  obtain ⟨e0, he9, h⟩ := mbv_some h
  obtain ⟨x7, μ8, ee, h9⟩ := un2_ex h
  clear h
  subst ee
  have h := h9
  clear h9
  refine tl_vs_wantersOf_6 a1 a2 a3 hC (fun ls H locs hl hW => ?_) FU (0, 0, μ) he9 _ _ _ (lv_sub hl [2, 3, 4, 5, 1, 0] rfl) hW
  refine lv_iload hx hb dX11_wantersOf_61 (lv_at hl 0 rfl) ?_
  cases h
  exact kr_iret hC hr hlocks hW dX11_wantersOf_63
set_option maxHeartbeats 4000000 in
set_option maxRecDepth 100000 in
theorem t_vs_Serving_offer {l : Launch} {g : Gx} {A : Nat → Prop} {μ : Mm} {a1 : Int32} {a2 : Int32} {a3 : Int32} {u : Mm} (h : vs_Serving_offer μ a1 a2 a3 = some u) : Ctv l g A wx yX7_offer cX7_offer 5 none 0 [.ref (ad g 9), .int a1, .int a2, .int a3, .ref (ad g 2)] μ u := by
  refine ent (lv := [(0, .ref (ad g 9)), (1, .int a1), (2, .int a2), (3, .int a3), (4, .ref (ad g 2))]) (by decide) (Nat.le_of_ble_eq_true rfl) rfl ?_
  intro p e s m args below meth c hC hr hlocks hnm hW ls hl
  replace hC : Cx g RX7 cX7_offer 5 p s m args c := hC
  obtain ⟨hx, hb, hml, hown, hts, hK, hN⟩ := id hC
  unfold vs_Serving_offer at h
  refine lv_aload_n hx hb dX7_offer_0 rfl (lv_at hl 0 rfl) ?_
  refine gf_X7_33_x9 hC hW dX7_offer_1 ?_
  refine lv_bipush (v := 12) hx hb dX7_offer_4 (by decide) ?_
  refine lv_icmp_lt (tgt := 10) hx hb dX7_offer_6 (by decide) (fun hc1 => ?_) (fun hc1 => ?_)
  · replace h := if_p hc1 h
    refine lv_aload_n hx hb dX7_offer_10 rfl (lv_at hl 0 rfl) ?_
    refine gf_X7_9_x9 hC hW dX7_offer_11 ?_
    refine lv_aload_n hx hb dX7_offer_14 rfl (lv_at hl 0 rfl) ?_
    refine gf_X7_33_x9 hC hW dX7_offer_15 ?_
    refine lv_iload_n hx hb dX7_offer_18 rfl (lv_at hl 1 rfl) ?_
    obtain ⟨μ2, eμ2, hin, h⟩ := mwr_ex h
    refine kr_iast hC hW (wx_56 g μ) (wxs_56 eμ2) hin dX7_offer_19 (fun H locs hW => ?_)
    refine lv_aload_n hx hb dX7_offer_20 rfl (lv_at hl 0 rfl) ?_
    refine gf_X7_15_x9 hC hW dX7_offer_21 ?_
    refine lv_aload_n hx hb dX7_offer_24 rfl (lv_at hl 0 rfl) ?_
    refine gf_X7_33_x9 hC hW dX7_offer_25 ?_
    refine lv_iload_n hx hb dX7_offer_28 rfl (lv_at hl 2 rfl) ?_
    obtain ⟨μ3, eμ3, hin, h⟩ := mwr_ex h
    refine kr_iast hC hW (wx_57 g μ2) (wxs_57 eμ3) hin dX7_offer_29 (fun H locs hW => ?_)
    refine lv_aload_n hx hb dX7_offer_30 rfl (lv_at hl 0 rfl) ?_
    refine gf_X7_18_x9 hC hW dX7_offer_31 ?_
    refine lv_aload_n hx hb dX7_offer_34 rfl (lv_at hl 0 rfl) ?_
    refine gf_X7_33_x9 hC hW dX7_offer_35 ?_
    refine lv_aload hx hb dX7_offer_38 (lv_at hl 4 rfl) ?_
    refine gf_X7_40_x2 hC hW dX7_offer_40 ?_
    refine lv_iload_n hx hb dX7_offer_43 rfl (lv_at hl 1 rfl) ?_
    obtain ⟨x4, ex4, hin, h⟩ := mrd_ex h
    refine kr_iald hC hW (wx_16 g μ3) hin ex4 dX7_offer_44 ?_
    obtain ⟨μ5, eμ5, hin, h⟩ := mwr_ex h
    refine kr_iast hC hW (wx_58 g μ3) (wxs_58 eμ5) hin dX7_offer_45 (fun H locs hW => ?_)
    refine lv_aload_n hx hb dX7_offer_46 rfl (lv_at hl 0 rfl) ?_
    refine gf_X7_21_x9 hC hW dX7_offer_47 ?_
    refine lv_aload_n hx hb dX7_offer_50 rfl (lv_at hl 0 rfl) ?_
    refine gf_X7_33_x9 hC hW dX7_offer_51 ?_
    refine lv_aload hx hb dX7_offer_54 (lv_at hl 4 rfl) ?_
    refine gf_X7_43_x2 hC hW dX7_offer_56 ?_
    refine lv_iload_n hx hb dX7_offer_59 rfl (lv_at hl 1 rfl) ?_
    obtain ⟨x6, ex6, hin, h⟩ := mrd_ex h
    refine kr_iald hC hW (wx_15 g μ5) hin ex6 dX7_offer_60 ?_
    obtain ⟨μ7, eμ7, hin, h⟩ := mwr_ex h
    refine kr_iast hC hW (wx_59 g μ5) (wxs_59 eμ7) hin dX7_offer_61 (fun H locs hW => ?_)
    refine lv_iload_n hx hb dX7_offer_62 rfl (lv_at hl 3 rfl) ?_
    refine lv_if_eq (tgt := 81) hx hb dX7_offer_63 (by decide) (fun hc8 => ?_) (fun hc8 => ?_)
    · replace h := if_p hc8 h
      refine lv_aload_n hx hb dX7_offer_81 rfl (lv_at hl 0 rfl) ?_
      refine lv_dup hx hb dX7_offer_82 rfl ?_
      refine gf_X7_33_x9 hC hW dX7_offer_83 ?_
      refine lv_iconst (v := 1) hx hb dX7_offer_86 (by decide) ?_
      refine lv_iadd hx hb dX7_offer_87 ?_
      obtain ⟨μ9, eμ9, h⟩ := mst_some h
      refine pf_X7_33_x9 hC hW eμ9 dX7_offer_88 (fun H locs hW => ?_)
      cases h
      exact kr_vret hC hr hlocks hW dX7_offer_91
    · replace h := if_n hc8 h
      refine lv_aload_n hx hb dX7_offer_66 rfl (lv_at hl 0 rfl) ?_
      refine lv_dup hx hb dX7_offer_67 rfl ?_
      refine gf_X7_37_x9 hC hW dX7_offer_68 ?_
      refine lv_iconst (v := 1) hx hb dX7_offer_71 (by decide) ?_
      refine lv_aload_n hx hb dX7_offer_72 rfl (lv_at hl 0 rfl) ?_
      refine gf_X7_33_x9 hC hW dX7_offer_73 ?_
      refine lv_ishl hx hb dX7_offer_76 ?_
      refine lv_ior hx hb dX7_offer_77 ?_
      obtain ⟨μ10, eμ10, h⟩ := mst_some h
      refine pf_X7_37_x9 hC hW eμ10 dX7_offer_78 (fun H locs hW => ?_)
      refine lv_aload_n hx hb dX7_offer_81 rfl (lv_at hl 0 rfl) ?_
      refine lv_dup hx hb dX7_offer_82 rfl ?_
      refine gf_X7_33_x9 hC hW dX7_offer_83 ?_
      refine lv_iconst (v := 1) hx hb dX7_offer_86 (by decide) ?_
      refine lv_iadd hx hb dX7_offer_87 ?_
      obtain ⟨μ11, eμ11, h⟩ := mst_some h
      refine pf_X7_33_x9 hC hW eμ11 dX7_offer_88 (fun H locs hW => ?_)
      cases h
      exact kr_vret hC hr hlocks hW dX7_offer_91
  · replace h := if_n hc1 h
    cases h
    exact kr_vret hC hr hlocks hW dX7_offer_9
set_option maxHeartbeats 4000000 in
set_option maxRecDepth 100000 in
theorem tj_vs_gatherLoad_101 {μ : Mm} (a1 : Int32) (a2 : Int32) (a3 : Int32) (a4 : Int32) (a5 : Int32) (a6 : Int32) (y0 : Int32) (hC : Cx g RX11 cX11_gatherLoad 9 p s m args c) {e0 : (Mm)} {r : (Int32 × Mm) ⊕ (Mm)} (k1 : ∀ q, r = .inl q → ∀ (ls : Array Slot) (H : Heap) (locs : List Loc), lv_has ls 9 [(0, .ref (ad g 0)), (1, .int a1), (2, .int a2), (3, .int a3), (4, .int a4), (5, .int q.1)] → wP g wx A s.heap q.2 H locs → W p l e (rmD 6) s m args below meth c H locs 0 0 Q (F0 m 27 ls [])) (k2 : ∀ e', r = .inr e' → e' = e0) (kx0 : ∀ (ls : Array Slot) (H : Heap) (locs : List Loc), lv_has ls 9 [] → wP g wx A s.heap e0 H locs → W p l e (rmD 6) s m args below meth c H locs 0 0 Q (F0 m 150 ls []))  (hl : lv_has ls 9 [(0, .ref (ad g 0)), (1, .int a1), (2, .int a2), (3, .int a3), (4, .int a4), (5, .int a5), (6, .int a6)]) (hW : wP g wx A s.heap μ H locs) (h : vs_gatherLoad_j101 μ a1 a2 a3 a4 a5 a6 y0 = some r) : W p l e (rmD 6) s m args below meth c H locs 0 0 Q (F0 m 101 ls [.int y0]) := by
  obtain ⟨hx, hb, hml, hown, hts, hK, hN⟩ := id hC
  unfold vs_gatherLoad_j101 at h
  refine lv_istore (lv' := [(7, .int y0), (0, .ref (ad g 0)), (1, .int a1), (2, .int a2), (3, .int a3), (4, .int a4), (5, .int a5), (6, .int a6)]) hx hb dX11_gatherLoad_101 hl (by decide) rfl (fun ls hl => ?_)
  refine lv_iload hx hb dX11_gatherLoad_103 (lv_at hl 5 rfl) ?_
  refine lv_iload hx hb dX11_gatherLoad_105 (lv_at hl 6 rfl) ?_
  obtain ⟨x10, hx10, h⟩ := mbv_some h
  refine kr_ci hC hW (kr_runS hC hW hl.1 (t_vs_hasBit hx10) cw_X11_320 rfl rfl (Nat.le_of_ble_eq_true rfl) dX11_gatherLoad_107 (by decide)) (fun H locs hW => ?_)
  refine lv_istore (lv' := [(8, .int (bI x10)), (7, .int y0), (0, .ref (ad g 0)), (1, .int a1), (2, .int a2), (3, .int a3), (4, .int a4), (5, .int a5), (6, .int a6)]) hx hb dX11_gatherLoad_110 hl (by decide) rfl (fun ls hl => ?_)
  refine lv_iload hx hb dX11_gatherLoad_112 (lv_at hl 8 rfl) ?_
  refine lv_if_eq (tgt := 144) hx hb dX11_gatherLoad_114 (by decide) (fun hc11 => ?_) (fun hc11 => ?_)
  · replace h := if_p hc11 h
    refine lv_iinc (v := (a5 + 1)) (lv' := [(5, .int (a5 + 1)), (8, .int (bI x10)), (7, .int y0), (0, .ref (ad g 0)), (1, .int a1), (2, .int a2), (3, .int a3), (4, .int a4), (6, .int a6)]) hx hb dX11_gatherLoad_144 hl (k := 7) rfl (by rw [oi_1]) (by decide) rfl (fun ls hl => ?_)
    refine lv_goto (tgt := 27) hx hb dX11_gatherLoad_147 (by decide) ?_
    exact k1 ((a5 + 1), μ) (Option.some.inj h).symm _ _ _ (lv_sub hl [3, 4, 5, 6, 7, 0] rfl) hW
  · replace h := if_n hc11 h
    refine lv_iload hx hb dX11_gatherLoad_117 (lv_at hl 0 rfl) ?_
    refine lv_if_ne (tgt := 127) hx hb dX11_gatherLoad_119 (by decide) (fun hc12 => ?_) (fun hc12 => ?_)
    · replace h := if_n hc12 h
      refine lv_aload_n hx hb dX11_gatherLoad_127 rfl (lv_at hl 2 rfl) ?_
      refine gf_X11_72_x0 hC hW dX11_gatherLoad_128 ?_
      refine lv_iload hx hb dX11_gatherLoad_131 (lv_at hl 7 rfl) ?_
      refine lv_iload hx hb dX11_gatherLoad_133 (lv_at hl 1 rfl) ?_
      refine lv_iload hx hb dX11_gatherLoad_135 (lv_at hl 0 rfl) ?_
      refine lv_aload_n hx hb dX11_gatherLoad_137 rfl (lv_at hl 2 rfl) ?_
      refine gf_X11_19_x0 hC hW dX11_gatherLoad_138 ?_
      obtain ⟨μ14, hxμ14, h⟩ := mbv_some h
      refine kr_cv hC hW (kr_runV hC hW hl.1 (t_vs_Serving_offer hxμ14) cw_X11_435 (wx_9 g μ) rfl rfl rfl (Nat.le_of_ble_eq_true rfl) dX11_gatherLoad_141 (by decide)) (fun H locs hW => ?_)
      refine lv_iinc (v := (a5 + 1)) (lv' := [(5, .int (a5 + 1)), (8, .int (bI x10)), (7, .int y0), (0, .ref (ad g 0)), (1, .int a1), (2, .int a2), (3, .int a3), (4, .int a4), (6, .int a6)]) hx hb dX11_gatherLoad_144 hl (k := 7) rfl (by rw [oi_1]) (by decide) rfl (fun ls hl => ?_)
      refine lv_goto (tgt := 27) hx hb dX11_gatherLoad_147 (by decide) ?_
      exact k1 ((a5 + 1), μ14) (Option.some.inj h).symm _ _ _ (lv_sub hl [3, 4, 5, 6, 7, 0] rfl) hW
    · replace h := if_p hc12 h
      refine lv_iload hx hb dX11_gatherLoad_122 (lv_at hl 1 rfl) ?_
      refine lv_if_eq (tgt := 144) hx hb dX11_gatherLoad_124 (by decide) (fun hc15 => ?_) (fun hc15 => ?_)
      · replace h := if_p hc15 h
        refine lv_iinc (v := (a5 + 1)) (lv' := [(5, .int (a5 + 1)), (8, .int (bI x10)), (7, .int y0), (0, .ref (ad g 0)), (1, .int a1), (2, .int a2), (3, .int a3), (4, .int a4), (6, .int a6)]) hx hb dX11_gatherLoad_144 hl (k := 7) rfl (by rw [oi_1]) (by decide) rfl (fun ls hl => ?_)
        refine lv_goto (tgt := 27) hx hb dX11_gatherLoad_147 (by decide) ?_
        exact k1 ((a5 + 1), μ) (Option.some.inj h).symm _ _ _ (lv_sub hl [3, 4, 5, 6, 7, 0] rfl) hW
      · replace h := if_n hc15 h
        refine lv_aload_n hx hb dX11_gatherLoad_127 rfl (lv_at hl 2 rfl) ?_
        refine gf_X11_72_x0 hC hW dX11_gatherLoad_128 ?_
        refine lv_iload hx hb dX11_gatherLoad_131 (lv_at hl 7 rfl) ?_
        refine lv_iload hx hb dX11_gatherLoad_133 (lv_at hl 1 rfl) ?_
        refine lv_iload hx hb dX11_gatherLoad_135 (lv_at hl 0 rfl) ?_
        refine lv_aload_n hx hb dX11_gatherLoad_137 rfl (lv_at hl 2 rfl) ?_
        refine gf_X11_19_x0 hC hW dX11_gatherLoad_138 ?_
        obtain ⟨μ17, hxμ17, h⟩ := mbv_some h
        refine kr_cv hC hW (kr_runV hC hW hl.1 (t_vs_Serving_offer hxμ17) cw_X11_435 (wx_9 g μ) rfl rfl rfl (Nat.le_of_ble_eq_true rfl) dX11_gatherLoad_141 (by decide)) (fun H locs hW => ?_)
        refine lv_iinc (v := (a5 + 1)) (lv' := [(5, .int (a5 + 1)), (8, .int (bI x10)), (7, .int y0), (0, .ref (ad g 0)), (1, .int a1), (2, .int a2), (3, .int a3), (4, .int a4), (6, .int a6)]) hx hb dX11_gatherLoad_144 hl (k := 7) rfl (by rw [oi_1]) (by decide) rfl (fun ls hl => ?_)
        refine lv_goto (tgt := 27) hx hb dX11_gatherLoad_147 (by decide) ?_
        exact k1 ((a5 + 1), μ17) (Option.some.inj h).symm _ _ _ (lv_sub hl [3, 4, 5, 6, 7, 0] rfl) hW
set_option maxHeartbeats 4000000 in
set_option maxRecDepth 100000 in
theorem tj_vs_gatherLoad_82 {μ : Mm} (a1 : Int32) (a2 : Int32) (a3 : Int32) (a4 : Int32) (a5 : Int32) (y0 : Int32) (hC : Cx g RX11 cX11_gatherLoad 9 p s m args c) {e0 : (Mm)} {r : (Int32 × Mm) ⊕ (Mm)} (k1 : ∀ q, r = .inl q → ∀ (ls : Array Slot) (H : Heap) (locs : List Loc), lv_has ls 9 [(0, .ref (ad g 0)), (1, .int a1), (2, .int a2), (3, .int a3), (4, .int a4), (5, .int q.1)] → wP g wx A s.heap q.2 H locs → W p l e (rmD 6) s m args below meth c H locs 0 0 Q (F0 m 27 ls [])) (k2 : ∀ e', r = .inr e' → e' = e0) (kx0 : ∀ (ls : Array Slot) (H : Heap) (locs : List Loc), lv_has ls 9 [] → wP g wx A s.heap e0 H locs → W p l e (rmD 6) s m args below meth c H locs 0 0 Q (F0 m 150 ls []))  (hl : lv_has ls 9 [(0, .ref (ad g 0)), (1, .int a1), (2, .int a2), (3, .int a3), (4, .int a4), (5, .int a5)]) (hW : wP g wx A s.heap μ H locs) (h : vs_gatherLoad_j82 μ a1 a2 a3 a4 a5 y0 = some r) : W p l e (rmD 6) s m args below meth c H locs 0 0 Q (F0 m 82 ls [.int y0]) := by
  obtain ⟨hx, hb, hml, hown, hts, hK, hN⟩ := id hC
  unfold vs_gatherLoad_j82 at h
  refine lv_istore (lv' := [(6, .int y0), (0, .ref (ad g 0)), (1, .int a1), (2, .int a2), (3, .int a3), (4, .int a4), (5, .int a5)]) hx hb dX11_gatherLoad_82 hl (by decide) rfl (fun ls hl => ?_)
  refine lv_iload hx hb dX11_gatherLoad_84 (lv_at hl 0 rfl) ?_
  refine lv_if_eq (tgt := 100) hx hb dX11_gatherLoad_86 (by decide) (fun hc9 => ?_) (fun hc9 => ?_)
  · replace h := if_p hc9 h
    refine lv_iconst (v := 0) hx hb dX11_gatherLoad_100 (by decide) ?_
    exact tj_vs_gatherLoad_101 a1 a2 a3 a4 a5 y0 0 hC k1 k2 kx0 (lv_sub hl [1, 2, 3, 4, 5, 6, 0] rfl) hW h
  · replace h := if_n hc9 h
    refine lv_aload_n hx hb dX11_gatherLoad_89 rfl (lv_at hl 1 rfl) ?_
    refine lv_iload hx hb dX11_gatherLoad_90 (lv_at hl 6 rfl) ?_
    refine lv_iload_n hx hb dX11_gatherLoad_92 rfl (lv_at hl 4 rfl) ?_
    refine lv_iload_n hx hb dX11_gatherLoad_93 rfl (lv_at hl 3 rfl) ?_
    obtain ⟨x18, μ19, hx18, h⟩ := mbm_some h
    refine kr_ci hC hW (kr_runV hC hW hl.1 (t_vs_wantersOf hx18) cw_X11_336 (wx_0 g μ) rfl rfl rfl (Nat.le_of_ble_eq_true rfl) dX11_gatherLoad_94 (by decide)) (fun H locs hW => ?_)
    refine lv_goto (tgt := 101) hx hb dX11_gatherLoad_97 (by decide) ?_
    exact tj_vs_gatherLoad_101 a1 a2 a3 a4 a5 y0 x18 hC k1 k2 kx0 (lv_sub hl [1, 2, 3, 4, 5, 6, 0] rfl) hW h
set_option maxHeartbeats 4000000 in
set_option maxRecDepth 100000 in
theorem tj_vs_gatherLoad_77 {μ : Mm} (a1 : Int32) (a2 : Int32) (a3 : Int32) (a4 : Int32) (a5 : Int32) (hC : Cx g RX11 cX11_gatherLoad 9 p s m args c) {e0 : (Mm)} {r : (Int32 × Mm) ⊕ (Mm)} (k1 : ∀ q, r = .inl q → ∀ (ls : Array Slot) (H : Heap) (locs : List Loc), lv_has ls 9 [(0, .ref (ad g 0)), (1, .int a1), (2, .int a2), (3, .int a3), (4, .int a4), (5, .int q.1)] → wP g wx A s.heap q.2 H locs → W p l e (rmD 6) s m args below meth c H locs 0 0 Q (F0 m 27 ls [])) (k2 : ∀ e', r = .inr e' → e' = e0) (kx0 : ∀ (ls : Array Slot) (H : Heap) (locs : List Loc), lv_has ls 9 [] → wP g wx A s.heap e0 H locs → W p l e (rmD 6) s m args below meth c H locs 0 0 Q (F0 m 150 ls []))  (hl : lv_has ls 9 [(0, .ref (ad g 0)), (1, .int a1), (2, .int a2), (3, .int a3), (4, .int a4), (5, .int a5)]) (hW : wP g wx A s.heap μ H locs) (h : vs_gatherLoad_j77 μ a1 a2 a3 a4 a5 = some r) : W p l e (rmD 6) s m args below meth c H locs 0 0 Q (F0 m 77 ls []) := by
  obtain ⟨hx, hb, hml, hown, hts, hK, hN⟩ := id hC
  unfold vs_gatherLoad_j77 at h
  refine lv_iconst (v := 1) hx hb dX11_gatherLoad_77 (by decide) ?_
  refine lv_goto (tgt := 82) hx hb dX11_gatherLoad_78 (by decide) ?_
  exact tj_vs_gatherLoad_82 a1 a2 a3 a4 a5 1 hC k1 k2 kx0 (lv_sub hl [0, 1, 2, 3, 4, 5] rfl) hW h
set_option maxHeartbeats 4000000 in
set_option maxRecDepth 100000 in
theorem tl_vs_gatherLoad_27 (a1 : Int32) (a2 : Int32) (a3 : Int32) (a4 : Int32) (hC : Cx g RX11 cX11_gatherLoad 9 p s m args c) {e0 : (Mm)} (kx0 : ∀ (ls : Array Slot) (H : Heap) (locs : List Loc), lv_has ls 9 [] → wP g wx A s.heap e0 H locs → W p l e (rmD 6) s m args below meth c H locs 0 0 Q (F0 m 150 ls [])) : ∀ (n : Nat) (q : Int32 × Mm), miter (fun q => vs_gatherLoad_b27 q.2 a1 a2 a3 a4 q.1) n q = some e0 → ∀ (ls : Array Slot) (H : Heap) (locs : List Loc), lv_has ls 9 [(0, .ref (ad g 0)), (1, .int a1), (2, .int a2), (3, .int a3), (4, .int a4), (5, .int q.1)] → wP g wx A s.heap q.2 H locs → W p l e (rmD 6) s m args below meth c H locs 0 0 Q (F0 m 27 ls []) := by
  obtain ⟨hx, hb, hml, hown, hts, hK, hN⟩ := id hC
  refine miter_ind (fun q r hf k1 k2 => ?_)
  obtain ⟨xs5, μ⟩ := q
  intro ls H locs hl hW
  have h : vs_gatherLoad_b27 μ a1 a2 a3 a4 xs5 = some r := hf
  unfold vs_gatherLoad_b27 at h
  refine lv_iload hx hb dX11_gatherLoad_27 (lv_at hl 5 rfl) ?_
  refine lv_aload_n hx hb dX11_gatherLoad_29 rfl (lv_at hl 0 rfl) ?_
  refine gf_X11_19_x0 hC hW dX11_gatherLoad_30 ?_
  refine gf_X11_335_x2 hC hW dX11_gatherLoad_33 ?_
  refine lv_icmp_ge (tgt := 150) hx hb dX11_gatherLoad_36 (by decide) (fun hc5 => ?_) (fun hc5 => ?_)
  · replace h := if_p hc5 h
    obtain rfl := k2 _ (Option.some.inj h).symm
    exact kx0 _ _ _ (lv_sub hl [] rfl) hW
  · replace h := if_n hc5 h
    refine lv_aload_n hx hb dX11_gatherLoad_39 rfl (lv_at hl 0 rfl) ?_
    refine gf_X11_72_x0 hC hW dX11_gatherLoad_40 ?_
    refine gf_X11_434_x9 hC hW dX11_gatherLoad_43 ?_
    refine lv_bipush (v := 12) hx hb dX11_gatherLoad_46 (by decide) ?_
    refine lv_icmp_ge (tgt := 150) hx hb dX11_gatherLoad_48 (by decide) (fun hc6 => ?_) (fun hc6 => ?_)
    · replace h := if_p hc6 h
      obtain rfl := k2 _ (Option.some.inj h).symm
      exact kx0 _ _ _ (lv_sub hl [] rfl) hW
    · replace h := if_n hc6 h
      refine lv_aload_n hx hb dX11_gatherLoad_51 rfl (lv_at hl 0 rfl) ?_
      refine gf_X11_19_x0 hC hW dX11_gatherLoad_52 ?_
      refine gf_X11_190_x2 hC hW dX11_gatherLoad_55 ?_
      refine lv_iload hx hb dX11_gatherLoad_58 (lv_at hl 5 rfl) ?_
      obtain ⟨x7, ex7, hin, h⟩ := mrd_ex h
      refine kr_iald hC hW (wx_19 g μ) hin ex7 dX11_gatherLoad_60 ?_
      refine lv_if_eq (tgt := 77) hx hb dX11_gatherLoad_61 (by decide) (fun hc8 => ?_) (fun hc8 => ?_)
      · replace h := if_p hc8 h
        exact tj_vs_gatherLoad_77 a1 a2 a3 a4 xs5 hC k1 k2 kx0 (lv_sub hl [0, 1, 2, 3, 4, 5] rfl) hW h
      · replace h := if_n hc8 h
        refine lv_aload_n hx hb dX11_gatherLoad_64 rfl (lv_at hl 0 rfl) ?_
        refine gf_X11_19_x0 hC hW dX11_gatherLoad_65 ?_
        refine lv_iload hx hb dX11_gatherLoad_68 (lv_at hl 5 rfl) ?_
        obtain ⟨x20, hx20, h⟩ := mbv_some h
        refine kr_ci hC hW (kr_runV hC hW hl.1 (t_vs_Books_vanOf hx20) cw_X11_199 (wx_2 g μ) rfl rfl rfl (Nat.le_of_ble_eq_true rfl) dX11_gatherLoad_70 (by decide)) (fun H locs hW => ?_)
        refine lv_iload_n hx hb dX11_gatherLoad_73 rfl (lv_at hl 1 rfl) ?_
        refine lv_icmp_ne (tgt := 81) hx hb dX11_gatherLoad_74 (by decide) (fun hc21 => ?_) (fun hc21 => ?_)
        · replace h := if_n hc21 h
          refine lv_iconst (v := 0) hx hb dX11_gatherLoad_81 (by decide) ?_
          exact tj_vs_gatherLoad_82 a1 a2 a3 a4 xs5 0 hC k1 k2 kx0 (lv_sub hl [0, 1, 2, 3, 4, 5] rfl) hW h
        · replace h := if_p hc21 h
          exact tj_vs_gatherLoad_77 a1 a2 a3 a4 xs5 hC k1 k2 kx0 (lv_sub hl [0, 1, 2, 3, 4, 5] rfl) hW h
set_option maxHeartbeats 4000000 in
set_option maxRecDepth 100000 in
theorem t_vs_gatherLoad {l : Launch} {g : Gx} {A : Nat → Prop} {μ : Mm} {a1 : Int32} {a2 : Int32} {u : Mm} (h : vs_gatherLoad μ a1 a2 = some u) : Ctv l g A wx yX11_gatherLoad cX11_gatherLoad 9 none 6 [.ref (ad g 0), .int a1, .int a2] μ u := by
  refine ent (lv := [(0, .ref (ad g 0)), (1, .int a1), (2, .int a2)]) (by decide) (Nat.le_of_ble_eq_true rfl) rfl ?_
  intro p e s m args below meth c hC hr hlocks hnm hW ls hl
  replace hC : Cx g RX11 cX11_gatherLoad 9 p s m args c := hC
  obtain ⟨hx, hb, hml, hown, hts, hK, hN⟩ := id hC
  unfold vs_gatherLoad at h
  refine lv_aload_n hx hb dX11_gatherLoad_0 rfl (lv_at hl 0 rfl) ?_
  refine lv_iload_n hx hb dX11_gatherLoad_1 rfl (lv_at hl 1 rfl) ?_
  obtain ⟨x1, hx1, h⟩ := mbv_some h
  refine kr_ci hC hW (kr_runV hC hW hl.1 (t_vs_readersToday hx1) cw_X11_314 (wx_0 g μ) rfl rfl rfl (Nat.le_of_ble_eq_true rfl) dX11_gatherLoad_2 (by decide)) (fun H locs hW => ?_)
  refine lv_istore_n (lv' := [(3, .int x1), (0, .ref (ad g 0)), (1, .int a1), (2, .int a2)]) hx hb dX11_gatherLoad_5 rfl hl (by decide) rfl (fun ls hl => ?_)
  refine lv_aload_n hx hb dX11_gatherLoad_6 rfl (lv_at hl 1 rfl) ?_
  refine lv_aload_n hx hb dX11_gatherLoad_7 rfl (lv_at hl 1 rfl) ?_
  refine gf_X11_96_x0 hC hW dX11_gatherLoad_8 ?_
  refine lv_iload_n hx hb dX11_gatherLoad_11 rfl (lv_at hl 2 rfl) ?_
  obtain ⟨x2, hx2, h⟩ := mbv_some h
  refine kr_ci hC hW (kr_runV hC hW hl.1 (t_vs_boardOf hx2) cw_X11_263 (wx_0 g μ) rfl rfl rfl (Nat.le_of_ble_eq_true rfl) dX11_gatherLoad_12 (by decide)) (fun H locs hW => ?_)
  refine lv_istore (lv' := [(4, .int x2), (3, .int x1), (0, .ref (ad g 0)), (1, .int a1), (2, .int a2)]) hx hb dX11_gatherLoad_15 hl (by decide) rfl (fun ls hl => ?_)
  refine lv_aload_n hx hb dX11_gatherLoad_17 rfl (lv_at hl 2 rfl) ?_
  refine gf_X11_72_x0 hC hW dX11_gatherLoad_18 ?_
  obtain ⟨μ4, hxμ4, h⟩ := mbv_some h
  refine kr_cv hC hW (kr_runV hC hW hl.1 (t_vs_Serving_clear hxμ4) cw_X11_433 (wx_9 g μ) rfl rfl rfl (Nat.le_of_ble_eq_true rfl) dX11_gatherLoad_21 (by decide)) (fun H locs hW => ?_)
  refine lv_iconst (v := 0) hx hb dX11_gatherLoad_24 (by decide) ?_
  refine lv_istore (lv' := [(5, .int 0), (4, .int x2), (3, .int x1), (0, .ref (ad g 0)), (1, .int a1), (2, .int a2)]) hx hb dX11_gatherLoad_25 hl (by decide) rfl (fun ls hl => ?_)
  obtain ⟨μ22, he23, h⟩ := mbv_some h
  refine tl_vs_gatherLoad_27 a1 a2 x1 x2 hC (fun ls H locs hl hW => ?_) FU (0, μ4) he23 _ _ _ (lv_sub hl [3, 4, 5, 2, 1, 0] rfl) hW
  cases h
  exact kr_vret hC hr hlocks hW dX11_gatherLoad_150
set_option maxHeartbeats 4000000 in
set_option maxRecDepth 100000 in
theorem tl_vs_Serving_kindsOffered_4 (μ : Mm) (hC : Cx g RX7 cX7_kindsOffered 3 p s m args c) {e0 : (Int32)} (kx0 : ∀ (ls : Array Slot) (H : Heap) (locs : List Loc), lv_has ls 3 [(1, .int e0)] → wP g wx A s.heap μ H locs → W p l e (rmD 0) s m args below meth c H locs 0 0 Q (F0 m 29 ls [])) : ∀ (n : Nat) (q : Int32 × Int32), miter (fun q => vs_Serving_kindsOffered_b4 μ q.1 q.2) n q = some e0 → ∀ (ls : Array Slot) (H : Heap) (locs : List Loc), lv_has ls 3 [(0, .ref (ad g 9)), (1, .int q.1), (2, .int q.2)] → wP g wx A s.heap μ H locs → W p l e (rmD 0) s m args below meth c H locs 0 0 Q (F0 m 4 ls []) := by
  obtain ⟨hx, hb, hml, hown, hts, hK, hN⟩ := id hC
  refine miter_ind (fun q r hf k1 k2 => ?_)
  obtain ⟨xs1, xs2⟩ := q
  intro ls H locs hl hW
  have h : vs_Serving_kindsOffered_b4 μ xs1 xs2 = some r := hf
  unfold vs_Serving_kindsOffered_b4 at h
  refine lv_iload_n hx hb dX7_kindsOffered_4 rfl (lv_at hl 2 rfl) ?_
  refine lv_aload_n hx hb dX7_kindsOffered_5 rfl (lv_at hl 0 rfl) ?_
  refine gf_X7_33_x9 hC hW dX7_kindsOffered_6 ?_
  refine lv_icmp_ge (tgt := 29) hx hb dX7_kindsOffered_9 (by decide) (fun hc1 => ?_) (fun hc1 => ?_)
  · replace h := if_p hc1 h
    obtain rfl := k2 _ (Option.some.inj h).symm
    exact kx0 _ _ _ (lv_sub hl [1] rfl) hW
  · replace h := if_n hc1 h
    refine lv_iload_n hx hb dX7_kindsOffered_12 rfl (lv_at hl 1 rfl) ?_
    refine lv_iconst (v := 1) hx hb dX7_kindsOffered_13 (by decide) ?_
    refine lv_aload_n hx hb dX7_kindsOffered_14 rfl (lv_at hl 0 rfl) ?_
    refine gf_X7_21_x9 hC hW dX7_kindsOffered_15 ?_
    refine lv_iload_n hx hb dX7_kindsOffered_18 rfl (lv_at hl 2 rfl) ?_
    obtain ⟨x2, ex2, hin, h⟩ := mrd_ex h
    refine kr_iald hC hW (wx_59 g μ) hin ex2 dX7_kindsOffered_19 ?_
    refine lv_ishl hx hb dX7_kindsOffered_20 ?_
    refine lv_ior hx hb dX7_kindsOffered_21 ?_
    refine lv_istore_n (lv' := [(1, .int (xs1 ||| ((1 : Int32) <<< (x2 &&& 31)))), (0, .ref (ad g 9)), (2, .int xs2)]) hx hb dX7_kindsOffered_22 rfl hl (by decide) rfl (fun ls hl => ?_)
    refine lv_iinc (v := (xs2 + 1)) (lv' := [(2, .int (xs2 + 1)), (1, .int (xs1 ||| ((1 : Int32) <<< (x2 &&& 31)))), (0, .ref (ad g 9))]) hx hb dX7_kindsOffered_23 hl (k := 2) rfl (by rw [oi_1]) (by decide) rfl (fun ls hl => ?_)
    refine lv_goto (tgt := 4) hx hb dX7_kindsOffered_26 (by decide) ?_
    exact k1 ((xs1 ||| ((1 : Int32) <<< (x2 &&& 31))), (xs2 + 1)) (Option.some.inj h).symm _ _ _ (lv_sub hl [2, 1, 0] rfl) hW
set_option maxHeartbeats 4000000 in
set_option maxRecDepth 100000 in
theorem t_vs_Serving_kindsOffered {l : Launch} {g : Gx} {A : Nat → Prop} {μ : Mm} {v : Int32} (h : vs_Serving_kindsOffered μ = some v) : Cti l g A wx yX7_kindsOffered cX7_kindsOffered 3 (some .int) 0 [.ref (ad g 9)] μ v μ := by
  refine ent (lv := [(0, .ref (ad g 9))]) (by decide) (Nat.le_of_ble_eq_true rfl) rfl ?_
  intro p e s m args below meth c hC hr hlocks hnm hW ls hl
  replace hC : Cx g RX7 cX7_kindsOffered 3 p s m args c := hC
  obtain ⟨hx, hb, hml, hown, hts, hK, hN⟩ := id hC
  unfold vs_Serving_kindsOffered at h
  refine lv_iconst (v := 0) hx hb dX7_kindsOffered_0 (by decide) ?_
  refine lv_istore_n (lv' := [(1, .int 0), (0, .ref (ad g 9))]) hx hb dX7_kindsOffered_1 rfl hl (by decide) rfl (fun ls hl => ?_)
  refine lv_iconst (v := 0) hx hb dX7_kindsOffered_2 (by decide) ?_
  refine lv_istore_n (lv' := [(2, .int 0), (1, .int 0), (0, .ref (ad g 9))]) hx hb dX7_kindsOffered_3 rfl hl (by decide) rfl (fun ls hl => ?_)
  obtain ⟨x3, he4, h⟩ := mbv_some h
  refine tl_vs_Serving_kindsOffered_4 μ hC (fun ls H locs hl hW => ?_) FU (0, 0) he4 _ _ _ (lv_sub hl [2, 1, 0] rfl) hW
  refine lv_iload_n hx hb dX7_kindsOffered_29 rfl (lv_at hl 0 rfl) ?_
  cases h
  exact kr_iret hC hr hlocks hW dX7_kindsOffered_30
set_option maxHeartbeats 4000000 in
set_option maxRecDepth 100000 in
theorem tl_vs_Serving_weigh_18 (a1 : Int32) (hC : Cx g RX7 cX7_weigh 5 p s m args c) {e0 : (Int32 × Int32 × Mm)} (kx0 : ∀ (ls : Array Slot) (H : Heap) (locs : List Loc), lv_has ls 5 [(0, .ref (ad g 9)), (1, .int a1), (2, .int e0.1), (3, .int e0.2.1)] → wP g wx A s.heap e0.2.2 H locs → W p l e (rmD 1) s m args below meth c H locs 0 0 Q (F0 m 106 ls [])) : ∀ (n : Nat) (q : Int32 × Int32 × Int32 × Mm), miter (fun q => vs_Serving_weigh_b18 q.2.2.2 a1 q.1 q.2.1 q.2.2.1) n q = some e0 → ∀ (ls : Array Slot) (H : Heap) (locs : List Loc), lv_has ls 5 [(0, .ref (ad g 9)), (1, .int a1), (2, .int q.1), (3, .int q.2.1), (4, .int q.2.2.1)] → wP g wx A s.heap q.2.2.2 H locs → W p l e (rmD 1) s m args below meth c H locs 0 0 Q (F0 m 18 ls []) := by
  obtain ⟨hx, hb, hml, hown, hts, hK, hN⟩ := id hC
  refine miter_ind (fun q r hf k1 k2 => ?_)
  obtain ⟨xs2, xs3, xs4, μ⟩ := q
  intro ls H locs hl hW
  have h : vs_Serving_weigh_b18 μ a1 xs2 xs3 xs4 = some r := hf
  unfold vs_Serving_weigh_b18 at h
  refine lv_iload hx hb dX7_weigh_18 (lv_at hl 4 rfl) ?_
  refine lv_aload_n hx hb dX7_weigh_20 rfl (lv_at hl 0 rfl) ?_
  refine gf_X7_33_x9 hC hW dX7_weigh_21 ?_
  refine lv_icmp_ge (tgt := 106) hx hb dX7_weigh_24 (by decide) (fun hc3 => ?_) (fun hc3 => ?_)
  · replace h := if_p hc3 h
    obtain rfl := k2 _ (Option.some.inj h).symm
    exact kx0 _ _ _ (lv_sub hl [0, 1, 2, 3] rfl) hW
  · replace h := if_n hc3 h
    refine lv_iload_n hx hb dX7_weigh_27 rfl (lv_at hl 1 rfl) ?_
    refine lv_iload hx hb dX7_weigh_28 (lv_at hl 4 rfl) ?_
    obtain ⟨x4, hx4, h⟩ := mbv_some h
    refine kr_ci hC hW (kr_runN hC hW hl.1 (t_vs_hasBit hx4) cw_X7_71 rfl rfl (Nat.le_of_ble_eq_true rfl) dX7_weigh_30 (by decide)) (fun H locs hW => ?_)
    refine lv_if_eq (tgt := 100) hx hb dX7_weigh_33 (by decide) (fun hc5 => ?_) (fun hc5 => ?_)
    · replace h := if_p hc5 h
      refine lv_iinc (v := (xs4 + 1)) (lv' := [(4, .int (xs4 + 1)), (0, .ref (ad g 9)), (1, .int a1), (2, .int xs2), (3, .int xs3)]) hx hb dX7_weigh_100 hl (k := 4) rfl (by rw [oi_1]) (by decide) rfl (fun ls hl => ?_)
      refine lv_goto (tgt := 18) hx hb dX7_weigh_103 (by decide) ?_
      exact k1 (xs2, xs3, (xs4 + 1), μ) (Option.some.inj h).symm _ _ _ (lv_sub hl [1, 2, 3, 4, 0] rfl) hW
    · replace h := if_n hc5 h
      refine lv_iload_n hx hb dX7_weigh_36 rfl (lv_at hl 2 rfl) ?_
      refine lv_aload_n hx hb dX7_weigh_37 rfl (lv_at hl 0 rfl) ?_
      refine gf_X7_15_x9 hC hW dX7_weigh_38 ?_
      refine lv_iload hx hb dX7_weigh_41 (lv_at hl 4 rfl) ?_
      obtain ⟨x6, ex6, hin, h⟩ := mrd_ex h
      refine kr_iald hC hW (wx_57 g μ) hin ex6 dX7_weigh_43 ?_
      refine lv_ior hx hb dX7_weigh_44 ?_
      refine lv_istore_n (lv' := [(2, .int (xs2 ||| x6)), (0, .ref (ad g 9)), (1, .int a1), (3, .int xs3), (4, .int xs4)]) hx hb dX7_weigh_45 rfl hl (by decide) rfl (fun ls hl => ?_)
      refine lv_iload_n hx hb dX7_weigh_46 rfl (lv_at hl 3 rfl) ?_
      refine lv_aload_n hx hb dX7_weigh_47 rfl (lv_at hl 1 rfl) ?_
      refine gf_X7_24_x9 hC hW dX7_weigh_48 ?_
      refine lv_iload_n hx hb dX7_weigh_51 rfl (lv_at hl 2 rfl) ?_
      refine lv_iconst (v := 1) hx hb dX7_weigh_52 (by decide) ?_
      refine lv_iload hx hb dX7_weigh_53 (lv_at hl 4 rfl) ?_
      refine lv_ishl hx hb dX7_weigh_55 ?_
      refine lv_iconst (v := (-1)) hx hb dX7_weigh_56 (by decide) ?_
      refine lv_ixor hx hb dX7_weigh_57 ?_
      refine lv_iand hx hb dX7_weigh_58 ?_
      obtain ⟨x7, ex7, hin, h⟩ := mrd_ex h
      refine kr_iald hC hW (wx_60 g μ) hin ex7 dX7_weigh_59 ?_
      refine lv_iconst (v := 1) hx hb dX7_weigh_60 (by decide) ?_
      refine lv_iadd hx hb dX7_weigh_61 ?_
      refine va_mmin hx hb (hml.trans hl.1.symm) hown (hts _ tw_947) (hts _ tw_571) (hts _ tw_15) (hts _ mth_min) (by decide) (Nat.le_of_ble_eq_true rfl) (Nat.le_refl 0) (Nat.le_refl 0) dX7_weigh_62 ?_
      refine W.eq (g2 := F0 m 65 ls [.int (jmin xs3 (x7 + 1))]) rfl ?_
      refine lv_istore_n (lv' := [(3, .int (jmin xs3 (x7 + 1))), (2, .int (xs2 ||| x6)), (0, .ref (ad g 9)), (1, .int a1), (4, .int xs4)]) hx hb dX7_weigh_65 rfl hl (by decide) rfl (fun ls hl => ?_)
      refine lv_aload_n hx hb dX7_weigh_66 rfl (lv_at hl 2 rfl) ?_
      refine lv_dup hx hb dX7_weigh_67 rfl ?_
      refine gf_X7_55_x9 hC hW dX7_weigh_68 ?_
      refine lv_aload_n hx hb dX7_weigh_71 rfl (lv_at hl 2 rfl) ?_
      refine gf_X7_18_x9 hC hW dX7_weigh_72 ?_
      refine lv_iload hx hb dX7_weigh_75 (lv_at hl 4 rfl) ?_
      obtain ⟨x8, ex8, hin, h⟩ := mrd_ex h
      refine kr_iald hC hW (wx_58 g μ) hin ex8 dX7_weigh_77 ?_
      refine lv_iadd hx hb dX7_weigh_78 ?_
      obtain ⟨μ9, eμ9, h⟩ := mst_some h
      refine pf_X7_55_x9 hC hW eμ9 dX7_weigh_79 (fun H locs hW => ?_)
      refine lv_aload_n hx hb dX7_weigh_82 rfl (lv_at hl 2 rfl) ?_
      refine lv_dup hx hb dX7_weigh_83 rfl ?_
      refine gf_X7_58_x9 hC hW dX7_weigh_84 ?_
      refine lv_iconst (v := 1) hx hb dX7_weigh_87 (by decide) ?_
      refine lv_aload_n hx hb dX7_weigh_88 rfl (lv_at hl 2 rfl) ?_
      refine gf_X7_21_x9 hC hW dX7_weigh_89 ?_
      refine lv_iload hx hb dX7_weigh_92 (lv_at hl 4 rfl) ?_
      obtain ⟨x10, ex10, hin, h⟩ := mrd_ex h
      refine kr_iald hC hW (wx_59 g μ9) hin ex10 dX7_weigh_94 ?_
      refine lv_ishl hx hb dX7_weigh_95 ?_
      refine lv_ior hx hb dX7_weigh_96 ?_
      obtain ⟨μ11, eμ11, h⟩ := mst_some h
      refine pf_X7_58_x9 hC hW eμ11 dX7_weigh_97 (fun H locs hW => ?_)
      refine lv_iinc (v := (xs4 + 1)) (lv' := [(4, .int (xs4 + 1)), (3, .int (jmin xs3 (x7 + 1))), (2, .int (xs2 ||| x6)), (0, .ref (ad g 9)), (1, .int a1)]) hx hb dX7_weigh_100 hl (k := 4) rfl (by rw [oi_1]) (by decide) rfl (fun ls hl => ?_)
      refine lv_goto (tgt := 18) hx hb dX7_weigh_103 (by decide) ?_
      exact k1 ((xs2 ||| x6), (jmin xs3 (x7 + 1)), (xs4 + 1), μ11) (Option.some.inj h).symm _ _ _ (lv_sub hl [3, 4, 2, 1, 0] rfl) hW
set_option maxHeartbeats 4000000 in
set_option maxRecDepth 100000 in
theorem t_vs_Serving_weigh {l : Launch} {g : Gx} {A : Nat → Prop} {μ : Mm} {a1 : Int32} {u : Mm} (h : vs_Serving_weigh μ a1 = some u) : Ctv l g A wx yX7_weigh cX7_weigh 5 none 1 [.ref (ad g 9), .int a1] μ u := by
  refine ent (lv := [(0, .ref (ad g 9)), (1, .int a1)]) (by decide) (Nat.le_of_ble_eq_true rfl) rfl ?_
  intro p e s m args below meth c hC hr hlocks hnm hW ls hl
  replace hC : Cx g RX7 cX7_weigh 5 p s m args c := hC
  obtain ⟨hx, hb, hml, hown, hts, hK, hN⟩ := id hC
  unfold vs_Serving_weigh at h
  refine lv_iconst (v := 0) hx hb dX7_weigh_0 (by decide) ?_
  refine lv_istore_n (lv' := [(2, .int 0), (0, .ref (ad g 9)), (1, .int a1)]) hx hb dX7_weigh_1 rfl hl (by decide) rfl (fun ls hl => ?_)
  refine lv_bipush (v := 16) hx hb dX7_weigh_2 (by decide) ?_
  refine lv_istore_n (lv' := [(3, .int 16), (2, .int 0), (0, .ref (ad g 9)), (1, .int a1)]) hx hb dX7_weigh_4 rfl hl (by decide) rfl (fun ls hl => ?_)
  refine lv_aload_n hx hb dX7_weigh_5 rfl (lv_at hl 2 rfl) ?_
  refine lv_iconst (v := 0) hx hb dX7_weigh_6 (by decide) ?_
  obtain ⟨μ1, eμ1, h⟩ := mst_some h
  refine pf_X7_55_x9 hC hW eμ1 dX7_weigh_7 (fun H locs hW => ?_)
  refine lv_aload_n hx hb dX7_weigh_10 rfl (lv_at hl 2 rfl) ?_
  refine lv_iconst (v := 0) hx hb dX7_weigh_11 (by decide) ?_
  obtain ⟨μ2, eμ2, h⟩ := mst_some h
  refine pf_X7_58_x9 hC hW eμ2 dX7_weigh_12 (fun H locs hW => ?_)
  refine lv_iconst (v := 0) hx hb dX7_weigh_15 (by decide) ?_
  refine lv_istore (lv' := [(4, .int 0), (3, .int 16), (2, .int 0), (0, .ref (ad g 9)), (1, .int a1)]) hx hb dX7_weigh_16 hl (by decide) rfl (fun ls hl => ?_)
  obtain ⟨e0, he17, h⟩ := mbv_some h
  obtain ⟨x12, x13, μ14, ee, h9⟩ := un3_ex h
  clear h
  subst ee
  have h := h9
  clear h9
  refine tl_vs_Serving_weigh_18 a1 hC (fun ls H locs hl hW => ?_) FU (0, 16, 0, μ2) he17 _ _ _ (lv_sub hl [3, 4, 2, 1, 0] rfl) hW
  refine lv_aload_n hx hb dX7_weigh_106 rfl (lv_at hl 0 rfl) ?_
  refine gf_X7_24_x9 hC hW dX7_weigh_107 ?_
  refine lv_iload_n hx hb dX7_weigh_110 rfl (lv_at hl 1 rfl) ?_
  refine lv_iload_n hx hb dX7_weigh_111 rfl (lv_at hl 3 rfl) ?_
  refine lv_iload_n hx hb dX7_weigh_112 rfl (lv_at hl 2 rfl) ?_
  obtain ⟨x15, hx15, h⟩ := mbv_some h
  refine kr_ci hC hW (kr_runS hC hW hl.1 (t_vs_Integer_bitCount_0f7a4 hx15) cw_X7_81 rfl rfl (Nat.le_of_ble_eq_true rfl) dX7_weigh_113 (by decide)) (fun H locs hW => ?_)
  refine va_mmin hx hb (hml.trans hl.1.symm) hown (hts _ tw_947) (hts _ tw_571) (hts _ tw_15) (hts _ mth_min) (by decide) (Nat.le_of_ble_eq_true rfl) (Nat.le_refl 0) (Nat.le_refl 0) dX7_weigh_116 ?_
  refine W.eq (g2 := F0 m 119 ls [.int (jmin x13 x15), .int a1, .ref (ad g 60)]) rfl ?_
  obtain ⟨μ16, eμ16, hin, h⟩ := mwr_ex h
  refine kr_iast hC hW (wx_60 g μ14) (wxs_60 eμ16) hin dX7_weigh_119 (fun H locs hW => ?_)
  cases h
  exact kr_vret hC hr hlocks hW dX7_weigh_120
set_option maxHeartbeats 4000000 in
set_option maxRecDepth 100000 in
theorem t_vs_Serving_isBetter {l : Launch} {g : Gx} {A : Nat → Prop} {μ : Mm} {a1 : Int32} {v : Bool} (h : vs_Serving_isBetter μ a1 = some v) : Cti l g A wx yX7_isBetter cX7_isBetter 2 (some .boolean) 0 [.ref (ad g 9), .int a1] μ (bI v) μ := by
  refine ent (lv := [(0, .ref (ad g 9)), (1, .int a1)]) (by decide) (Nat.le_of_ble_eq_true rfl) rfl ?_
  intro p e s m args below meth c hC hr hlocks hnm hW ls hl
  replace hC : Cx g RX7 cX7_isBetter 2 p s m args c := hC
  obtain ⟨hx, hb, hml, hown, hts, hK, hN⟩ := id hC
  unfold vs_Serving_isBetter at h
  refine lv_aload_n hx hb dX7_isBetter_0 rfl (lv_at hl 0 rfl) ?_
  refine gf_X7_48_x9 hC hW dX7_isBetter_1 ?_
  refine lv_iconst (v := (-1)) hx hb dX7_isBetter_4 (by decide) ?_
  refine lv_icmp_eq (tgt := 35) hx hb dX7_isBetter_5 (by decide) (fun hc1 => ?_) (fun hc1 => ?_)
  · replace h := if_p hc1 h
    refine lv_iconst (v := 1) hx hb dX7_isBetter_35 (by decide) ?_
    refine lv_goto (tgt := 40) hx hb dX7_isBetter_36 (by decide) ?_
    cases h
    exact kr_zret hC hr hlocks _ rfl hW dX7_isBetter_40
  · replace h := if_n hc1 h
    refine lv_iload_n hx hb dX7_isBetter_8 rfl (lv_at hl 1 rfl) ?_
    refine lv_aload_n hx hb dX7_isBetter_9 rfl (lv_at hl 0 rfl) ?_
    refine gf_X7_65_x9 hC hW dX7_isBetter_10 ?_
    refine lv_icmp_gt (tgt := 35) hx hb dX7_isBetter_13 (by decide) (fun hc2 => ?_) (fun hc2 => ?_)
    · replace h := if_p hc2 h
      refine lv_iconst (v := 1) hx hb dX7_isBetter_35 (by decide) ?_
      refine lv_goto (tgt := 40) hx hb dX7_isBetter_36 (by decide) ?_
      cases h
      exact kr_zret hC hr hlocks _ rfl hW dX7_isBetter_40
    · replace h := if_n hc2 h
      refine lv_iload_n hx hb dX7_isBetter_16 rfl (lv_at hl 1 rfl) ?_
      refine lv_aload_n hx hb dX7_isBetter_17 rfl (lv_at hl 0 rfl) ?_
      refine gf_X7_65_x9 hC hW dX7_isBetter_18 ?_
      refine lv_icmp_ne (tgt := 39) hx hb dX7_isBetter_21 (by decide) (fun hc3 => ?_) (fun hc3 => ?_)
      · replace h := if_n hc3 h
        refine lv_iconst (v := 0) hx hb dX7_isBetter_39 (by decide) ?_
        cases h
        exact kr_zret hC hr hlocks _ rfl hW dX7_isBetter_40
      · replace h := if_p hc3 h
        refine lv_aload_n hx hb dX7_isBetter_24 rfl (lv_at hl 0 rfl) ?_
        refine gf_X7_55_x9 hC hW dX7_isBetter_25 ?_
        refine lv_aload_n hx hb dX7_isBetter_28 rfl (lv_at hl 0 rfl) ?_
        refine gf_X7_68_x9 hC hW dX7_isBetter_29 ?_
        refine lv_icmp_ge (tgt := 39) hx hb dX7_isBetter_32 (by decide) (fun hc4 => ?_) (fun hc4 => ?_)
        · replace h := if_p hc4 h
          refine lv_iconst (v := 0) hx hb dX7_isBetter_39 (by decide) ?_
          cases h
          exact kr_zret hC hr hlocks _ rfl hW dX7_isBetter_40
        · replace h := if_n hc4 h
          refine lv_iconst (v := 1) hx hb dX7_isBetter_35 (by decide) ?_
          refine lv_goto (tgt := 40) hx hb dX7_isBetter_36 (by decide) ?_
          cases h
          exact kr_zret hC hr hlocks _ rfl hW dX7_isBetter_40
set_option maxHeartbeats 4000000 in
set_option maxRecDepth 100000 in
theorem tj_vs_Serving_choose_76 {μ : Mm} (a1 : Int32) (a3 : Int32) (a4 : Int32) (a5 : Int32) (y0 : Int32) (hC : Cx g RX7 cX7_choose 7 p s m args c) {e0 : (Mm)} {r : (Int32 × Mm) ⊕ (Mm)} (k1 : ∀ q, r = .inl q → ∀ (ls : Array Slot) (H : Heap) (locs : List Loc), lv_has ls 7 [(0, .ref (ad g 9)), (1, .int a1), (3, .int a3), (4, .int a4), (5, .int q.1)] → wP g wx A s.heap q.2 H locs → W p l e (rmD 2) s m args below meth c H locs 0 0 Q (F0 m 25 ls [])) (k2 : ∀ e', r = .inr e' → e' = e0) (kx0 : ∀ (ls : Array Slot) (H : Heap) (locs : List Loc), lv_has ls 7 [(0, .ref (ad g 9))] → wP g wx A s.heap e0 H locs → W p l e (rmD 2) s m args below meth c H locs 0 0 Q (F0 m 128 ls []))  (hl : lv_has ls 7 [(0, .ref (ad g 9)), (1, .int a1), (3, .int a3), (4, .int a4), (5, .int a5)]) (hW : wP g wx A s.heap μ H locs) (h : vs_Serving_choose_j76 μ a1 a3 a4 a5 y0 = some r) : W p l e (rmD 2) s m args below meth c H locs 0 0 Q (F0 m 76 ls [.int y0]) := by
  obtain ⟨hx, hb, hml, hown, hts, hK, hN⟩ := id hC
  unfold vs_Serving_choose_j76 at h
  refine lv_istore (lv' := [(6, .int y0), (0, .ref (ad g 9)), (1, .int a1), (3, .int a3), (4, .int a4), (5, .int a5)]) hx hb dX7_choose_76 hl (by decide) rfl (fun ls hl => ?_)
  refine lv_iload hx hb dX7_choose_78 (lv_at hl 0 rfl) ?_
  refine lv_if_eq (tgt := 122) hx hb dX7_choose_80 (by decide) (fun hc7 => ?_) (fun hc7 => ?_)
  · replace h := if_p hc7 h
    refine lv_iinc (v := (a5 + 1)) (lv' := [(5, .int (a5 + 1)), (6, .int y0), (0, .ref (ad g 9)), (1, .int a1), (3, .int a3), (4, .int a4)]) hx hb dX7_choose_122 hl (k := 5) rfl (by rw [oi_1]) (by decide) rfl (fun ls hl => ?_)
    refine lv_goto (tgt := 25) hx hb dX7_choose_125 (by decide) ?_
    exact k1 ((a5 + 1), μ) (Option.some.inj h).symm _ _ _ (lv_sub hl [2, 3, 4, 5, 0] rfl) hW
  · replace h := if_n hc7 h
    refine lv_aload_n hx hb dX7_choose_83 rfl (lv_at hl 1 rfl) ?_
    refine lv_aload_n hx hb dX7_choose_84 rfl (lv_at hl 1 rfl) ?_
    refine gf_X7_24_x9 hC hW dX7_choose_85 ?_
    refine lv_iload hx hb dX7_choose_88 (lv_at hl 5 rfl) ?_
    obtain ⟨x8, ex8, hin, h⟩ := mrd_ex h
    refine kr_iald hC hW (wx_60 g μ) hin ex8 dX7_choose_90 ?_
    obtain ⟨x9, hx9, h⟩ := mbv_some h
    refine kr_ci hC hW (kr_runV hC hW hl.1 (t_vs_Serving_isBetter hx9) cw_X7_61 (wx_9 g μ) rfl rfl rfl (Nat.le_of_ble_eq_true rfl) dX7_choose_91 (by decide)) (fun H locs hW => ?_)
    refine lv_if_eq (tgt := 122) hx hb dX7_choose_94 (by decide) (fun hc10 => ?_) (fun hc10 => ?_)
    · replace h := if_p hc10 h
      refine lv_iinc (v := (a5 + 1)) (lv' := [(5, .int (a5 + 1)), (6, .int y0), (0, .ref (ad g 9)), (1, .int a1), (3, .int a3), (4, .int a4)]) hx hb dX7_choose_122 hl (k := 5) rfl (by rw [oi_1]) (by decide) rfl (fun ls hl => ?_)
      refine lv_goto (tgt := 25) hx hb dX7_choose_125 (by decide) ?_
      exact k1 ((a5 + 1), μ) (Option.some.inj h).symm _ _ _ (lv_sub hl [2, 3, 4, 5, 0] rfl) hW
    · replace h := if_n hc10 h
      refine lv_aload_n hx hb dX7_choose_97 rfl (lv_at hl 1 rfl) ?_
      refine lv_iload hx hb dX7_choose_98 (lv_at hl 5 rfl) ?_
      obtain ⟨μ11, eμ11, h⟩ := mst_some h
      refine pf_X7_48_x9 hC hW eμ11 dX7_choose_100 (fun H locs hW => ?_)
      refine lv_aload_n hx hb dX7_choose_103 rfl (lv_at hl 1 rfl) ?_
      refine lv_aload_n hx hb dX7_choose_104 rfl (lv_at hl 1 rfl) ?_
      refine gf_X7_24_x9 hC hW dX7_choose_105 ?_
      refine lv_iload hx hb dX7_choose_108 (lv_at hl 5 rfl) ?_
      obtain ⟨x12, ex12, hin, h⟩ := mrd_ex h
      refine kr_iald hC hW (wx_60 g μ11) hin ex12 dX7_choose_110 ?_
      obtain ⟨μ13, eμ13, h⟩ := mst_some h
      refine pf_X7_65_x9 hC hW eμ13 dX7_choose_111 (fun H locs hW => ?_)
      refine lv_aload_n hx hb dX7_choose_114 rfl (lv_at hl 1 rfl) ?_
      refine lv_aload_n hx hb dX7_choose_115 rfl (lv_at hl 1 rfl) ?_
      refine gf_X7_55_x9 hC hW dX7_choose_116 ?_
      obtain ⟨μ14, eμ14, h⟩ := mst_some h
      refine pf_X7_68_x9 hC hW eμ14 dX7_choose_119 (fun H locs hW => ?_)
      refine lv_iinc (v := (a5 + 1)) (lv' := [(5, .int (a5 + 1)), (6, .int y0), (0, .ref (ad g 9)), (1, .int a1), (3, .int a3), (4, .int a4)]) hx hb dX7_choose_122 hl (k := 5) rfl (by rw [oi_1]) (by decide) rfl (fun ls hl => ?_)
      refine lv_goto (tgt := 25) hx hb dX7_choose_125 (by decide) ?_
      exact k1 ((a5 + 1), μ14) (Option.some.inj h).symm _ _ _ (lv_sub hl [2, 3, 4, 5, 0] rfl) hW
set_option maxHeartbeats 4000000 in
set_option maxRecDepth 100000 in
theorem tj_vs_Serving_choose_75 {μ : Mm} (a1 : Int32) (a3 : Int32) (a4 : Int32) (a5 : Int32) (hC : Cx g RX7 cX7_choose 7 p s m args c) {e0 : (Mm)} {r : (Int32 × Mm) ⊕ (Mm)} (k1 : ∀ q, r = .inl q → ∀ (ls : Array Slot) (H : Heap) (locs : List Loc), lv_has ls 7 [(0, .ref (ad g 9)), (1, .int a1), (3, .int a3), (4, .int a4), (5, .int q.1)] → wP g wx A s.heap q.2 H locs → W p l e (rmD 2) s m args below meth c H locs 0 0 Q (F0 m 25 ls [])) (k2 : ∀ e', r = .inr e' → e' = e0) (kx0 : ∀ (ls : Array Slot) (H : Heap) (locs : List Loc), lv_has ls 7 [(0, .ref (ad g 9))] → wP g wx A s.heap e0 H locs → W p l e (rmD 2) s m args below meth c H locs 0 0 Q (F0 m 128 ls []))  (hl : lv_has ls 7 [(0, .ref (ad g 9)), (1, .int a1), (3, .int a3), (4, .int a4), (5, .int a5)]) (hW : wP g wx A s.heap μ H locs) (h : vs_Serving_choose_j75 μ a1 a3 a4 a5 = some r) : W p l e (rmD 2) s m args below meth c H locs 0 0 Q (F0 m 75 ls []) := by
  obtain ⟨hx, hb, hml, hown, hts, hK, hN⟩ := id hC
  unfold vs_Serving_choose_j75 at h
  refine lv_iconst (v := 0) hx hb dX7_choose_75 (by decide) ?_
  exact tj_vs_Serving_choose_76 a1 a3 a4 a5 0 hC k1 k2 kx0 (lv_sub hl [0, 1, 2, 3, 4] rfl) hW h
set_option maxHeartbeats 4000000 in
set_option maxRecDepth 100000 in
theorem tl_vs_Serving_choose_25 (a1 : Int32) (a3 : Int32) (a4 : Int32) (hC : Cx g RX7 cX7_choose 7 p s m args c) {e0 : (Mm)} (kx0 : ∀ (ls : Array Slot) (H : Heap) (locs : List Loc), lv_has ls 7 [(0, .ref (ad g 9))] → wP g wx A s.heap e0 H locs → W p l e (rmD 2) s m args below meth c H locs 0 0 Q (F0 m 128 ls [])) : ∀ (n : Nat) (q : Int32 × Mm), miter (fun q => vs_Serving_choose_b25 q.2 a1 a3 a4 q.1) n q = some e0 → ∀ (ls : Array Slot) (H : Heap) (locs : List Loc), lv_has ls 7 [(0, .ref (ad g 9)), (1, .int a1), (3, .int a3), (4, .int a4), (5, .int q.1)] → wP g wx A s.heap q.2 H locs → W p l e (rmD 2) s m args below meth c H locs 0 0 Q (F0 m 25 ls []) := by
  obtain ⟨hx, hb, hml, hown, hts, hK, hN⟩ := id hC
  refine miter_ind (fun q r hf k1 k2 => ?_)
  obtain ⟨xs5, μ⟩ := q
  intro ls H locs hl hW
  have h : vs_Serving_choose_b25 μ a1 a3 a4 xs5 = some r := hf
  unfold vs_Serving_choose_b25 at h
  refine lv_iload hx hb dX7_choose_25 (lv_at hl 4 rfl) ?_
  refine lv_iload_n hx hb dX7_choose_27 rfl (lv_at hl 2 rfl) ?_
  refine lv_icmp_gt (tgt := 128) hx hb dX7_choose_28 (by decide) (fun hc3 => ?_) (fun hc3 => ?_)
  · replace h := if_p hc3 h
    obtain rfl := k2 _ (Option.some.inj h).symm
    exact kx0 _ _ _ (lv_sub hl [0] rfl) hW
  · replace h := if_n hc3 h
    refine lv_aload_n hx hb dX7_choose_31 rfl (lv_at hl 0 rfl) ?_
    refine lv_iload hx hb dX7_choose_32 (lv_at hl 4 rfl) ?_
    obtain ⟨μ5, hxμ5, h⟩ := mbv_some h
    refine kr_cv hC hW (kr_runV hC hW hl.1 (t_vs_Serving_weigh hxμ5) cw_X7_51 (wx_9 g μ) rfl rfl rfl (Nat.le_of_ble_eq_true rfl) dX7_choose_34 (by decide)) (fun H locs hW => ?_)
    refine lv_aload_n hx hb dX7_choose_37 rfl (lv_at hl 0 rfl) ?_
    refine gf_X7_55_x9 hC hW dX7_choose_38 ?_
    refine lv_iload_n hx hb dX7_choose_41 rfl (lv_at hl 1 rfl) ?_
    refine lv_icmp_gt (tgt := 75) hx hb dX7_choose_42 (by decide) (fun hc6 => ?_) (fun hc6 => ?_)
    · replace h := if_p hc6 h
      exact tj_vs_Serving_choose_75 a1 a3 a4 xs5 hC k1 k2 kx0 (lv_sub hl [0, 1, 2, 3, 4] rfl) hW h
    · replace h := if_n hc6 h
      refine lv_iload hx hb dX7_choose_45 (lv_at hl 4 rfl) ?_
      refine lv_aload_n hx hb dX7_choose_47 rfl (lv_at hl 0 rfl) ?_
      refine gf_X7_37_x9 hC hW dX7_choose_48 ?_
      refine lv_iand hx hb dX7_choose_51 ?_
      refine lv_aload_n hx hb dX7_choose_52 rfl (lv_at hl 0 rfl) ?_
      refine gf_X7_37_x9 hC hW dX7_choose_53 ?_
      refine lv_icmp_ne (tgt := 75) hx hb dX7_choose_56 (by decide) (fun hc15 => ?_) (fun hc15 => ?_)
      · replace h := if_n hc15 h
        exact tj_vs_Serving_choose_75 a1 a3 a4 xs5 hC k1 k2 kx0 (lv_sub hl [0, 1, 2, 3, 4] rfl) hW h
      · replace h := if_p hc15 h
        refine lv_aload_n hx hb dX7_choose_59 rfl (lv_at hl 0 rfl) ?_
        refine gf_X7_58_x9 hC hW dX7_choose_60 ?_
        refine lv_iload hx hb dX7_choose_63 (lv_at hl 3 rfl) ?_
        refine lv_iand hx hb dX7_choose_65 ?_
        refine lv_iload hx hb dX7_choose_66 (lv_at hl 3 rfl) ?_
        refine lv_icmp_ne (tgt := 75) hx hb dX7_choose_68 (by decide) (fun hc16 => ?_) (fun hc16 => ?_)
        · replace h := if_n hc16 h
          exact tj_vs_Serving_choose_75 a1 a3 a4 xs5 hC k1 k2 kx0 (lv_sub hl [0, 1, 2, 3, 4] rfl) hW h
        · replace h := if_p hc16 h
          refine lv_iconst (v := 1) hx hb dX7_choose_71 (by decide) ?_
          refine lv_goto (tgt := 76) hx hb dX7_choose_72 (by decide) ?_
          exact tj_vs_Serving_choose_76 a1 a3 a4 xs5 1 hC k1 k2 kx0 (lv_sub hl [0, 1, 2, 3, 4] rfl) hW h
set_option maxHeartbeats 4000000 in
set_option maxRecDepth 100000 in
theorem t_vs_Serving_choose {l : Launch} {g : Gx} {A : Nat → Prop} {μ : Mm} {a1 : Int32} {a2 : Int32} {v : Bool} {u : Mm} (h : vs_Serving_choose μ a1 a2 = some (v, u)) : Cti l g A wx yX7_choose cX7_choose 7 (some .boolean) 2 [.ref (ad g 9), .int a1, .int a2] μ (bI v) u := by
  refine ent (lv := [(0, .ref (ad g 9)), (1, .int a1), (2, .int a2)]) (by decide) (Nat.le_of_ble_eq_true rfl) rfl ?_
  intro p e s m args below meth c hC hr hlocks hnm hW ls hl
  replace hC : Cx g RX7 cX7_choose 7 p s m args c := hC
  obtain ⟨hx, hb, hml, hown, hts, hK, hN⟩ := id hC
  unfold vs_Serving_choose at h
  refine lv_iconst (v := 1) hx hb dX7_choose_0 (by decide) ?_
  refine lv_aload_n hx hb dX7_choose_1 rfl (lv_at hl 0 rfl) ?_
  refine gf_X7_33_x9 hC hW dX7_choose_2 ?_
  refine lv_ishl hx hb dX7_choose_5 ?_
  refine lv_iconst (v := 1) hx hb dX7_choose_6 (by decide) ?_
  refine lv_isub hx hb dX7_choose_7 ?_
  refine lv_istore_n (lv' := [(3, .int (((1 : Int32) <<< ((μ 9 7) &&& 31)) - 1)), (0, .ref (ad g 9)), (1, .int a1), (2, .int a2)]) hx hb dX7_choose_8 rfl hl (by decide) rfl (fun ls hl => ?_)
  refine lv_iload_n hx hb dX7_choose_9 rfl (lv_at hl 3 rfl) ?_
  refine lv_aload_n hx hb dX7_choose_10 rfl (lv_at hl 1 rfl) ?_
  obtain ⟨x1, hx1, h⟩ := mbv_some h
  refine kr_ci hC hW (kr_runV hC hW hl.1 (t_vs_Serving_kindsOffered hx1) cw_X7_44 (wx_9 g μ) rfl rfl rfl (Nat.le_of_ble_eq_true rfl) dX7_choose_11 (by decide)) (fun H locs hW => ?_)
  refine lv_iand hx hb dX7_choose_14 ?_
  refine lv_istore (lv' := [(4, .int (a2 &&& x1)), (3, .int (((1 : Int32) <<< ((μ 9 7) &&& 31)) - 1)), (0, .ref (ad g 9)), (1, .int a1), (2, .int a2)]) hx hb dX7_choose_15 hl (by decide) rfl (fun ls hl => ?_)
  refine lv_aload_n hx hb dX7_choose_17 rfl (lv_at hl 2 rfl) ?_
  refine lv_iconst (v := (-1)) hx hb dX7_choose_18 (by decide) ?_
  obtain ⟨μ2, eμ2, h⟩ := mst_some h
  refine pf_X7_48_x9 hC hW eμ2 dX7_choose_19 (fun H locs hW => ?_)
  refine lv_iconst (v := 0) hx hb dX7_choose_22 (by decide) ?_
  refine lv_istore (lv' := [(5, .int 0), (4, .int (a2 &&& x1)), (3, .int (((1 : Int32) <<< ((μ 9 7) &&& 31)) - 1)), (0, .ref (ad g 9)), (1, .int a1), (2, .int a2)]) hx hb dX7_choose_23 hl (by decide) rfl (fun ls hl => ?_)
  obtain ⟨μ17, he19, h⟩ := mbv_some h
  refine tl_vs_Serving_choose_25 a1 (((1 : Int32) <<< ((μ 9 7) &&& 31)) - 1) (a2 &&& x1) hC (fun ls H locs hl hW => ?_) FU (0, μ2) he19 _ _ _ (lv_sub hl [3, 4, 2, 1, 0] rfl) hW
  refine lv_aload_n hx hb dX7_choose_128 rfl (lv_at hl 0 rfl) ?_
  refine gf_X7_48_x9 hC hW dX7_choose_129 ?_
  refine lv_iconst (v := (-1)) hx hb dX7_choose_132 (by decide) ?_
  refine lv_icmp_eq (tgt := 140) hx hb dX7_choose_133 (by decide) (fun hc18 => ?_) (fun hc18 => ?_)
  · replace h := if_p hc18 h
    refine lv_iconst (v := 0) hx hb dX7_choose_140 (by decide) ?_
    cases h
    exact kr_zret hC hr hlocks _ rfl hW dX7_choose_141
  · replace h := if_n hc18 h
    refine lv_iconst (v := 1) hx hb dX7_choose_136 (by decide) ?_
    refine lv_goto (tgt := 141) hx hb dX7_choose_137 (by decide) ?_
    cases h
    exact kr_zret hC hr hlocks _ rfl hW dX7_choose_141
end
