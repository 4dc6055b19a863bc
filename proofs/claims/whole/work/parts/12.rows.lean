section
variable {p : Program} {l : Launch} {e : Env} {s : State} {m : MethodId} {args : Array Value} {below : List Frame} {meth : Method} {c : Code} {H : Heap} {locs : List Loc} {Q : State → Prop} {g : Gx} {A : Nat → Prop} {ls : Array Slot} {Wd : Gx → Mm → va_W}
set_option maxHeartbeats 4000000 in
set_option maxRecDepth 100000 in
theorem tl_vs_Serving_bestBooks_4 (μ : Mm) (hC : Cx g RX7 cX7_bestBooks 3 p s m args c) {e0 : (Int32)} (kx0 : ∀ (ls : Array Slot) (H : Heap) (locs : List Loc), lv_has ls 3 [(1, .int e0)] → wP g wx A s.heap μ H locs → W p l e (rmD 1) s m args below meth c H locs 0 0 Q (F0 m 40 ls [])) : ∀ (n : Nat) (q : Int32 × Int32), miter (fun q => vs_Serving_bestBooks_b4 μ q.1 q.2) n q = some e0 → ∀ (ls : Array Slot) (H : Heap) (locs : List Loc), lv_has ls 3 [(0, .ref (ad g 9)), (1, .int q.1), (2, .int q.2)] → wP g wx A s.heap μ H locs → W p l e (rmD 1) s m args below meth c H locs 0 0 Q (F0 m 4 ls []) := by
  obtain ⟨hx, hb, hml, hown, hts, hK, hN⟩ := id hC
  refine miter_ind (fun q r hf k1 k2 => ?_)
  obtain ⟨xs1, xs2⟩ := q
  intro ls H locs hl hW
  have h : vs_Serving_bestBooks_b4 μ xs1 xs2 = some r := hf
  unfold vs_Serving_bestBooks_b4 at h
  refine lv_iload_n hx hb dX7_bestBooks_4 rfl (lv_at hl 2 rfl) ?_
  refine lv_aload_n hx hb dX7_bestBooks_5 rfl (lv_at hl 0 rfl) ?_
  refine gf_X7_33_x9 hC hW dX7_bestBooks_6 ?_
  refine lv_icmp_ge (tgt := 40) hx hb dX7_bestBooks_9 (by decide) (fun hc1 => ?_) (fun hc1 => ?_)
  · replace h := if_p hc1 h
    obtain rfl := k2 _ (Option.some.inj h).symm
    exact kx0 _ _ _ (lv_sub hl [1] rfl) hW
  · replace h := if_n hc1 h
    refine lv_aload_n hx hb dX7_bestBooks_12 rfl (lv_at hl 0 rfl) ?_
    refine gf_X7_48_x9 hC hW dX7_bestBooks_13 ?_
    refine lv_iload_n hx hb dX7_bestBooks_16 rfl (lv_at hl 2 rfl) ?_
    obtain ⟨x2, hx2, h⟩ := mbv_some h
    refine kr_ci hC hW (kr_runN hC hW hl.1 (t_vs_hasBit hx2) cw_X7_71 rfl rfl (Nat.le_of_ble_eq_true rfl) dX7_bestBooks_17 (by decide)) (fun H locs hW => ?_)
    refine lv_if_eq (tgt := 34) hx hb dX7_bestBooks_20 (by decide) (fun hc3 => ?_) (fun hc3 => ?_)
    · replace h := if_p hc3 h
      refine lv_iinc (v := (xs2 + 1)) (lv' := [(2, .int (xs2 + 1)), (0, .ref (ad g 9)), (1, .int xs1)]) hx hb dX7_bestBooks_34 hl (k := 2) rfl (by rw [oi_1]) (by decide) rfl (fun ls hl => ?_)
      refine lv_goto (tgt := 4) hx hb dX7_bestBooks_37 (by decide) ?_
      exact k1 (xs1, (xs2 + 1)) (Option.some.inj h).symm _ _ _ (lv_sub hl [1, 2, 0] rfl) hW
    · replace h := if_n hc3 h
      refine lv_iload_n hx hb dX7_bestBooks_23 rfl (lv_at hl 1 rfl) ?_
      refine lv_iconst (v := 1) hx hb dX7_bestBooks_24 (by decide) ?_
      refine lv_aload_n hx hb dX7_bestBooks_25 rfl (lv_at hl 0 rfl) ?_
      refine gf_X7_9_x9 hC hW dX7_bestBooks_26 ?_
      refine lv_iload_n hx hb dX7_bestBooks_29 rfl (lv_at hl 2 rfl) ?_
      obtain ⟨x4, ex4, hin, h⟩ := mrd_ex h
      refine kr_iald hC hW (wx_56 g μ) hin ex4 dX7_bestBooks_30 ?_
      refine lv_ishl hx hb dX7_bestBooks_31 ?_
      refine lv_ior hx hb dX7_bestBooks_32 ?_
      refine lv_istore_n (lv' := [(1, .int (xs1 ||| ((1 : Int32) <<< (x4 &&& 31)))), (0, .ref (ad g 9)), (2, .int xs2)]) hx hb dX7_bestBooks_33 rfl hl (by decide) rfl (fun ls hl => ?_)
      refine lv_iinc (v := (xs2 + 1)) (lv' := [(2, .int (xs2 + 1)), (1, .int (xs1 ||| ((1 : Int32) <<< (x4 &&& 31)))), (0, .ref (ad g 9))]) hx hb dX7_bestBooks_34 hl (k := 2) rfl (by rw [oi_1]) (by decide) rfl (fun ls hl => ?_)
      refine lv_goto (tgt := 4) hx hb dX7_bestBooks_37 (by decide) ?_
      exact k1 ((xs1 ||| ((1 : Int32) <<< (x4 &&& 31))), (xs2 + 1)) (Option.some.inj h).symm _ _ _ (lv_sub hl [2, 1, 0] rfl) hW
set_option maxHeartbeats 4000000 in
set_option maxRecDepth 100000 in
theorem t_vs_Serving_bestBooks {l : Launch} {g : Gx} {A : Nat → Prop} {μ : Mm} {v : Int32} (h : vs_Serving_bestBooks μ = some v) : Cti l g A wx yX7_bestBooks cX7_bestBooks 3 (some .int) 1 [.ref (ad g 9)] μ v μ := by
  refine ent (lv := [(0, .ref (ad g 9))]) (by decide) (Nat.le_of_ble_eq_true rfl) rfl ?_
  intro p e s m args below meth c hC hr hlocks hnm hW ls hl
  replace hC : Cx g RX7 cX7_bestBooks 3 p s m args c := hC
  obtain ⟨hx, hb, hml, hown, hts, hK, hN⟩ := id hC
  unfold vs_Serving_bestBooks at h
  refine lv_iconst (v := 0) hx hb dX7_bestBooks_0 (by decide) ?_
  refine lv_istore_n (lv' := [(1, .int 0), (0, .ref (ad g 9))]) hx hb dX7_bestBooks_1 rfl hl (by decide) rfl (fun ls hl => ?_)
  refine lv_iconst (v := 0) hx hb dX7_bestBooks_2 (by decide) ?_
  refine lv_istore_n (lv' := [(2, .int 0), (1, .int 0), (0, .ref (ad g 9))]) hx hb dX7_bestBooks_3 rfl hl (by decide) rfl (fun ls hl => ?_)
  obtain ⟨x5, he6, h⟩ := mbv_some h
  refine tl_vs_Serving_bestBooks_4 μ hC (fun ls H locs hl hW => ?_) FU (0, 0) he6 _ _ _ (lv_sub hl [2, 1, 0] rfl) hW
  refine lv_iload_n hx hb dX7_bestBooks_40 rfl (lv_at hl 0 rfl) ?_
  cases h
  exact kr_iret hC hr hlocks hW dX7_bestBooks_41
set_option maxHeartbeats 4000000 in
set_option maxRecDepth 100000 in
theorem t_vs_load {l : Launch} {g : Gx} {A : Nat → Prop} {μ : Mm} {a1 : Int32} {a2 : Int32} {a3 : Int32} {a4 : Int32} {v : Int64} {u : Mm} (h : vs_load μ a1 a2 a3 a4 = some (v, u)) : Ctl l g A wx yX11_load cX11_load 5 (some .long) 7 [.ref (ad g 0), .int a1, .int a2, .int a3, .int a4] μ v u := by
  refine ent (lv := [(0, .ref (ad g 0)), (1, .int a1), (2, .int a2), (3, .int a3), (4, .int a4)]) (by decide) (Nat.le_of_ble_eq_true rfl) rfl ?_
  intro p e s m args below meth c hC hr hlocks hnm hW ls hl
  replace hC : Cx g RX11 cX11_load 5 p s m args c := hC
  obtain ⟨hx, hb, hml, hown, hts, hK, hN⟩ := id hC
  unfold vs_load at h
  refine lv_iload_n hx hb dX11_load_0 rfl (lv_at hl 1 rfl) ?_
  obtain ⟨x1, hx1, h⟩ := mbv_some h
  refine kr_ci hC hW (kr_runS hC hW hl.1 (t_vs_isVan hx1) cw_X11_108 rfl rfl (Nat.le_of_ble_eq_true rfl) dX11_load_1 (by decide)) (fun H locs hW => ?_)
  refine lv_if_eq (tgt := 35) hx hb dX11_load_4 (by decide) (fun hc2 => ?_) (fun hc2 => ?_)
  · replace h := if_p hc2 h
    refine lv_ldc2 hx hb hown (hts _ tw_842) dX11_load_35 ?_
    cases h
    exact kr_lret hC hr hlocks hW dX11_load_38
  · replace h := if_n hc2 h
    refine lv_iload_n hx hb dX11_load_7 rfl (lv_at hl 2 rfl) ?_
    obtain ⟨x3, hx3, h⟩ := mbv_some h
    refine kr_ci hC hW (kr_runS hC hW hl.1 (t_vs_isMuch hx3) cw_X11_289 rfl rfl (Nat.le_of_ble_eq_true rfl) dX11_load_8 (by decide)) (fun H locs hW => ?_)
    refine lv_if_eq (tgt := 35) hx hb dX11_load_11 (by decide) (fun hc4 => ?_) (fun hc4 => ?_)
    · replace h := if_p hc4 h
      refine lv_ldc2 hx hb hown (hts _ tw_842) dX11_load_35 ?_
      cases h
      exact kr_lret hC hr hlocks hW dX11_load_38
    · replace h := if_n hc4 h
      refine lv_iload_n hx hb dX11_load_14 rfl (lv_at hl 3 rfl) ?_
      refine lv_iconst (v := 0) hx hb dX11_load_15 (by decide) ?_
      refine lv_sipush (v := 255) hx hb dX11_load_16 (by decide) ?_
      obtain ⟨x5, hx5, h⟩ := mbv_some h
      refine kr_ci hC hW (kr_runS hC hW hl.1 (t_vs_within hx5) cw_X11_100 rfl rfl (Nat.le_of_ble_eq_true rfl) dX11_load_19 (by decide)) (fun H locs hW => ?_)
      refine lv_if_eq (tgt := 35) hx hb dX11_load_22 (by decide) (fun hc6 => ?_) (fun hc6 => ?_)
      · replace h := if_p hc6 h
        refine lv_ldc2 hx hb hown (hts _ tw_842) dX11_load_35 ?_
        cases h
        exact kr_lret hC hr hlocks hW dX11_load_38
      · replace h := if_n hc6 h
        refine lv_iload hx hb dX11_load_25 (lv_at hl 4 rfl) ?_
        refine lv_iconst (v := 0) hx hb dX11_load_27 (by decide) ?_
        refine lv_iconst (v := 2) hx hb dX11_load_28 (by decide) ?_
        obtain ⟨x7, hx7, h⟩ := mbv_some h
        refine kr_ci hC hW (kr_runS hC hW hl.1 (t_vs_within hx7) cw_X11_100 rfl rfl (Nat.le_of_ble_eq_true rfl) dX11_load_29 (by decide)) (fun H locs hW => ?_)
        refine lv_if_ne (tgt := 39) hx hb dX11_load_32 (by decide) (fun hc8 => ?_) (fun hc8 => ?_)
        · replace h := if_n hc8 h
          refine lv_aload_n hx hb dX11_load_39 rfl (lv_at hl 0 rfl) ?_
          refine lv_iload_n hx hb dX11_load_40 rfl (lv_at hl 1 rfl) ?_
          refine lv_iload_n hx hb dX11_load_41 rfl (lv_at hl 2 rfl) ?_
          obtain ⟨μ10, hxμ10, h⟩ := mbv_some h
          refine kr_cv hC hW (kr_runV hC hW hl.1 (t_vs_gatherLoad hxμ10) cw_X11_292 (wx_0 g μ) rfl rfl rfl (Nat.le_of_ble_eq_true rfl) dX11_load_42 (by decide)) (fun H locs hW => ?_)
          refine lv_aload_n hx hb dX11_load_45 rfl (lv_at hl 0 rfl) ?_
          refine gf_X11_72_x0 hC hW dX11_load_46 ?_
          refine lv_aload_n hx hb dX11_load_49 rfl (lv_at hl 0 rfl) ?_
          refine gf_X11_76_x0 hC hW dX11_load_50 ?_
          refine lv_iload_n hx hb dX11_load_53 rfl (lv_at hl 1 rfl) ?_
          obtain ⟨x11, ex11, hin, h⟩ := mrd_ex h
          refine kr_iald hC hW (wx_12 g μ10) hin ex11 dX11_load_54 ?_
          refine lv_iload_n hx hb dX11_load_55 rfl (lv_at hl 3 rfl) ?_
          obtain ⟨x12, μ13, hx12, h⟩ := mbm_some h
          refine kr_ci hC hW (kr_runV hC hW hl.1 (t_vs_Serving_choose hx12) cw_X11_295 (wx_9 g μ10) rfl rfl rfl (Nat.le_of_ble_eq_true rfl) dX11_load_56 (by decide)) (fun H locs hW => ?_)
          refine lv_if_ne (tgt := 66) hx hb dX11_load_59 (by decide) (fun hc14 => ?_) (fun hc14 => ?_)
          · replace h := if_n hc14 h
            refine lv_iload hx hb dX11_load_66 (lv_at hl 4 rfl) ?_
            by_cases hc15 : a4 = 0
            · replace h := if_p hc15 h
              refine lv_lookup (off := 28) (tgt := 96) hx hb dX11_load_68 (by decide) (by rw [hc15]; decide) (by decide) ?_
              refine lv_aload_n hx hb dX11_load_96 rfl (lv_at hl 0 rfl) ?_
              refine gf_X11_72_x0 hC hW dX11_load_97 ?_
              obtain ⟨x16, hx16, h⟩ := mbv_some h
              refine kr_ci hC hW (kr_runV hC hW hl.1 (t_vs_Serving_bestBooks hx16) cw_X11_300 (wx_9 g μ13) rfl rfl rfl (Nat.le_of_ble_eq_true rfl) dX11_load_100 (by decide)) (fun H locs hW => ?_)
              obtain ⟨x17, hx17, h⟩ := mbv_some h
              refine kr_cl hC hW (kr_runS hC hW hl.1 (t_vs_asLong hx17) cw_X11_266 rfl rfl (Nat.le_of_ble_eq_true rfl) dX11_load_103 (by decide)) (fun H locs hW => ?_)
              cases h
              exact kr_lret hC hr hlocks hW dX11_load_106
            replace h := if_n hc15 h
            by_cases hc18 : a4 = 1
            · replace h := if_p hc18 h
              refine lv_lookup (off := 39) (tgt := 107) hx hb dX11_load_68 (by decide) (by rw [hc18]; decide) (by decide) ?_
              refine lv_aload_n hx hb dX11_load_107 rfl (lv_at hl 0 rfl) ?_
              refine gf_X11_72_x0 hC hW dX11_load_108 ?_
              refine gf_X11_303_x9 hC hW dX11_load_111 ?_
              refine lv_i2l (v := ((μ13 9 12) : Int32).toInt64) hx hb dX11_load_114 rfl ?_
              cases h
              exact kr_lret hC hr hlocks hW dX11_load_115
            replace h := if_n hc18 h
            refine lv_lookup (off := 48) (tgt := 116) hx hb dX11_load_68 (by decide) (by show Op.lookupswitch.offset [(0, 28), (1, 39)] 48 _ = _; rw [lv_osw hc15 (by decide), lv_osw hc18 (by decide)]; rfl) (by decide) ?_
            refine lv_aload_n hx hb dX11_load_116 rfl (lv_at hl 0 rfl) ?_
            refine gf_X11_72_x0 hC hW dX11_load_117 ?_
            refine gf_X11_306_x9 hC hW dX11_load_120 ?_
            refine lv_i2l (v := ((μ13 9 13) : Int32).toInt64) hx hb dX11_load_123 rfl ?_
            cases h
            exact kr_lret hC hr hlocks hW dX11_load_124
          · replace h := if_p hc14 h
            refine lv_ldc2 hx hb hown (hts _ tw_953) dX11_load_62 ?_
            cases h
            exact kr_lret hC hr hlocks hW dX11_load_65
        · replace h := if_p hc8 h
          refine lv_ldc2 hx hb hown (hts _ tw_842) dX11_load_35 ?_
          cases h
          exact kr_lret hC hr hlocks hW dX11_load_38
set_option maxHeartbeats 4000000 in
set_option maxRecDepth 100000 in
theorem t_vs_Books_all {l : Launch} {g : Gx} {A : Nat → Prop} {μ : Mm} {v : Int32} (h : vs_Books_all μ = some v) : Cti l g A wx yX2_all cX2_all 1 (some .int) 0 [.ref (ad g 2)] μ v μ := by
  refine ent (lv := [(0, .ref (ad g 2))]) (by decide) (Nat.le_of_ble_eq_true rfl) rfl ?_
  intro p e s m args below meth c hC hr hlocks hnm hW ls hl
  replace hC : Cx g RX2 cX2_all 1 p s m args c := hC
  obtain ⟨hx, hb, hml, hown, hts, hK, hN⟩ := id hC
  unfold vs_Books_all at h
  refine lv_aload_n hx hb dX2_all_0 rfl (lv_at hl 0 rfl) ?_
  refine gf_X2_42_x2 hC hW dX2_all_1 ?_
  refine lv_bipush (v := 32) hx hb dX2_all_4 (by decide) ?_
  refine lv_icmp_lt (tgt := 13) hx hb dX2_all_6 (by decide) (fun hc1 => ?_) (fun hc1 => ?_)
  · replace h := if_p hc1 h
    refine lv_iconst (v := 1) hx hb dX2_all_13 (by decide) ?_
    refine lv_aload_n hx hb dX2_all_14 rfl (lv_at hl 0 rfl) ?_
    refine gf_X2_42_x2 hC hW dX2_all_15 ?_
    refine lv_ishl hx hb dX2_all_18 ?_
    refine lv_iconst (v := 1) hx hb dX2_all_19 (by decide) ?_
    refine lv_isub hx hb dX2_all_20 ?_
    cases h
    exact kr_iret hC hr hlocks hW dX2_all_21
  · replace h := if_n hc1 h
    refine lv_iconst (v := (-1)) hx hb dX2_all_9 (by decide) ?_
    refine lv_goto (tgt := 21) hx hb dX2_all_10 (by decide) ?_
    cases h
    exact kr_iret hC hr hlocks hW dX2_all_21
set_option maxHeartbeats 4000000 in
set_option maxRecDepth 100000 in
theorem tl_vs_wantedOf_6 (a1 : Int32) (a2 : Int32) (a3 : Int32) (hC : Cx g RX11 cX11_wantedOf 6 p s m args c) {e0 : (Int32 × Mm)} (kx0 : ∀ (ls : Array Slot) (H : Heap) (locs : List Loc), lv_has ls 6 [(4, .int e0.1)] → wP g wx A s.heap e0.2 H locs → W p l e (rmD 5) s m args below meth c H locs 0 0 Q (F0 m 61 ls [])) : ∀ (n : Nat) (q : Int32 × Int32 × Mm), miter (fun q => vs_wantedOf_b6 q.2.2 a1 a2 a3 q.1 q.2.1) n q = some e0 → ∀ (ls : Array Slot) (H : Heap) (locs : List Loc), lv_has ls 6 [(0, .ref (ad g 0)), (1, .int a1), (2, .int a2), (3, .int a3), (4, .int q.1), (5, .int q.2.1)] → wP g wx A s.heap q.2.2 H locs → W p l e (rmD 5) s m args below meth c H locs 0 0 Q (F0 m 6 ls []) := by
  obtain ⟨hx, hb, hml, hown, hts, hK, hN⟩ := id hC
  refine miter_ind (fun q r hf k1 k2 => ?_)
  obtain ⟨xs4, xs5, μ⟩ := q
  intro ls H locs hl hW
  have h : vs_wantedOf_b6 μ a1 a2 a3 xs4 xs5 = some r := hf
  unfold vs_wantedOf_b6 at h
  refine lv_iload hx hb dX11_wantedOf_6 (lv_at hl 5 rfl) ?_
  refine lv_aload_n hx hb dX11_wantedOf_8 rfl (lv_at hl 0 rfl) ?_
  refine gf_X11_19_x0 hC hW dX11_wantedOf_9 ?_
  refine gf_X11_335_x2 hC hW dX11_wantedOf_12 ?_
  refine lv_icmp_ge (tgt := 61) hx hb dX11_wantedOf_15 (by decide) (fun hc1 => ?_) (fun hc1 => ?_)
  · replace h := if_p hc1 h
    obtain rfl := k2 _ (Option.some.inj h).symm
    exact kx0 _ _ _ (lv_sub hl [4] rfl) hW
  · replace h := if_n hc1 h
    refine lv_iload_n hx hb dX11_wantedOf_18 rfl (lv_at hl 2 rfl) ?_
    refine lv_iload hx hb dX11_wantedOf_19 (lv_at hl 5 rfl) ?_
    obtain ⟨x2, hx2, h⟩ := mbv_some h
    refine kr_ci hC hW (kr_runS hC hW hl.1 (t_vs_hasBit hx2) cw_X11_320 rfl rfl (Nat.le_of_ble_eq_true rfl) dX11_wantedOf_21 (by decide)) (fun H locs hW => ?_)
    refine lv_if_eq (tgt := 55) hx hb dX11_wantedOf_24 (by decide) (fun hc3 => ?_) (fun hc3 => ?_)
    · replace h := if_p hc3 h
      refine lv_iinc (v := (xs5 + 1)) (lv' := [(5, .int (xs5 + 1)), (0, .ref (ad g 0)), (1, .int a1), (2, .int a2), (3, .int a3), (4, .int xs4)]) hx hb dX11_wantedOf_55 hl (k := 5) rfl (by rw [oi_1]) (by decide) rfl (fun ls hl => ?_)
      refine lv_goto (tgt := 6) hx hb dX11_wantedOf_58 (by decide) ?_
      exact k1 (xs4, (xs5 + 1), μ) (Option.some.inj h).symm _ _ _ (lv_sub hl [1, 2, 3, 4, 5, 0] rfl) hW
    · replace h := if_n hc3 h
      refine lv_aload_n hx hb dX11_wantedOf_27 rfl (lv_at hl 0 rfl) ?_
      refine gf_X11_56_x0 hC hW dX11_wantedOf_28 ?_
      refine lv_iload_n hx hb dX11_wantedOf_31 rfl (lv_at hl 1 rfl) ?_
      refine lv_iload hx hb dX11_wantedOf_32 (lv_at hl 5 rfl) ?_
      refine lv_iconst (v := 0) hx hb dX11_wantedOf_34 (by decide) ?_
      refine lv_aload_n hx hb dX11_wantedOf_35 rfl (lv_at hl 0 rfl) ?_
      refine gf_X11_96_x0 hC hW dX11_wantedOf_36 ?_
      obtain ⟨x4, μ5, hx4, h⟩ := mbm_some h
      refine kr_ci hC hW (kr_runV hC hW hl.1 (t_vs_Wishes_wish hx4) cw_X11_175 (wx_7 g μ) rfl rfl rfl (Nat.le_of_ble_eq_true rfl) dX11_wantedOf_39 (by decide)) (fun H locs hW => ?_)
      refine lv_iload_n hx hb dX11_wantedOf_42 rfl (lv_at hl 3 rfl) ?_
      refine lv_icmp_lt (tgt := 55) hx hb dX11_wantedOf_43 (by decide) (fun hc6 => ?_) (fun hc6 => ?_)
      · replace h := if_p hc6 h
        refine lv_iinc (v := (xs5 + 1)) (lv' := [(5, .int (xs5 + 1)), (0, .ref (ad g 0)), (1, .int a1), (2, .int a2), (3, .int a3), (4, .int xs4)]) hx hb dX11_wantedOf_55 hl (k := 5) rfl (by rw [oi_1]) (by decide) rfl (fun ls hl => ?_)
        refine lv_goto (tgt := 6) hx hb dX11_wantedOf_58 (by decide) ?_
        exact k1 (xs4, (xs5 + 1), μ5) (Option.some.inj h).symm _ _ _ (lv_sub hl [1, 2, 3, 4, 5, 0] rfl) hW
      · replace h := if_n hc6 h
        refine lv_iload hx hb dX11_wantedOf_46 (lv_at hl 4 rfl) ?_
        refine lv_iconst (v := 1) hx hb dX11_wantedOf_48 (by decide) ?_
        refine lv_iload hx hb dX11_wantedOf_49 (lv_at hl 5 rfl) ?_
        refine lv_ishl hx hb dX11_wantedOf_51 ?_
        refine lv_ior hx hb dX11_wantedOf_52 ?_
        refine lv_istore (lv' := [(4, .int (xs4 ||| ((1 : Int32) <<< (xs5 &&& 31)))), (0, .ref (ad g 0)), (1, .int a1), (2, .int a2), (3, .int a3), (5, .int xs5)]) hx hb dX11_wantedOf_53 hl (by decide) rfl (fun ls hl => ?_)
        refine lv_iinc (v := (xs5 + 1)) (lv' := [(5, .int (xs5 + 1)), (4, .int (xs4 ||| ((1 : Int32) <<< (xs5 &&& 31)))), (0, .ref (ad g 0)), (1, .int a1), (2, .int a2), (3, .int a3)]) hx hb dX11_wantedOf_55 hl (k := 5) rfl (by rw [oi_1]) (by decide) rfl (fun ls hl => ?_)
        refine lv_goto (tgt := 6) hx hb dX11_wantedOf_58 (by decide) ?_
        exact k1 ((xs4 ||| ((1 : Int32) <<< (xs5 &&& 31))), (xs5 + 1), μ5) (Option.some.inj h).symm _ _ _ (lv_sub hl [2, 3, 4, 5, 1, 0] rfl) hW
set_option maxHeartbeats 4000000 in
set_option maxRecDepth 100000 in
theorem t_vs_wantedOf {l : Launch} {g : Gx} {A : Nat → Prop} {μ : Mm} {a1 : Int32} {a2 : Int32} {a3 : Int32} {v : Int32} {u : Mm} (h : vs_wantedOf μ a1 a2 a3 = some (v, u)) : Cti l g A wx yX11_wantedOf cX11_wantedOf 6 (some .int) 5 [.ref (ad g 0), .int a1, .int a2, .int a3] μ v u := by
  refine ent (lv := [(0, .ref (ad g 0)), (1, .int a1), (2, .int a2), (3, .int a3)]) (by decide) (Nat.le_of_ble_eq_true rfl) rfl ?_
  intro p e s m args below meth c hC hr hlocks hnm hW ls hl
  replace hC : Cx g RX11 cX11_wantedOf 6 p s m args c := hC
  obtain ⟨hx, hb, hml, hown, hts, hK, hN⟩ := id hC
  unfold vs_wantedOf at h
  refine lv_iconst (v := 0) hx hb dX11_wantedOf_0 (by decide) ?_
  refine lv_istore (lv' := [(4, .int 0), (0, .ref (ad g 0)), (1, .int a1), (2, .int a2), (3, .int a3)]) hx hb dX11_wantedOf_1 hl (by decide) rfl (fun ls hl => ?_)
  refine lv_iconst (v := 0) hx hb dX11_wantedOf_3 (by decide) ?_
  refine lv_istore (lv' := [(5, .int 0), (4, .int 0), (0, .ref (ad g 0)), (1, .int a1), (2, .int a2), (3, .int a3)]) hx hb dX11_wantedOf_4 hl (by decide) rfl (fun ls hl => ?_)
  obtain ⟨e0, he9, h⟩ := mbv_some h
  obtain ⟨x7, μ8, ee, h9⟩ := un2_ex h
  clear h
  subst ee
  have h := h9
  clear h9
  refine tl_vs_wantedOf_6 a1 a2 a3 hC (fun ls H locs hl hW => ?_) FU (0, 0, μ) he9 _ _ _ (lv_sub hl [2, 3, 4, 5, 1, 0] rfl) hW
  refine lv_iload hx hb dX11_wantedOf_61 (lv_at hl 0 rfl) ?_
  cases h
  exact kr_iret hC hr hlocks hW dX11_wantedOf_63
set_option maxHeartbeats 4000000 in
set_option maxRecDepth 100000 in
theorem tl_vs_Arrays_fill_53178_62_5 (a1 : Int32) (a3 : Int32) (hC : Cx g RJ7 cJ7_fill_53178 4 p s m args c) {e0 : (Mm)} (kx0 : ∀ (ls : Array Slot) (H : Heap) (locs : List Loc), lv_has ls 4 [] → wP g wx A s.heap e0 H locs → W p l e (rmD 0) s m args below meth c H locs 0 0 Q (F0 m 20 ls [])) : ∀ (n : Nat) (q : Int32 × Mm), miter (fun q => vs_Arrays_fill_53178_62_b5 q.2 a1 a3 q.1) n q = some e0 → ∀ (ls : Array Slot) (H : Heap) (locs : List Loc), lv_has ls 4 [(0, .ref (ad g 62)), (1, .int a1), (2, .int q.1), (3, .int a3)] → wP g wx A s.heap q.2 H locs → W p l e (rmD 0) s m args below meth c H locs 0 0 Q (F0 m 5 ls []) := by
  obtain ⟨hx, hb, hml, hown, hts, hK, hN⟩ := id hC
  refine miter_ind (fun q r hf k1 k2 => ?_)
  obtain ⟨xs2, μ⟩ := q
  intro ls H locs hl hW
  have h : vs_Arrays_fill_53178_62_b5 μ a1 a3 xs2 = some r := hf
  unfold vs_Arrays_fill_53178_62_b5 at h
  refine lv_iload_n hx hb dJ7_fill_53178_5 rfl (lv_at hl 2 rfl) ?_
  refine lv_iload_n hx hb dJ7_fill_53178_6 rfl (lv_at hl 3 rfl) ?_
  refine lv_icmp_ge (tgt := 20) hx hb dJ7_fill_53178_7 (by decide) (fun hc1 => ?_) (fun hc1 => ?_)
  · replace h := if_p hc1 h
    obtain rfl := k2 _ (Option.some.inj h).symm
    exact kx0 _ _ _ (lv_sub hl [] rfl) hW
  · replace h := if_n hc1 h
    refine lv_aload_n hx hb dJ7_fill_53178_10 rfl (lv_at hl 0 rfl) ?_
    refine lv_iload_n hx hb dJ7_fill_53178_11 rfl (lv_at hl 2 rfl) ?_
    refine lv_iload_n hx hb dJ7_fill_53178_12 rfl (lv_at hl 1 rfl) ?_
    obtain ⟨μ2, eμ2, hin, h⟩ := mwr_ex h
    refine kr_iast hC hW (wx_62 g μ) (wxs_62 eμ2) hin dJ7_fill_53178_13 (fun H locs hW => ?_)
    refine lv_iinc (v := (xs2 + 1)) (lv' := [(2, .int (xs2 + 1)), (0, .ref (ad g 62)), (1, .int a1), (3, .int a3)]) hx hb dJ7_fill_53178_14 hl (k := 2) rfl (by rw [oi_1]) (by decide) rfl (fun ls hl => ?_)
    refine lv_goto (tgt := 5) hx hb dJ7_fill_53178_17 (by decide) ?_
    exact k1 ((xs2 + 1), μ2) (Option.some.inj h).symm _ _ _ (lv_sub hl [1, 2, 0, 3] rfl) hW
set_option maxHeartbeats 4000000 in
set_option maxRecDepth 100000 in
theorem t_vs_Arrays_fill_53178_62 {l : Launch} {g : Gx} {A : Nat → Prop} {μ : Mm} {a1 : Int32} {u : Mm} (h : vs_Arrays_fill_53178_62 μ a1 = some u) : Ctv l g A wx yJ7_fill_53178 cJ7_fill_53178 4 none 0 [.ref (ad g 62), .int a1] μ u := by
  refine ent (lv := [(0, .ref (ad g 62)), (1, .int a1)]) (by decide) (Nat.le_of_ble_eq_true rfl) rfl ?_
  intro p e s m args below meth c hC hr hlocks hnm hW ls hl
  replace hC : Cx g RJ7 cJ7_fill_53178 4 p s m args c := hC
  obtain ⟨hx, hb, hml, hown, hts, hK, hN⟩ := id hC
  unfold vs_Arrays_fill_53178_62 at h
  refine lv_iconst (v := 0) hx hb dJ7_fill_53178_0 (by decide) ?_
  refine lv_istore_n (lv' := [(2, .int 0), (0, .ref (ad g 62)), (1, .int a1)]) hx hb dJ7_fill_53178_1 rfl hl (by decide) rfl (fun ls hl => ?_)
  refine lv_aload_n hx hb dJ7_fill_53178_2 rfl (lv_at hl 1 rfl) ?_
  refine kr_alen (v := 32) hC hW (wx_62 g μ) (by decide) dJ7_fill_53178_3 ?_
  refine lv_istore_n (lv' := [(3, .int 32), (2, .int 0), (0, .ref (ad g 62)), (1, .int a1)]) hx hb dJ7_fill_53178_4 rfl hl (by decide) rfl (fun ls hl => ?_)
  obtain ⟨μ3, he4, h⟩ := mbv_some h
  refine tl_vs_Arrays_fill_53178_62_5 a1 32 hC (fun ls H locs hl hW => ?_) FU (0, μ) he4 _ _ _ (lv_sub hl [2, 3, 1, 0] rfl) hW
  cases h
  exact kr_vret hC hr hlocks hW dJ7_fill_53178_20
set_option maxHeartbeats 4000000 in
set_option maxRecDepth 100000 in
theorem tl_vs_Serving_canServe_10 {rc : Nat → Mm → Int32 → Int32 → Option (Bool × Mm)} {dd : Nat} (hdd : 1 ≤ dd) (hrc : (∀ (μ : Mm) (a1 : Int32) (a2 : Int32) (v : Bool) (u : Mm), rc 0 μ a1 a2 = some (v, u) → Cti l g A wx yX7_canServe cX7_canServe 4 (some .boolean) dd [.ref (ad g 9), .int a1, .int a2] μ (bI v) u)) (a1 : Int32) (a2 : Int32) (hC : Cx g RX7 cX7_canServe 4 p s m args c) {e0 : (Int32 × Mm) ⊕ (Mm)} (kx0 : (Sum.elim (fun a => ∀ (ls : Array Slot) (H : Heap) (locs : List Loc), lv_has ls 4 [(0, .ref (ad g 9)), (1, .int a1), (3, .int a.1)] → wP g wx A s.heap a.2 H locs → W p l e (rmD (dd + 1)) s m args below meth c H locs 0 0 Q (F0 m 78 ls [])) (fun _ => True)) e0) (kx1 : (Sum.elim (fun _ => True) (fun a => ∀ (ls : Array Slot) (H : Heap) (locs : List Loc), lv_has ls 4 [] → wP g wx A s.heap a H locs → W p l e (rmD (dd + 1)) s m args below meth c H locs 0 0 Q (F0 m 93 ls []))) e0) : ∀ (n : Nat) (q : Int32 × Mm), miter (fun q => vs_Serving_canServe_b10 rc q.2 a1 a2 q.1) n q = some e0 → ∀ (ls : Array Slot) (H : Heap) (locs : List Loc), lv_has ls 4 [(0, .ref (ad g 9)), (1, .int a1), (2, .int a2), (3, .int q.1)] → wP g wx A s.heap q.2 H locs → W p l e (rmD (dd + 1)) s m args below meth c H locs 0 0 Q (F0 m 10 ls []) := by
  obtain ⟨hx, hb, hml, hown, hts, hK, hN⟩ := id hC
  refine miter_ind (fun q r hf k1 k2 => ?_)
  obtain ⟨xs3, μ⟩ := q
  intro ls H locs hl hW
  have h : vs_Serving_canServe_b10 rc μ a1 a2 xs3 = some r := hf
  unfold vs_Serving_canServe_b10 at h
  refine lv_iload_n hx hb dX7_canServe_10 rfl (lv_at hl 3 rfl) ?_
  refine lv_bipush (v := 32) hx hb dX7_canServe_11 (by decide) ?_
  refine lv_icmp_ge (tgt := 93) hx hb dX7_canServe_13 (by decide) (fun hc2 => ?_) (fun hc2 => ?_)
  · replace h := if_p hc2 h
    obtain rfl := k2 _ (Option.some.inj h).symm
    exact kx1 _ _ _ (lv_sub hl [] rfl) hW
  · replace h := if_n hc2 h
    refine lv_aload_n hx hb dX7_canServe_16 rfl (lv_at hl 0 rfl) ?_
    refine gf_X7_27_x9 hC hW dX7_canServe_17 ?_
    refine lv_iload_n hx hb dX7_canServe_20 rfl (lv_at hl 1 rfl) ?_
    obtain ⟨x3, ex3, hin, h⟩ := mrd_ex h
    refine kr_iald hC hW (wx_61 g μ) hin ex3 dX7_canServe_21 ?_
    refine lv_iload_n hx hb dX7_canServe_22 rfl (lv_at hl 3 rfl) ?_
    obtain ⟨x4, hx4, h⟩ := mbv_some h
    refine kr_ci hC hW (kr_runN hC hW hl.1 (t_vs_hasBit hx4) cw_X7_71 rfl rfl (Nat.le_of_ble_eq_true rfl) dX7_canServe_23 (by omega)) (fun H locs hW => ?_)
    refine lv_if_eq (tgt := 87) hx hb dX7_canServe_26 (by decide) (fun hc5 => ?_) (fun hc5 => ?_)
    · replace h := if_p hc5 h
      refine lv_iinc (v := (xs3 + 1)) (lv' := [(3, .int (xs3 + 1)), (0, .ref (ad g 9)), (1, .int a1), (2, .int a2)]) hx hb dX7_canServe_87 hl (k := 3) rfl (by rw [oi_1]) (by decide) rfl (fun ls hl => ?_)
      refine lv_goto (tgt := 10) hx hb dX7_canServe_90 (by decide) ?_
      exact k1 ((xs3 + 1), μ) (Option.some.inj h).symm _ _ _ (lv_sub hl [1, 2, 3, 0] rfl) hW
    · replace h := if_n hc5 h
      refine lv_aload_n hx hb dX7_canServe_29 rfl (lv_at hl 0 rfl) ?_
      refine gf_X7_93_x9 hC hW dX7_canServe_30 ?_
      refine lv_iload_n hx hb dX7_canServe_33 rfl (lv_at hl 3 rfl) ?_
      obtain ⟨x6, hx6, h⟩ := mbv_some h
      refine kr_ci hC hW (kr_runN hC hW hl.1 (t_vs_hasBit hx6) cw_X7_71 rfl rfl (Nat.le_of_ble_eq_true rfl) dX7_canServe_34 (by omega)) (fun H locs hW => ?_)
      refine lv_if_ne (tgt := 87) hx hb dX7_canServe_37 (by decide) (fun hc7 => ?_) (fun hc7 => ?_)
      · replace h := if_n hc7 h
        refine lv_iinc (v := (xs3 + 1)) (lv' := [(3, .int (xs3 + 1)), (0, .ref (ad g 9)), (1, .int a1), (2, .int a2)]) hx hb dX7_canServe_87 hl (k := 3) rfl (by rw [oi_1]) (by decide) rfl (fun ls hl => ?_)
        refine lv_goto (tgt := 10) hx hb dX7_canServe_90 (by decide) ?_
        exact k1 ((xs3 + 1), μ) (Option.some.inj h).symm _ _ _ (lv_sub hl [1, 2, 3, 0] rfl) hW
      · replace h := if_p hc7 h
        refine lv_aload_n hx hb dX7_canServe_40 rfl (lv_at hl 0 rfl) ?_
        refine lv_dup hx hb dX7_canServe_41 rfl ?_
        refine gf_X7_93_x9 hC hW dX7_canServe_42 ?_
        refine lv_iconst (v := 1) hx hb dX7_canServe_45 (by decide) ?_
        refine lv_iload_n hx hb dX7_canServe_46 rfl (lv_at hl 3 rfl) ?_
        refine lv_ishl hx hb dX7_canServe_47 ?_
        refine lv_ior hx hb dX7_canServe_48 ?_
        obtain ⟨μ8, eμ8, h⟩ := mst_some h
        refine pf_X7_93_x9 hC hW eμ8 dX7_canServe_49 (fun H locs hW => ?_)
        refine lv_aload_n hx hb dX7_canServe_52 rfl (lv_at hl 0 rfl) ?_
        refine gf_X7_30_x9 hC hW dX7_canServe_53 ?_
        refine lv_iload_n hx hb dX7_canServe_56 rfl (lv_at hl 3 rfl) ?_
        obtain ⟨x9, ex9, hin, h⟩ := mrd_ex h
        refine kr_iald hC hW (wx_62 g μ8) hin ex9 dX7_canServe_57 ?_
        refine lv_iconst (v := (-1)) hx hb dX7_canServe_58 (by decide) ?_
        refine lv_icmp_eq (tgt := 78) hx hb dX7_canServe_59 (by decide) (fun hc10 => ?_) (fun hc10 => ?_)
        · replace h := if_p hc10 h
          obtain rfl := k2 _ (Option.some.inj h).symm
          exact kx0 _ _ _ (lv_sub hl [0, 1, 3] rfl) hW
        · replace h := if_n hc10 h
          refine lv_aload_n hx hb dX7_canServe_62 rfl (lv_at hl 0 rfl) ?_
          refine lv_aload_n hx hb dX7_canServe_63 rfl (lv_at hl 0 rfl) ?_
          refine gf_X7_30_x9 hC hW dX7_canServe_64 ?_
          refine lv_iload_n hx hb dX7_canServe_67 rfl (lv_at hl 3 rfl) ?_
          obtain ⟨x11, ex11, hin, h⟩ := mrd_ex h
          refine kr_iald hC hW (wx_62 g μ8) hin ex11 dX7_canServe_68 ?_
          refine lv_iload_n hx hb dX7_canServe_69 rfl (lv_at hl 2 rfl) ?_
          refine lv_iconst (v := 1) hx hb dX7_canServe_70 (by decide) ?_
          refine lv_iadd hx hb dX7_canServe_71 ?_
          obtain ⟨x12, μ13, hx12, h⟩ := mbm_some h
          refine kr_ci hC hW (kr_runV hC hW hl.1 (hrc _ _ _ _ _ hx12) cw_X7_96 (wx_9 g μ8) rfl rfl rfl (Nat.le_of_ble_eq_true rfl) dX7_canServe_72 (by omega)) (fun H locs hW => ?_)
          refine lv_if_eq (tgt := 87) hx hb dX7_canServe_75 (by decide) (fun hc14 => ?_) (fun hc14 => ?_)
          · replace h := if_p hc14 h
            refine lv_iinc (v := (xs3 + 1)) (lv' := [(3, .int (xs3 + 1)), (0, .ref (ad g 9)), (1, .int a1), (2, .int a2)]) hx hb dX7_canServe_87 hl (k := 3) rfl (by rw [oi_1]) (by decide) rfl (fun ls hl => ?_)
            refine lv_goto (tgt := 10) hx hb dX7_canServe_90 (by decide) ?_
            exact k1 ((xs3 + 1), μ13) (Option.some.inj h).symm _ _ _ (lv_sub hl [1, 2, 3, 0] rfl) hW
          · replace h := if_n hc14 h
            obtain rfl := k2 _ (Option.some.inj h).symm
            exact kx0 _ _ _ (lv_sub hl [0, 1, 3] rfl) hW
set_option maxHeartbeats 4000000 in
set_option maxRecDepth 100000 in
theorem t_vs_Serving_canServe_r {l : Launch} {g : Gx} {A : Nat → Prop} {rc : Nat → Mm → Int32 → Int32 → Option (Bool × Mm)} {dd : Nat} (hdd : 1 ≤ dd) (hrc : (∀ (μ : Mm) (a1 : Int32) (a2 : Int32) (v : Bool) (u : Mm), rc 0 μ a1 a2 = some (v, u) → Cti l g A wx yX7_canServe cX7_canServe 4 (some .boolean) dd [.ref (ad g 9), .int a1, .int a2] μ (bI v) u)) {μ : Mm} {a1 : Int32} {a2 : Int32} {v : Bool} {u : Mm} (h : vs_Serving_canServe_r rc μ a1 a2 = some (v, u)) : Cti l g A wx yX7_canServe cX7_canServe 4 (some .boolean) (dd + 1) [.ref (ad g 9), .int a1, .int a2] μ (bI v) u := by
  refine ent (lv := [(0, .ref (ad g 9)), (1, .int a1), (2, .int a2)]) (by decide) (Nat.le_of_ble_eq_true rfl) rfl ?_
  intro p e s m args below meth c hC hr hlocks hnm hW ls hl
  replace hC : Cx g RX7 cX7_canServe 4 p s m args c := hC
  obtain ⟨hx, hb, hml, hown, hts, hK, hN⟩ := id hC
  unfold vs_Serving_canServe_r at h
  refine lv_iload_n hx hb dX7_canServe_0 rfl (lv_at hl 2 rfl) ?_
  refine lv_bipush (v := 16) hx hb dX7_canServe_1 (by decide) ?_
  refine lv_icmp_le (tgt := 8) hx hb dX7_canServe_3 (by decide) (fun hc1 => ?_) (fun hc1 => ?_)
  · replace h := if_p hc1 h
    refine lv_iconst (v := 0) hx hb dX7_canServe_8 (by decide) ?_
    refine lv_istore_n (lv' := [(3, .int 0), (0, .ref (ad g 9)), (1, .int a1), (2, .int a2)]) hx hb dX7_canServe_9 rfl hl (by decide) rfl (fun ls hl => ?_)
    rcases msum2_ex h with ⟨e0, he15, h⟩ | ⟨μ19, he15, h⟩
    · obtain ⟨x16, μ17, ee, h9⟩ := un2_ex h
      clear h
      subst ee
      have h := h9
      clear h9
      refine tl_vs_Serving_canServe_10 hdd hrc a1 a2 hC (e0 := (.inl (x16, μ17))) (fun ls H locs hl hW => ?_) trivial FU (0, μ) he15 _ _ _ (lv_sub hl [1, 2, 3, 0] rfl) hW
      refine lv_aload_n hx hb dX7_canServe_78 rfl (lv_at hl 0 rfl) ?_
      refine gf_X7_30_x9 hC hW dX7_canServe_79 ?_
      refine lv_iload_n hx hb dX7_canServe_82 rfl (lv_at hl 2 rfl) ?_
      refine lv_iload_n hx hb dX7_canServe_83 rfl (lv_at hl 1 rfl) ?_
      obtain ⟨μ18, eμ18, hin, h⟩ := mwr_ex h
      refine kr_iast hC hW (wx_62 g μ17) (wxs_62 eμ18) hin dX7_canServe_84 (fun H locs hW => ?_)
      refine lv_iconst (v := 1) hx hb dX7_canServe_85 (by decide) ?_
      cases h
      exact kr_zret hC hr hlocks _ rfl hW dX7_canServe_86
    · refine tl_vs_Serving_canServe_10 hdd hrc a1 a2 hC (e0 := (.inr μ19)) trivial (fun ls H locs hl hW => ?_) FU (0, μ) he15 _ _ _ (lv_sub hl [1, 2, 3, 0] rfl) hW
      refine lv_iconst (v := 0) hx hb dX7_canServe_93 (by decide) ?_
      cases h
      exact kr_zret hC hr hlocks _ rfl hW dX7_canServe_94
  · replace h := if_n hc1 h
    refine lv_iconst (v := 0) hx hb dX7_canServe_6 (by decide) ?_
    cases h
    exact kr_zret hC hr hlocks _ rfl hW dX7_canServe_7
set_option maxHeartbeats 4000000 in
set_option maxRecDepth 100000 in
theorem t_vs_Serving_rec {l : Launch} {g : Gx} {A : Nat → Prop} : ∀ n : Nat, (∀ (μ : Mm) (a1 : Int32) (a2 : Int32) (v : Bool) (u : Mm), vs_Serving_rec n 0 μ a1 a2 = some (v, u) → Cti l g A wx yX7_canServe cX7_canServe 4 (some .boolean) (1 + n) [.ref (ad g 9), .int a1, .int a2] μ (bI v) u)
  | 0 => by exact fun _ _ _ _ _ h => (nomatch (show (none : Option (Bool × Mm)) = some _ from h))
  | n + 1 => by exact fun _ _ _ _ _ h => t_vs_Serving_canServe_r (dd := 1 + n) (by omega) (t_vs_Serving_rec n) h
theorem t_vs_Serving_rec_canServe {l : Launch} {g : Gx} {A : Nat → Prop} {μ : Mm} {a1 : Int32} {a2 : Int32} {v : Bool} {u : Mm} (h : vs_Serving_rec RF 0 μ a1 a2 = some (v, u)) : Cti l g A wx yX7_canServe cX7_canServe 4 (some .boolean) 41 [.ref (ad g 9), .int a1, .int a2] μ (bI v) u := (t_vs_Serving_rec RF) _ _ _ _ _ h
set_option maxHeartbeats 4000000 in
set_option maxRecDepth 100000 in
theorem tl_vs_Serving_mostReaders_12 (hC : Cx g RX7 cX7_mostReaders 3 p s m args c) {e0 : (Int32 × Mm)} (kx0 : ∀ (ls : Array Slot) (H : Heap) (locs : List Loc), lv_has ls 3 [(1, .int e0.1)] → wP g wx A s.heap e0.2 H locs → W p l e (rmD 42) s m args below meth c H locs 0 0 Q (F0 m 41 ls [])) : ∀ (n : Nat) (q : Int32 × Int32 × Mm), miter (fun q => vs_Serving_mostReaders_b12 q.2.2 q.1 q.2.1) n q = some e0 → ∀ (ls : Array Slot) (H : Heap) (locs : List Loc), lv_has ls 3 [(0, .ref (ad g 9)), (1, .int q.1), (2, .int q.2.1)] → wP g wx A s.heap q.2.2 H locs → W p l e (rmD 42) s m args below meth c H locs 0 0 Q (F0 m 12 ls []) := by
  obtain ⟨hx, hb, hml, hown, hts, hK, hN⟩ := id hC
  refine miter_ind (fun q r hf k1 k2 => ?_)
  obtain ⟨xs1, xs2, μ⟩ := q
  intro ls H locs hl hW
  have h : vs_Serving_mostReaders_b12 μ xs1 xs2 = some r := hf
  unfold vs_Serving_mostReaders_b12 at h
  refine lv_iload_n hx hb dX7_mostReaders_12 rfl (lv_at hl 2 rfl) ?_
  refine lv_bipush (v := 16) hx hb dX7_mostReaders_13 (by decide) ?_
  refine lv_icmp_ge (tgt := 41) hx hb dX7_mostReaders_15 (by decide) (fun hc3 => ?_) (fun hc3 => ?_)
  · replace h := if_p hc3 h
    obtain rfl := k2 _ (Option.some.inj h).symm
    exact kx0 _ _ _ (lv_sub hl [1] rfl) hW
  · replace h := if_n hc3 h
    refine lv_aload_n hx hb dX7_mostReaders_18 rfl (lv_at hl 0 rfl) ?_
    refine lv_iconst (v := 0) hx hb dX7_mostReaders_19 (by decide) ?_
    obtain ⟨μ4, eμ4, h⟩ := mst_some h
    refine pf_X7_93_x9 hC hW eμ4 dX7_mostReaders_20 (fun H locs hW => ?_)
    refine lv_aload_n hx hb dX7_mostReaders_23 rfl (lv_at hl 0 rfl) ?_
    refine lv_iload_n hx hb dX7_mostReaders_24 rfl (lv_at hl 2 rfl) ?_
    refine lv_iconst (v := 0) hx hb dX7_mostReaders_25 (by decide) ?_
    obtain ⟨x5, μ6, hx5, h⟩ := mbm_some h
    refine kr_ci hC hW (kr_runV hC hW hl.1 (t_vs_Serving_rec_canServe hx5) cw_X7_96 (wx_9 g μ4) rfl rfl rfl (Nat.le_of_ble_eq_true rfl) dX7_mostReaders_26 (by decide)) (fun H locs hW => ?_)
    refine lv_if_eq (tgt := 35) hx hb dX7_mostReaders_29 (by decide) (fun hc7 => ?_) (fun hc7 => ?_)
    · replace h := if_p hc7 h
      refine lv_iinc (v := (xs2 + 1)) (lv' := [(2, .int (xs2 + 1)), (0, .ref (ad g 9)), (1, .int xs1)]) hx hb dX7_mostReaders_35 hl (k := 2) rfl (by rw [oi_1]) (by decide) rfl (fun ls hl => ?_)
      refine lv_goto (tgt := 12) hx hb dX7_mostReaders_38 (by decide) ?_
      exact k1 (xs1, (xs2 + 1), μ6) (Option.some.inj h).symm _ _ _ (lv_sub hl [1, 2, 0] rfl) hW
    · replace h := if_n hc7 h
      refine lv_iinc (v := (xs1 + 1)) (lv' := [(1, .int (xs1 + 1)), (0, .ref (ad g 9)), (2, .int xs2)]) hx hb dX7_mostReaders_32 hl (k := 1) rfl (by rw [oi_1]) (by decide) rfl (fun ls hl => ?_)
      refine lv_iinc (v := (xs2 + 1)) (lv' := [(2, .int (xs2 + 1)), (1, .int (xs1 + 1)), (0, .ref (ad g 9))]) hx hb dX7_mostReaders_35 hl (k := 2) rfl (by rw [oi_1]) (by decide) rfl (fun ls hl => ?_)
      refine lv_goto (tgt := 12) hx hb dX7_mostReaders_38 (by decide) ?_
      exact k1 ((xs1 + 1), (xs2 + 1), μ6) (Option.some.inj h).symm _ _ _ (lv_sub hl [2, 1, 0] rfl) hW
set_option maxHeartbeats 4000000 in
set_option maxRecDepth 100000 in
theorem t_vs_Serving_mostReaders {l : Launch} {g : Gx} {A : Nat → Prop} {μ : Mm} {v : Int32} {u : Mm} (h : vs_Serving_mostReaders μ = some (v, u)) : Cti l g A wx yX7_mostReaders cX7_mostReaders 3 (some .int) 42 [.ref (ad g 9)] μ v u := by
  refine ent (lv := [(0, .ref (ad g 9))]) (by decide) (Nat.le_of_ble_eq_true rfl) rfl ?_
  intro p e s m args below meth c hC hr hlocks hnm hW ls hl
  replace hC : Cx g RX7 cX7_mostReaders 3 p s m args c := hC
  obtain ⟨hx, hb, hml, hown, hts, hK, hN⟩ := id hC
  unfold vs_Serving_mostReaders at h
  refine lv_iconst (v := 0) hx hb dX7_mostReaders_0 (by decide) ?_
  refine lv_istore_n (lv' := [(1, .int 0), (0, .ref (ad g 9))]) hx hb dX7_mostReaders_1 rfl hl (by decide) rfl (fun ls hl => ?_)
  refine lv_aload_n hx hb dX7_mostReaders_2 rfl (lv_at hl 1 rfl) ?_
  refine gf_X7_30_x9 hC hW dX7_mostReaders_3 ?_
  refine lv_iconst (v := (-1)) hx hb dX7_mostReaders_6 (by decide) ?_
  obtain ⟨μ2, hxμ2, h⟩ := mbv_some h
  refine kr_cv hC hW (kr_runS hC hW hl.1 (t_vs_Arrays_fill_53178_62 hxμ2) cw_X7_87 rfl rfl (Nat.le_of_ble_eq_true rfl) dX7_mostReaders_7 (by decide)) (fun H locs hW => ?_)
  refine lv_iconst (v := 0) hx hb dX7_mostReaders_10 (by decide) ?_
  refine lv_istore_n (lv' := [(2, .int 0), (1, .int 0), (0, .ref (ad g 9))]) hx hb dX7_mostReaders_11 rfl hl (by decide) rfl (fun ls hl => ?_)
  obtain ⟨e0, he10, h⟩ := mbv_some h
  obtain ⟨x8, μ9, ee, h9⟩ := un2_ex h
  clear h
  subst ee
  have h := h9
  clear h9
  refine tl_vs_Serving_mostReaders_12 hC (fun ls H locs hl hW => ?_) FU (0, 0, μ2) he10 _ _ _ (lv_sub hl [2, 1, 0] rfl) hW
  refine lv_iload_n hx hb dX7_mostReaders_41 rfl (lv_at hl 0 rfl) ?_
  cases h
  exact kr_iret hC hr hlocks hW dX7_mostReaders_42
set_option maxHeartbeats 4000000 in
set_option maxRecDepth 100000 in
theorem tl_vs_served_62 (a4 : Int32) (a5 : Int32) (a6 : Int32) (hC : Cx g RX11 cX11_served 8 p s m args c) {e0 : (Mm)} (kx0 : ∀ (ls : Array Slot) (H : Heap) (locs : List Loc), lv_has ls 8 [(0, .ref (ad g 0))] → wP g wx A s.heap e0 H locs → W p l e (rmD 43) s m args below meth c H locs 0 0 Q (F0 m 109 ls [])) : ∀ (n : Nat) (q : Int32 × Mm), miter (fun q => vs_served_b62 q.2 a4 a5 a6 q.1) n q = some e0 → ∀ (ls : Array Slot) (H : Heap) (locs : List Loc), lv_has ls 8 [(0, .ref (ad g 0)), (4, .int a4), (5, .int a5), (6, .int a6), (7, .int q.1)] → wP g wx A s.heap q.2 H locs → W p l e (rmD 43) s m args below meth c H locs 0 0 Q (F0 m 62 ls []) := by
  obtain ⟨hx, hb, hml, hown, hts, hK, hN⟩ := id hC
  refine miter_ind (fun q r hf k1 k2 => ?_)
  obtain ⟨xs7, μ⟩ := q
  intro ls H locs hl hW
  have h : vs_served_b62 μ a4 a5 a6 xs7 = some r := hf
  unfold vs_served_b62 at h
  refine lv_iload hx hb dX11_served_62 (lv_at hl 4 rfl) ?_
  refine lv_bipush (v := 16) hx hb dX11_served_64 (by decide) ?_
  refine lv_icmp_ge (tgt := 109) hx hb dX11_served_66 (by decide) (fun hc10 => ?_) (fun hc10 => ?_)
  · replace h := if_p hc10 h
    obtain rfl := k2 _ (Option.some.inj h).symm
    exact kx0 _ _ _ (lv_sub hl [0] rfl) hW
  · replace h := if_n hc10 h
    refine lv_aload_n hx hb dX11_served_69 rfl (lv_at hl 0 rfl) ?_
    refine gf_X11_72_x0 hC hW dX11_served_70 ?_
    refine gf_X11_317_x9 hC hW dX11_served_73 ?_
    refine lv_iload hx hb dX11_served_76 (lv_at hl 4 rfl) ?_
    refine lv_iload hx hb dX11_served_78 (lv_at hl 3 rfl) ?_
    refine lv_iload hx hb dX11_served_80 (lv_at hl 4 rfl) ?_
    obtain ⟨x11, hx11, h⟩ := mbv_some h
    refine kr_ci hC hW (kr_runS hC hW hl.1 (t_vs_hasBit hx11) cw_X11_320 rfl rfl (Nat.le_of_ble_eq_true rfl) dX11_served_82 (by decide)) (fun H locs hW => ?_)
    refine lv_if_eq (tgt := 101) hx hb dX11_served_85 (by decide) (fun hc12 => ?_) (fun hc12 => ?_)
    · replace h := if_p hc12 h
      refine lv_iconst (v := 0) hx hb dX11_served_101 (by decide) ?_
      obtain ⟨μ13, eμ13, hin, h⟩ := mwr_ex h
      refine kr_iast hC hW (wx_61 g μ) (wxs_61 eμ13) hin dX11_served_102 (fun H locs hW => ?_)
      refine lv_iinc (v := (xs7 + 1)) (lv' := [(7, .int (xs7 + 1)), (0, .ref (ad g 0)), (4, .int a4), (5, .int a5), (6, .int a6)]) hx hb dX11_served_103 hl (k := 4) rfl (by rw [oi_1]) (by decide) rfl (fun ls hl => ?_)
      refine lv_goto (tgt := 62) hx hb dX11_served_106 (by decide) ?_
      exact k1 ((xs7 + 1), μ13) (Option.some.inj h).symm _ _ _ (lv_sub hl [1, 2, 3, 4, 0] rfl) hW
    · replace h := if_n hc12 h
      refine lv_aload_n hx hb dX11_served_88 rfl (lv_at hl 0 rfl) ?_
      refine lv_iload hx hb dX11_served_89 (lv_at hl 4 rfl) ?_
      refine lv_iload hx hb dX11_served_91 (lv_at hl 2 rfl) ?_
      refine lv_iload hx hb dX11_served_93 (lv_at hl 1 rfl) ?_
      obtain ⟨x14, μ15, hx14, h⟩ := mbm_some h
      refine kr_ci hC hW (kr_runV hC hW hl.1 (t_vs_wantedOf hx14) cw_X11_323 (wx_0 g μ) rfl rfl rfl (Nat.le_of_ble_eq_true rfl) dX11_served_95 (by decide)) (fun H locs hW => ?_)
      refine lv_goto (tgt := 102) hx hb dX11_served_98 (by decide) ?_
      obtain ⟨μ16, eμ16, hin, h⟩ := mwr_ex h
      refine kr_iast hC hW (wx_61 g μ15) (wxs_61 eμ16) hin dX11_served_102 (fun H locs hW => ?_)
      refine lv_iinc (v := (xs7 + 1)) (lv' := [(7, .int (xs7 + 1)), (0, .ref (ad g 0)), (4, .int a4), (5, .int a5), (6, .int a6)]) hx hb dX11_served_103 hl (k := 4) rfl (by rw [oi_1]) (by decide) rfl (fun ls hl => ?_)
      refine lv_goto (tgt := 62) hx hb dX11_served_106 (by decide) ?_
      exact k1 ((xs7 + 1), μ16) (Option.some.inj h).symm _ _ _ (lv_sub hl [1, 2, 3, 4, 0] rfl) hW
set_option maxHeartbeats 4000000 in
set_option maxRecDepth 100000 in
theorem t_vs_served {l : Launch} {g : Gx} {A : Nat → Prop} {μ : Mm} {a1 : Int32} {a2 : Int64} {a4 : Int32} {v : Int32} {u : Mm} (h : vs_served μ a1 a2 a4 = some (v, u)) : Cti l g A wx yX11_served cX11_served 8 (some .int) 43 [.ref (ad g 0), .int a1, .long a2, .int a4] μ v u := by
  refine ent (lv := [(0, .ref (ad g 0)), (1, .int a1), (2, .long a2), (4, .int a4)]) (by decide) (Nat.le_of_ble_eq_true rfl) rfl ?_
  intro p e s m args below meth c hC hr hlocks hnm hW ls hl
  replace hC : Cx g RX11 cX11_served 8 p s m args c := hC
  obtain ⟨hx, hb, hml, hown, hts, hK, hN⟩ := id hC
  unfold vs_served at h
  refine lv_iload_n hx hb dX11_served_0 rfl (lv_at hl 1 rfl) ?_
  obtain ⟨x1, hx1, h⟩ := mbv_some h
  refine kr_ci hC hW (kr_runS hC hW hl.1 (t_vs_isVan hx1) cw_X11_108 rfl rfl (Nat.le_of_ble_eq_true rfl) dX11_served_1 (by decide)) (fun H locs hW => ?_)
  refine lv_if_eq (tgt := 29) hx hb dX11_served_4 (by decide) (fun hc2 => ?_) (fun hc2 => ?_)
  · replace h := if_p hc2 h
    refine lv_iconst (v := (-1)) hx hb dX11_served_29 (by decide) ?_
    cases h
    exact kr_iret hC hr hlocks hW dX11_served_30
  · replace h := if_n hc2 h
    refine lv_iload hx hb dX11_served_7 (lv_at hl 3 rfl) ?_
    obtain ⟨x3, hx3, h⟩ := mbv_some h
    refine kr_ci hC hW (kr_runS hC hW hl.1 (t_vs_isMuch hx3) cw_X11_289 rfl rfl (Nat.le_of_ble_eq_true rfl) dX11_served_9 (by decide)) (fun H locs hW => ?_)
    refine lv_if_eq (tgt := 29) hx hb dX11_served_12 (by decide) (fun hc4 => ?_) (fun hc4 => ?_)
    · replace h := if_p hc4 h
      refine lv_iconst (v := (-1)) hx hb dX11_served_29 (by decide) ?_
      cases h
      exact kr_iret hC hr hlocks hW dX11_served_30
    · replace h := if_n hc4 h
      refine lv_lload_n hx hb dX11_served_15 rfl (lv_at hl 2 rfl) ?_
      refine lv_lconst (v := 0) hx hb dX11_served_16 (by decide) ?_
      refine W.lcmp hx hb dX11_served_17 ?_
      refine lv_if_lt (tgt := 29) hx hb dX11_served_18 (by decide) (fun hc5 => ?_) (fun hc5 => ?_)
      · replace h := if_p hc5 h
        refine lv_iconst (v := (-1)) hx hb dX11_served_29 (by decide) ?_
        cases h
        exact kr_iret hC hr hlocks hW dX11_served_30
      · replace h := if_n hc5 h
        refine lv_lload_n hx hb dX11_served_21 rfl (lv_at hl 2 rfl) ?_
        refine lv_ldc2 hx hb hown (hts _ tw_841) dX11_served_22 ?_
        refine W.lcmp hx hb dX11_served_25 ?_
        refine lv_if_le (tgt := 31) hx hb dX11_served_26 (by decide) (fun hc6 => ?_) (fun hc6 => ?_)
        · replace h := if_p hc6 h
          refine lv_lload_n hx hb dX11_served_31 rfl (lv_at hl 2 rfl) ?_
          refine lv_l2i (v := (a2 : Int64).toInt32) hx hb dX11_served_32 rfl ?_
          refine lv_istore (lv' := [(5, .int ((a2 : Int64).toInt32)), (0, .ref (ad g 0)), (1, .int a1), (2, .long a2), (4, .int a4)]) hx hb dX11_served_33 hl (by decide) rfl (fun ls hl => ?_)
          refine lv_iload hx hb dX11_served_35 (lv_at hl 0 rfl) ?_
          refine lv_aload_n hx hb dX11_served_37 rfl (lv_at hl 1 rfl) ?_
          refine gf_X11_19_x0 hC hW dX11_served_38 ?_
          obtain ⟨x7, hx7, h⟩ := mbv_some h
          refine kr_ci hC hW (kr_runV hC hW hl.1 (t_vs_Books_all hx7) cw_X11_311 (wx_2 g μ) rfl rfl rfl (Nat.le_of_ble_eq_true rfl) dX11_served_41 (by decide)) (fun H locs hW => ?_)
          refine lv_iconst (v := (-1)) hx hb dX11_served_44 (by decide) ?_
          refine lv_ixor hx hb dX11_served_45 ?_
          refine lv_iand hx hb dX11_served_46 ?_
          refine lv_if_eq (tgt := 52) hx hb dX11_served_47 (by decide) (fun hc8 => ?_) (fun hc8 => ?_)
          · replace h := if_p hc8 h
            refine lv_aload_n hx hb dX11_served_52 rfl (lv_at hl 1 rfl) ?_
            refine lv_iload_n hx hb dX11_served_53 rfl (lv_at hl 2 rfl) ?_
            obtain ⟨x9, hx9, h⟩ := mbv_some h
            refine kr_ci hC hW (kr_runV hC hW hl.1 (t_vs_readersToday hx9) cw_X11_314 (wx_0 g μ) rfl rfl rfl (Nat.le_of_ble_eq_true rfl) dX11_served_54 (by decide)) (fun H locs hW => ?_)
            refine lv_istore (lv' := [(6, .int x9), (5, .int ((a2 : Int64).toInt32)), (0, .ref (ad g 0)), (1, .int a1), (2, .long a2), (4, .int a4)]) hx hb dX11_served_57 hl (by decide) rfl (fun ls hl => ?_)
            refine lv_iconst (v := 0) hx hb dX11_served_59 (by decide) ?_
            refine lv_istore (lv' := [(7, .int 0), (6, .int x9), (5, .int ((a2 : Int64).toInt32)), (0, .ref (ad g 0)), (1, .int a1), (2, .long a2), (4, .int a4)]) hx hb dX11_served_60 hl (by decide) rfl (fun ls hl => ?_)
            obtain ⟨μ17, he20, h⟩ := mbv_some h
            refine tl_vs_served_62 a4 ((a2 : Int64).toInt32) x9 hC (fun ls H locs hl hW => ?_) FU (0, μ) he20 _ _ _ (lv_sub hl [3, 6, 2, 1, 0] rfl) hW
            refine lv_aload_n hx hb dX11_served_109 rfl (lv_at hl 0 rfl) ?_
            refine gf_X11_72_x0 hC hW dX11_served_110 ?_
            obtain ⟨x18, μ19, hx18, h⟩ := mbm_some h
            refine kr_ci hC hW (kr_runV hC hW hl.1 (t_vs_Serving_mostReaders hx18) cw_X11_326 (wx_9 g μ17) rfl rfl rfl (Nat.le_of_ble_eq_true rfl) dX11_served_113 (by decide)) (fun H locs hW => ?_)
            cases h
            exact kr_iret hC hr hlocks hW dX11_served_116
          · replace h := if_n hc8 h
            refine lv_iconst (v := (-1)) hx hb dX11_served_50 (by decide) ?_
            cases h
            exact kr_iret hC hr hlocks hW dX11_served_51
        · replace h := if_n hc6 h
          refine lv_iconst (v := (-1)) hx hb dX11_served_29 (by decide) ?_
          cases h
          exact kr_iret hC hr hlocks hW dX11_served_30
set_option maxHeartbeats 4000000 in
set_option maxRecDepth 100000 in
theorem tl_vs_Stops_vansAt_5 (μ : Mm) (a1 : Int32) (a2 : Int32) (hC : Cx g RX8 cX8_vansAt 5 p s m args c) {e0 : (Int32)} (kx0 : ∀ (ls : Array Slot) (H : Heap) (locs : List Loc), lv_has ls 5 [(3, .int e0)] → wP g wx A s.heap μ H locs → W p l e (rmD 3) s m args below meth c H locs 0 0 Q (F0 m 35 ls [])) : ∀ (n : Nat) (q : Int32 × Int32), miter (fun q => vs_Stops_vansAt_b5 μ a1 a2 q.1 q.2) n q = some e0 → ∀ (ls : Array Slot) (H : Heap) (locs : List Loc), lv_has ls 5 [(0, .ref (ad g 4)), (1, .int a1), (2, .int a2), (3, .int q.1), (4, .int q.2)] → wP g wx A s.heap μ H locs → W p l e (rmD 3) s m args below meth c H locs 0 0 Q (F0 m 5 ls []) := by
  obtain ⟨hx, hb, hml, hown, hts, hK, hN⟩ := id hC
  refine miter_ind (fun q r hf k1 k2 => ?_)
  obtain ⟨xs3, xs4⟩ := q
  intro ls H locs hl hW
  have h : vs_Stops_vansAt_b5 μ a1 a2 xs3 xs4 = some r := hf
  unfold vs_Stops_vansAt_b5 at h
  refine lv_iload hx hb dX8_vansAt_5 (lv_at hl 4 rfl) ?_
  refine lv_iconst (v := 3) hx hb dX8_vansAt_7 (by decide) ?_
  refine lv_icmp_ge (tgt := 35) hx hb dX8_vansAt_8 (by decide) (fun hc1 => ?_) (fun hc1 => ?_)
  · replace h := if_p hc1 h
    obtain rfl := k2 _ (Option.some.inj h).symm
    exact kx0 _ _ _ (lv_sub hl [3] rfl) hW
  · replace h := if_n hc1 h
    refine lv_aload_n hx hb dX8_vansAt_11 rfl (lv_at hl 0 rfl) ?_
    refine lv_iload hx hb dX8_vansAt_12 (lv_at hl 4 rfl) ?_
    refine lv_iload_n hx hb dX8_vansAt_14 rfl (lv_at hl 1 rfl) ?_
    refine lv_iload_n hx hb dX8_vansAt_15 rfl (lv_at hl 2 rfl) ?_
    obtain ⟨x2, hx2, h⟩ := mbv_some h
    refine kr_ci hC hW (kr_runV hC hW hl.1 (t_vs_Stops_goesTo hx2) cw_X8_70 (wx_4 g μ) rfl rfl rfl (Nat.le_of_ble_eq_true rfl) dX8_vansAt_16 (by decide)) (fun H locs hW => ?_)
    refine lv_if_eq (tgt := 29) hx hb dX8_vansAt_19 (by decide) (fun hc3 => ?_) (fun hc3 => ?_)
    · replace h := if_p hc3 h
      refine lv_iinc (v := (xs4 + 1)) (lv' := [(4, .int (xs4 + 1)), (0, .ref (ad g 4)), (1, .int a1), (2, .int a2), (3, .int xs3)]) hx hb dX8_vansAt_29 hl (k := 4) rfl (by rw [oi_1]) (by decide) rfl (fun ls hl => ?_)
      refine lv_goto (tgt := 5) hx hb dX8_vansAt_32 (by decide) ?_
      exact k1 (xs3, (xs4 + 1)) (Option.some.inj h).symm _ _ _ (lv_sub hl [1, 2, 3, 4, 0] rfl) hW
    · replace h := if_n hc3 h
      refine lv_iload_n hx hb dX8_vansAt_22 rfl (lv_at hl 3 rfl) ?_
      refine lv_iconst (v := 1) hx hb dX8_vansAt_23 (by decide) ?_
      refine lv_iload hx hb dX8_vansAt_24 (lv_at hl 4 rfl) ?_
      refine lv_ishl hx hb dX8_vansAt_26 ?_
      refine lv_ior hx hb dX8_vansAt_27 ?_
      refine lv_istore_n (lv' := [(3, .int (xs3 ||| ((1 : Int32) <<< (xs4 &&& 31)))), (0, .ref (ad g 4)), (1, .int a1), (2, .int a2), (4, .int xs4)]) hx hb dX8_vansAt_28 rfl hl (by decide) rfl (fun ls hl => ?_)
      refine lv_iinc (v := (xs4 + 1)) (lv' := [(4, .int (xs4 + 1)), (3, .int (xs3 ||| ((1 : Int32) <<< (xs4 &&& 31)))), (0, .ref (ad g 4)), (1, .int a1), (2, .int a2)]) hx hb dX8_vansAt_29 hl (k := 4) rfl (by rw [oi_1]) (by decide) rfl (fun ls hl => ?_)
      refine lv_goto (tgt := 5) hx hb dX8_vansAt_32 (by decide) ?_
      exact k1 ((xs3 ||| ((1 : Int32) <<< (xs4 &&& 31))), (xs4 + 1)) (Option.some.inj h).symm _ _ _ (lv_sub hl [2, 3, 4, 1, 0] rfl) hW
set_option maxHeartbeats 4000000 in
set_option maxRecDepth 100000 in
theorem t_vs_Stops_vansAt {l : Launch} {g : Gx} {A : Nat → Prop} {μ : Mm} {a1 : Int32} {a2 : Int32} {v : Int32} (h : vs_Stops_vansAt μ a1 a2 = some v) : Cti l g A wx yX8_vansAt cX8_vansAt 5 (some .int) 3 [.ref (ad g 4), .int a1, .int a2] μ v μ := by
  refine ent (lv := [(0, .ref (ad g 4)), (1, .int a1), (2, .int a2)]) (by decide) (Nat.le_of_ble_eq_true rfl) rfl ?_
  intro p e s m args below meth c hC hr hlocks hnm hW ls hl
  replace hC : Cx g RX8 cX8_vansAt 5 p s m args c := hC
  obtain ⟨hx, hb, hml, hown, hts, hK, hN⟩ := id hC
  unfold vs_Stops_vansAt at h
  refine lv_iconst (v := 0) hx hb dX8_vansAt_0 (by decide) ?_
  refine lv_istore_n (lv' := [(3, .int 0), (0, .ref (ad g 4)), (1, .int a1), (2, .int a2)]) hx hb dX8_vansAt_1 rfl hl (by decide) rfl (fun ls hl => ?_)
  refine lv_iconst (v := 0) hx hb dX8_vansAt_2 (by decide) ?_
  refine lv_istore (lv' := [(4, .int 0), (3, .int 0), (0, .ref (ad g 4)), (1, .int a1), (2, .int a2)]) hx hb dX8_vansAt_3 hl (by decide) rfl (fun ls hl => ?_)
  obtain ⟨x4, he5, h⟩ := mbv_some h
  refine tl_vs_Stops_vansAt_5 μ a1 a2 hC (fun ls H locs hl hW => ?_) FU (0, 0) he5 _ _ _ (lv_sub hl [2, 3, 4, 1, 0] rfl) hW
  refine lv_iload_n hx hb dX8_vansAt_35 rfl (lv_at hl 0 rfl) ?_
  cases h
  exact kr_iret hC hr hlocks hW dX8_vansAt_36
set_option maxHeartbeats 4000000 in
set_option maxRecDepth 100000 in
theorem tl_vs_Stops_visitsUpTo_5 (μ : Mm) (a1 : Int32) (a2 : Int32) (hC : Cx g RX8 cX8_visitsUpTo 5 p s m args c) {e0 : (Int32)} (kx0 : ∀ (ls : Array Slot) (H : Heap) (locs : List Loc), lv_has ls 5 [(3, .int e0)] → wP g wx A s.heap μ H locs → W p l e (rmD 4) s m args below meth c H locs 0 0 Q (F0 m 30 ls [])) : ∀ (n : Nat) (q : Int32 × Int32), miter (fun q => vs_Stops_visitsUpTo_b5 μ a1 a2 q.1 q.2) n q = some e0 → ∀ (ls : Array Slot) (H : Heap) (locs : List Loc), lv_has ls 5 [(0, .ref (ad g 4)), (1, .int a1), (2, .int a2), (3, .int q.1), (4, .int q.2)] → wP g wx A s.heap μ H locs → W p l e (rmD 4) s m args below meth c H locs 0 0 Q (F0 m 5 ls []) := by
  obtain ⟨hx, hb, hml, hown, hts, hK, hN⟩ := id hC
  refine miter_ind (fun q r hf k1 k2 => ?_)
  obtain ⟨xs3, xs4⟩ := q
  intro ls H locs hl hW
  have h : vs_Stops_visitsUpTo_b5 μ a1 a2 xs3 xs4 = some r := hf
  unfold vs_Stops_visitsUpTo_b5 at h
  refine lv_iload hx hb dX8_visitsUpTo_5 (lv_at hl 4 rfl) ?_
  refine lv_iload_n hx hb dX8_visitsUpTo_7 rfl (lv_at hl 2 rfl) ?_
  refine lv_icmp_gt (tgt := 30) hx hb dX8_visitsUpTo_8 (by decide) (fun hc1 => ?_) (fun hc1 => ?_)
  · replace h := if_p hc1 h
    obtain rfl := k2 _ (Option.some.inj h).symm
    exact kx0 _ _ _ (lv_sub hl [3] rfl) hW
  · replace h := if_n hc1 h
    refine lv_iload_n hx hb dX8_visitsUpTo_11 rfl (lv_at hl 3 rfl) ?_
    refine lv_aload_n hx hb dX8_visitsUpTo_12 rfl (lv_at hl 0 rfl) ?_
    refine lv_iload_n hx hb dX8_visitsUpTo_13 rfl (lv_at hl 1 rfl) ?_
    refine lv_iload hx hb dX8_visitsUpTo_14 (lv_at hl 4 rfl) ?_
    obtain ⟨x2, hx2, h⟩ := mbv_some h
    refine kr_ci hC hW (kr_runV hC hW hl.1 (t_vs_Stops_vansAt hx2) cw_X8_76 (wx_4 g μ) rfl rfl rfl (Nat.le_of_ble_eq_true rfl) dX8_visitsUpTo_16 (by decide)) (fun H locs hW => ?_)
    obtain ⟨x3, hx3, h⟩ := mbv_some h
    refine kr_ci hC hW (kr_runS hC hW hl.1 (t_vs_Integer_bitCount_0f7a4 hx3) cw_X8_79 rfl rfl (Nat.le_of_ble_eq_true rfl) dX8_visitsUpTo_19 (by decide)) (fun H locs hW => ?_)
    refine lv_iadd hx hb dX8_visitsUpTo_22 ?_
    refine lv_istore_n (lv' := [(3, .int (xs3 + x3)), (0, .ref (ad g 4)), (1, .int a1), (2, .int a2), (4, .int xs4)]) hx hb dX8_visitsUpTo_23 rfl hl (by decide) rfl (fun ls hl => ?_)
    refine lv_iinc (v := (xs4 + 1)) (lv' := [(4, .int (xs4 + 1)), (3, .int (xs3 + x3)), (0, .ref (ad g 4)), (1, .int a1), (2, .int a2)]) hx hb dX8_visitsUpTo_24 hl (k := 4) rfl (by rw [oi_1]) (by decide) rfl (fun ls hl => ?_)
    refine lv_goto (tgt := 5) hx hb dX8_visitsUpTo_27 (by decide) ?_
    exact k1 ((xs3 + x3), (xs4 + 1)) (Option.some.inj h).symm _ _ _ (lv_sub hl [2, 3, 4, 1, 0] rfl) hW
set_option maxHeartbeats 4000000 in
set_option maxRecDepth 100000 in
theorem t_vs_Stops_visitsUpTo {l : Launch} {g : Gx} {A : Nat → Prop} {μ : Mm} {a1 : Int32} {a2 : Int32} {v : Int32} (h : vs_Stops_visitsUpTo μ a1 a2 = some v) : Cti l g A wx yX8_visitsUpTo cX8_visitsUpTo 5 (some .int) 4 [.ref (ad g 4), .int a1, .int a2] μ v μ := by
  refine ent (lv := [(0, .ref (ad g 4)), (1, .int a1), (2, .int a2)]) (by decide) (Nat.le_of_ble_eq_true rfl) rfl ?_
  intro p e s m args below meth c hC hr hlocks hnm hW ls hl
  replace hC : Cx g RX8 cX8_visitsUpTo 5 p s m args c := hC
  obtain ⟨hx, hb, hml, hown, hts, hK, hN⟩ := id hC
  unfold vs_Stops_visitsUpTo at h
  refine lv_iconst (v := 0) hx hb dX8_visitsUpTo_0 (by decide) ?_
  refine lv_istore_n (lv' := [(3, .int 0), (0, .ref (ad g 4)), (1, .int a1), (2, .int a2)]) hx hb dX8_visitsUpTo_1 rfl hl (by decide) rfl (fun ls hl => ?_)
  refine lv_iconst (v := 0) hx hb dX8_visitsUpTo_2 (by decide) ?_
  refine lv_istore (lv' := [(4, .int 0), (3, .int 0), (0, .ref (ad g 4)), (1, .int a1), (2, .int a2)]) hx hb dX8_visitsUpTo_3 hl (by decide) rfl (fun ls hl => ?_)
  obtain ⟨x4, he5, h⟩ := mbv_some h
  refine tl_vs_Stops_visitsUpTo_5 μ a1 a2 hC (fun ls H locs hl hW => ?_) FU (0, 0) he5 _ _ _ (lv_sub hl [2, 3, 4, 1, 0] rfl) hW
  refine lv_iload_n hx hb dX8_visitsUpTo_30 rfl (lv_at hl 0 rfl) ?_
  cases h
  exact kr_iret hC hr hlocks hW dX8_visitsUpTo_31
set_option maxHeartbeats 4000000 in
set_option maxRecDepth 100000 in
theorem tl_vs_least_7 (μ : Mm) (a1 : Int32) (hC : Cx g RX11 cX11_least 6 p s m args c) {e0 : (Int32 × Int32)} (kx0 : ∀ (ls : Array Slot) (H : Heap) (locs : List Loc), lv_has ls 6 [(0, .ref (ad g 0)), (1, .int a1), (2, .int e0.1), (3, .int e0.2)] → wP g wx A s.heap μ H locs → W p l e (rmD 5) s m args below meth c H locs 0 0 Q (F0 m 91 ls [])) : ∀ (n : Nat) (q : Int32 × Int32 × Int32), miter (fun q => vs_least_b7 μ a1 q.1 q.2.1 q.2.2) n q = some e0 → ∀ (ls : Array Slot) (H : Heap) (locs : List Loc), lv_has ls 6 [(0, .ref (ad g 0)), (1, .int a1), (2, .int q.1), (3, .int q.2.1), (4, .int q.2.2)] → wP g wx A s.heap μ H locs → W p l e (rmD 5) s m args below meth c H locs 0 0 Q (F0 m 7 ls []) := by
  obtain ⟨hx, hb, hml, hown, hts, hK, hN⟩ := id hC
  refine miter_ind (fun q r hf k1 k2 => ?_)
  obtain ⟨xs2, xs3, xs4⟩ := q
  intro ls H locs hl hW
  have h : vs_least_b7 μ a1 xs2 xs3 xs4 = some r := hf
  unfold vs_least_b7 at h
  refine lv_iload hx hb dX11_least_7 (lv_at hl 4 rfl) ?_
  refine lv_aload_n hx hb dX11_least_9 rfl (lv_at hl 0 rfl) ?_
  refine gf_X11_26_x0 hC hW dX11_least_10 ?_
  refine gf_X11_278_x3 hC hW dX11_least_13 ?_
  refine lv_icmp_ge (tgt := 91) hx hb dX11_least_16 (by decide) (fun hc1 => ?_) (fun hc1 => ?_)
  · replace h := if_p hc1 h
    obtain rfl := k2 _ (Option.some.inj h).symm
    exact kx0 _ _ _ (lv_sub hl [0, 1, 2, 3] rfl) hW
  · replace h := if_n hc1 h
    refine lv_aload_n hx hb dX11_least_19 rfl (lv_at hl 0 rfl) ?_
    refine gf_X11_33_x0 hC hW dX11_least_20 ?_
    refine lv_aload_n hx hb dX11_least_23 rfl (lv_at hl 0 rfl) ?_
    refine gf_X11_26_x0 hC hW dX11_least_24 ?_
    refine gf_X11_202_x3 hC hW dX11_least_27 ?_
    refine lv_iload hx hb dX11_least_30 (lv_at hl 4 rfl) ?_
    obtain ⟨x2, ex2, hin, h⟩ := mrd_ex h
    refine kr_iald hC hW (wx_25 g μ) hin ex2 dX11_least_32 ?_
    refine lv_aload_n hx hb dX11_least_33 rfl (lv_at hl 0 rfl) ?_
    refine gf_X11_96_x0 hC hW dX11_least_34 ?_
    obtain ⟨x3, hx3, h⟩ := mbv_some h
    refine kr_ci hC hW (kr_runV hC hW hl.1 (t_vs_Stops_visitsUpTo hx3) cw_X11_329 (wx_4 g μ) rfl rfl rfl (Nat.le_of_ble_eq_true rfl) dX11_least_37 (by decide)) (fun H locs hW => ?_)
    refine lv_istore (lv' := [(5, .int x3), (0, .ref (ad g 0)), (1, .int a1), (2, .int xs2), (3, .int xs3), (4, .int xs4)]) hx hb dX11_least_40 hl (by decide) rfl (fun ls hl => ?_)
    refine lv_iload hx hb dX11_least_42 (lv_at hl 0 rfl) ?_
    refine lv_if_le (tgt := 85) hx hb dX11_least_44 (by decide) (fun hc4 => ?_) (fun hc4 => ?_)
    · replace h := if_p hc4 h
      refine lv_iinc (v := (xs4 + 1)) (lv' := [(4, .int (xs4 + 1)), (5, .int x3), (0, .ref (ad g 0)), (1, .int a1), (2, .int xs2), (3, .int xs3)]) hx hb dX11_least_85 hl (k := 5) rfl (by rw [oi_1]) (by decide) rfl (fun ls hl => ?_)
      refine lv_goto (tgt := 7) hx hb dX11_least_88 (by decide) ?_
      exact k1 (xs2, xs3, (xs4 + 1)) (Option.some.inj h).symm _ _ _ (lv_sub hl [2, 3, 4, 5, 0] rfl) hW
    · replace h := if_n hc4 h
      refine lv_iload_n hx hb dX11_least_47 rfl (lv_at hl 3 rfl) ?_
      refine lv_iconst (v := (-1)) hx hb dX11_least_48 (by decide) ?_
      refine lv_icmp_eq (tgt := 79) hx hb dX11_least_49 (by decide) (fun hc5 => ?_) (fun hc5 => ?_)
      · replace h := if_p hc5 h
        refine lv_iload hx hb dX11_least_79 (lv_at hl 5 rfl) ?_
        refine lv_istore_n (lv' := [(2, .int xs4), (5, .int x3), (0, .ref (ad g 0)), (1, .int a1), (3, .int xs3), (4, .int xs4)]) hx hb dX11_least_81 rfl hl (by decide) rfl (fun ls hl => ?_)
        refine lv_iload hx hb dX11_least_82 (lv_at hl 1 rfl) ?_
        refine lv_istore_n (lv' := [(3, .int x3), (2, .int xs4), (5, .int x3), (0, .ref (ad g 0)), (1, .int a1), (4, .int xs4)]) hx hb dX11_least_84 rfl hl (by decide) rfl (fun ls hl => ?_)
        refine lv_iinc (v := (xs4 + 1)) (lv' := [(4, .int (xs4 + 1)), (3, .int x3), (2, .int xs4), (5, .int x3), (0, .ref (ad g 0)), (1, .int a1)]) hx hb dX11_least_85 hl (k := 5) rfl (by rw [oi_1]) (by decide) rfl (fun ls hl => ?_)
        refine lv_goto (tgt := 7) hx hb dX11_least_88 (by decide) ?_
        exact k1 (xs4, x3, (xs4 + 1)) (Option.some.inj h).symm _ _ _ (lv_sub hl [4, 5, 2, 1, 0] rfl) hW
      · replace h := if_n hc5 h
        refine lv_aload_n hx hb dX11_least_52 rfl (lv_at hl 1 rfl) ?_
        refine gf_X11_26_x0 hC hW dX11_least_53 ?_
        refine gf_X11_214_x3 hC hW dX11_least_56 ?_
        refine lv_iload hx hb dX11_least_59 (lv_at hl 5 rfl) ?_
        obtain ⟨x6, ex6, hin, h⟩ := mrd_ex h
        refine kr_iald hC hW (wx_30 g μ) hin ex6 dX11_least_61 ?_
        refine lv_iload_n hx hb dX11_least_62 rfl (lv_at hl 4 rfl) ?_
        refine lv_imul hx hb dX11_least_63 ?_
        refine lv_aload_n hx hb dX11_least_64 rfl (lv_at hl 1 rfl) ?_
        refine gf_X11_26_x0 hC hW dX11_least_65 ?_
        refine gf_X11_214_x3 hC hW dX11_least_68 ?_
        refine lv_iload_n hx hb dX11_least_71 rfl (lv_at hl 3 rfl) ?_
        obtain ⟨x7, ex7, hin, h⟩ := mrd_ex h
        refine kr_iald hC hW (wx_30 g μ) hin ex7 dX11_least_72 ?_
        refine lv_iload hx hb dX11_least_73 (lv_at hl 0 rfl) ?_
        refine lv_imul hx hb dX11_least_75 ?_
        refine lv_icmp_ge (tgt := 85) hx hb dX11_least_76 (by decide) (fun hc8 => ?_) (fun hc8 => ?_)
        · replace h := if_p hc8 h
          refine lv_iinc (v := (xs4 + 1)) (lv' := [(4, .int (xs4 + 1)), (5, .int x3), (0, .ref (ad g 0)), (1, .int a1), (2, .int xs2), (3, .int xs3)]) hx hb dX11_least_85 hl (k := 5) rfl (by rw [oi_1]) (by decide) rfl (fun ls hl => ?_)
          refine lv_goto (tgt := 7) hx hb dX11_least_88 (by decide) ?_
          exact k1 (xs2, xs3, (xs4 + 1)) (Option.some.inj h).symm _ _ _ (lv_sub hl [2, 3, 4, 5, 0] rfl) hW
        · replace h := if_n hc8 h
          refine lv_iload hx hb dX11_least_79 (lv_at hl 5 rfl) ?_
          refine lv_istore_n (lv' := [(2, .int xs4), (5, .int x3), (0, .ref (ad g 0)), (1, .int a1), (3, .int xs3), (4, .int xs4)]) hx hb dX11_least_81 rfl hl (by decide) rfl (fun ls hl => ?_)
          refine lv_iload hx hb dX11_least_82 (lv_at hl 1 rfl) ?_
          refine lv_istore_n (lv' := [(3, .int x3), (2, .int xs4), (5, .int x3), (0, .ref (ad g 0)), (1, .int a1), (4, .int xs4)]) hx hb dX11_least_84 rfl hl (by decide) rfl (fun ls hl => ?_)
          refine lv_iinc (v := (xs4 + 1)) (lv' := [(4, .int (xs4 + 1)), (3, .int x3), (2, .int xs4), (5, .int x3), (0, .ref (ad g 0)), (1, .int a1)]) hx hb dX11_least_85 hl (k := 5) rfl (by rw [oi_1]) (by decide) rfl (fun ls hl => ?_)
          refine lv_goto (tgt := 7) hx hb dX11_least_88 (by decide) ?_
          exact k1 (xs4, x3, (xs4 + 1)) (Option.some.inj h).symm _ _ _ (lv_sub hl [4, 5, 2, 1, 0] rfl) hW
set_option maxHeartbeats 4000000 in
set_option maxRecDepth 100000 in
theorem t_vs_least {l : Launch} {g : Gx} {A : Nat → Prop} {μ : Mm} {a1 : Int32} {v : Int32} (h : vs_least μ a1 = some v) : Cti l g A wx yX11_least cX11_least 6 (some .int) 5 [.ref (ad g 0), .int a1] μ v μ := by
  refine ent (lv := [(0, .ref (ad g 0)), (1, .int a1)]) (by decide) (Nat.le_of_ble_eq_true rfl) rfl ?_
  intro p e s m args below meth c hC hr hlocks hnm hW ls hl
  replace hC : Cx g RX11 cX11_least 6 p s m args c := hC
  obtain ⟨hx, hb, hml, hown, hts, hK, hN⟩ := id hC
  unfold vs_least at h
  refine lv_iconst (v := (-1)) hx hb dX11_least_0 (by decide) ?_
  refine lv_istore_n (lv' := [(2, .int (-1)), (0, .ref (ad g 0)), (1, .int a1)]) hx hb dX11_least_1 rfl hl (by decide) rfl (fun ls hl => ?_)
  refine lv_iconst (v := 0) hx hb dX11_least_2 (by decide) ?_
  refine lv_istore_n (lv' := [(3, .int 0), (2, .int (-1)), (0, .ref (ad g 0)), (1, .int a1)]) hx hb dX11_least_3 rfl hl (by decide) rfl (fun ls hl => ?_)
  refine lv_iconst (v := 0) hx hb dX11_least_4 (by decide) ?_
  refine lv_istore (lv' := [(4, .int 0), (3, .int 0), (2, .int (-1)), (0, .ref (ad g 0)), (1, .int a1)]) hx hb dX11_least_5 hl (by decide) rfl (fun ls hl => ?_)
  obtain ⟨e0, he16, h⟩ := mbv_some h
  obtain ⟨x9, x10, ee, h9⟩ := un2_ex h
  clear h
  subst ee
  have h := h9
  clear h9
  refine tl_vs_least_7 μ a1 hC (fun ls H locs hl hW => ?_) FU ((-1), 0, 0) he16 _ _ _ (lv_sub hl [3, 4, 2, 1, 0] rfl) hW
  refine lv_iload_n hx hb dX11_least_91 rfl (lv_at hl 2 rfl) ?_
  refine lv_iconst (v := (-1)) hx hb dX11_least_92 (by decide) ?_
  refine lv_icmp_ne (tgt := 98) hx hb dX11_least_93 (by decide) (fun hc11 => ?_) (fun hc11 => ?_)
  · replace h := if_n hc11 h
    refine lv_iload_n hx hb dX11_least_98 rfl (lv_at hl 1 rfl) ?_
    by_cases hc12 : a1 = 0
    · replace h := if_p hc12 h
      refine lv_tableIn (off := 25) (tgt := 124) hx hb dX11_least_99 (by rw [hc12]; decide) (by rw [hc12]; decide) (by rw [hc12]; rfl) (by decide) ?_
      refine lv_iload_n hx hb dX11_least_124 rfl (lv_at hl 2 rfl) ?_
      cases h
      exact kr_iret hC hr hlocks hW dX11_least_125
    replace h := if_n hc12 h
    by_cases hc13 : a1 = 1
    · replace h := if_p hc13 h
      refine lv_tableIn (off := 27) (tgt := 126) hx hb dX11_least_99 (by rw [hc13]; decide) (by rw [hc13]; decide) (by rw [hc13]; rfl) (by decide) ?_
      refine lv_aload_n hx hb dX11_least_126 rfl (lv_at hl 0 rfl) ?_
      refine gf_X11_26_x0 hC hW dX11_least_127 ?_
      refine gf_X11_214_x3 hC hW dX11_least_130 ?_
      refine lv_iload_n hx hb dX11_least_133 rfl (lv_at hl 2 rfl) ?_
      obtain ⟨x14, ex14, hin, h⟩ := mrd_ex h
      refine kr_iald hC hW (wx_30 g μ) hin ex14 dX11_least_134 ?_
      cases h
      exact kr_iret hC hr hlocks hW dX11_least_135
    replace h := if_n hc13 h
    by_cases hc15 : a1 = 2
    · replace h := if_p hc15 h
      refine lv_tableIn (off := 37) (tgt := 136) hx hb dX11_least_99 (by rw [hc15]; decide) (by rw [hc15]; decide) (by rw [hc15]; rfl) (by decide) ?_
      refine lv_iload_n hx hb dX11_least_136 rfl (lv_at hl 3 rfl) ?_
      cases h
      exact kr_iret hC hr hlocks hW dX11_least_137
    replace h := if_n hc15 h
    have thc12 := lv_neT (a := 0) hc12 (by decide)
    have thc13 := lv_neT (a := 1) hc13 (by decide)
    have thc15 := lv_neT (a := 2) hc15 (by decide)
    refine lv_tableOut (tgt := 138) hx hb dX11_least_99 (by omega) (by decide) ?_
    refine lv_iconst (v := (-1)) hx hb dX11_least_138 (by decide) ?_
    cases h
    exact kr_iret hC hr hlocks hW dX11_least_139
  · replace h := if_p hc11 h
    refine lv_iconst (v := (-1)) hx hb dX11_least_96 (by decide) ?_
    cases h
    exact kr_iret hC hr hlocks hW dX11_least_97
set_option maxHeartbeats 4000000 in
set_option maxRecDepth 100000 in
theorem tl_vs_readersTold_4 (μ : Mm) (a1 : Int32) (hC : Cx g RX11 cX11_readersTold 4 p s m args c) {e0 : (Int32)} (kx0 : ∀ (ls : Array Slot) (H : Heap) (locs : List Loc), lv_has ls 4 [(2, .int e0)] → wP g wx A s.heap μ H locs → W p l e (rmD 0) s m args below meth c H locs 0 0 Q (F0 m 46 ls [])) : ∀ (n : Nat) (q : Int32 × Int32), miter (fun q => vs_readersTold_b4 μ a1 q.1 q.2) n q = some e0 → ∀ (ls : Array Slot) (H : Heap) (locs : List Loc), lv_has ls 4 [(0, .ref (ad g 0)), (1, .int a1), (2, .int q.1), (3, .int q.2)] → wP g wx A s.heap μ H locs → W p l e (rmD 0) s m args below meth c H locs 0 0 Q (F0 m 4 ls []) := by
  obtain ⟨hx, hb, hml, hown, hts, hK, hN⟩ := id hC
  refine miter_ind (fun q r hf k1 k2 => ?_)
  obtain ⟨xs2, xs3⟩ := q
  intro ls H locs hl hW
  have h : vs_readersTold_b4 μ a1 xs2 xs3 = some r := hf
  unfold vs_readersTold_b4 at h
  refine lv_iload_n hx hb dX11_readersTold_4 rfl (lv_at hl 3 rfl) ?_
  refine lv_aload_n hx hb dX11_readersTold_5 rfl (lv_at hl 0 rfl) ?_
  refine gf_X11_33_x0 hC hW dX11_readersTold_6 ?_
  refine gf_X11_374_x4 hC hW dX11_readersTold_9 ?_
  refine lv_icmp_ge (tgt := 46) hx hb dX11_readersTold_12 (by decide) (fun hc1 => ?_) (fun hc1 => ?_)
  · replace h := if_p hc1 h
    obtain rfl := k2 _ (Option.some.inj h).symm
    exact kx0 _ _ _ (lv_sub hl [2] rfl) hW
  · replace h := if_n hc1 h
    refine lv_aload_n hx hb dX11_readersTold_15 rfl (lv_at hl 0 rfl) ?_
    refine gf_X11_33_x0 hC hW dX11_readersTold_16 ?_
    refine gf_X11_430_x4 hC hW dX11_readersTold_19 ?_
    refine lv_iload_n hx hb dX11_readersTold_22 rfl (lv_at hl 3 rfl) ?_
    obtain ⟨x2, ex2, hin, h⟩ := mrd_ex h
    refine kr_iald hC hW (wx_35 g μ) hin ex2 dX11_readersTold_23 ?_
    refine lv_iload_n hx hb dX11_readersTold_24 rfl (lv_at hl 1 rfl) ?_
    refine lv_icmp_ne (tgt := 40) hx hb dX11_readersTold_25 (by decide) (fun hc3 => ?_) (fun hc3 => ?_)
    · replace h := if_n hc3 h
      refine lv_iinc (v := (xs3 + 1)) (lv' := [(3, .int (xs3 + 1)), (0, .ref (ad g 0)), (1, .int a1), (2, .int xs2)]) hx hb dX11_readersTold_40 hl (k := 3) rfl (by rw [oi_1]) (by decide) rfl (fun ls hl => ?_)
      refine lv_goto (tgt := 4) hx hb dX11_readersTold_43 (by decide) ?_
      exact k1 (xs2, (xs3 + 1)) (Option.some.inj h).symm _ _ _ (lv_sub hl [1, 2, 3, 0] rfl) hW
    · replace h := if_p hc3 h
      refine lv_iload_n hx hb dX11_readersTold_28 rfl (lv_at hl 2 rfl) ?_
      refine lv_aload_n hx hb dX11_readersTold_29 rfl (lv_at hl 0 rfl) ?_
      refine gf_X11_33_x0 hC hW dX11_readersTold_30 ?_
      refine gf_X11_129_x4 hC hW dX11_readersTold_33 ?_
      refine lv_iload_n hx hb dX11_readersTold_36 rfl (lv_at hl 3 rfl) ?_
      obtain ⟨x4, ex4, hin, h⟩ := mrd_ex h
      refine kr_iald hC hW (wx_39 g μ) hin ex4 dX11_readersTold_37 ?_
      refine lv_ior hx hb dX11_readersTold_38 ?_
      refine lv_istore_n (lv' := [(2, .int (xs2 ||| x4)), (0, .ref (ad g 0)), (1, .int a1), (3, .int xs3)]) hx hb dX11_readersTold_39 rfl hl (by decide) rfl (fun ls hl => ?_)
      refine lv_iinc (v := (xs3 + 1)) (lv' := [(3, .int (xs3 + 1)), (2, .int (xs2 ||| x4)), (0, .ref (ad g 0)), (1, .int a1)]) hx hb dX11_readersTold_40 hl (k := 3) rfl (by rw [oi_1]) (by decide) rfl (fun ls hl => ?_)
      refine lv_goto (tgt := 4) hx hb dX11_readersTold_43 (by decide) ?_
      exact k1 ((xs2 ||| x4), (xs3 + 1)) (Option.some.inj h).symm _ _ _ (lv_sub hl [2, 3, 1, 0] rfl) hW
set_option maxHeartbeats 4000000 in
set_option maxRecDepth 100000 in
theorem t_vs_readersTold {l : Launch} {g : Gx} {A : Nat → Prop} {μ : Mm} {a1 : Int32} {v : Int32} (h : vs_readersTold μ a1 = some v) : Cti l g A wx yX11_readersTold cX11_readersTold 4 (some .int) 0 [.ref (ad g 0), .int a1] μ v μ := by
  refine ent (lv := [(0, .ref (ad g 0)), (1, .int a1)]) (by decide) (Nat.le_of_ble_eq_true rfl) rfl ?_
  intro p e s m args below meth c hC hr hlocks hnm hW ls hl
  replace hC : Cx g RX11 cX11_readersTold 4 p s m args c := hC
  obtain ⟨hx, hb, hml, hown, hts, hK, hN⟩ := id hC
  unfold vs_readersTold at h
  refine lv_iconst (v := 0) hx hb dX11_readersTold_0 (by decide) ?_
  refine lv_istore_n (lv' := [(2, .int 0), (0, .ref (ad g 0)), (1, .int a1)]) hx hb dX11_readersTold_1 rfl hl (by decide) rfl (fun ls hl => ?_)
  refine lv_iconst (v := 0) hx hb dX11_readersTold_2 (by decide) ?_
  refine lv_istore_n (lv' := [(3, .int 0), (2, .int 0), (0, .ref (ad g 0)), (1, .int a1)]) hx hb dX11_readersTold_3 rfl hl (by decide) rfl (fun ls hl => ?_)
  obtain ⟨x5, he6, h⟩ := mbv_some h
  refine tl_vs_readersTold_4 μ a1 hC (fun ls H locs hl hW => ?_) FU (0, 0) he6 _ _ _ (lv_sub hl [2, 3, 1, 0] rfl) hW
  refine lv_iload_n hx hb dX11_readersTold_46 rfl (lv_at hl 0 rfl) ?_
  cases h
  exact kr_iret hC hr hlocks hW dX11_readersTold_47
set_option maxHeartbeats 4000000 in
set_option maxRecDepth 100000 in
theorem tl_vs_dull_30 (a1 : Int32) (a2 : Int32) (a3 : Int32) (hC : Cx g RX11 cX11_dull 6 p s m args c) {e0 : (Int32 × Mm)} (kx0 : ∀ (ls : Array Slot) (H : Heap) (locs : List Loc), lv_has ls 6 [(4, .int e0.1)] → wP g wx A s.heap e0.2 H locs → W p l e (rmD 6) s m args below meth c H locs 0 0 Q (F0 m 81 ls [])) : ∀ (n : Nat) (q : Int32 × Int32 × Mm), miter (fun q => vs_dull_b30 q.2.2 a1 a2 a3 q.1 q.2.1) n q = some e0 → ∀ (ls : Array Slot) (H : Heap) (locs : List Loc), lv_has ls 6 [(0, .ref (ad g 0)), (1, .int a1), (2, .int a2), (3, .int a3), (4, .int q.1), (5, .int q.2.1)] → wP g wx A s.heap q.2.2 H locs → W p l e (rmD 6) s m args below meth c H locs 0 0 Q (F0 m 30 ls []) := by
  obtain ⟨hx, hb, hml, hown, hts, hK, hN⟩ := id hC
  refine miter_ind (fun q r hf k1 k2 => ?_)
  obtain ⟨xs4, xs5, μ⟩ := q
  intro ls H locs hl hW
  have h : vs_dull_b30 μ a1 a2 a3 xs4 xs5 = some r := hf
  unfold vs_dull_b30 at h
  refine lv_iload hx hb dX11_dull_30 (lv_at hl 5 rfl) ?_
  refine lv_aload_n hx hb dX11_dull_32 rfl (lv_at hl 0 rfl) ?_
  refine gf_X11_19_x0 hC hW dX11_dull_33 ?_
  refine gf_X11_335_x2 hC hW dX11_dull_36 ?_
  refine lv_icmp_ge (tgt := 81) hx hb dX11_dull_39 (by decide) (fun hc6 => ?_) (fun hc6 => ?_)
  · replace h := if_p hc6 h
    obtain rfl := k2 _ (Option.some.inj h).symm
    exact kx0 _ _ _ (lv_sub hl [4] rfl) hW
  · replace h := if_n hc6 h
    refine lv_aload_n hx hb dX11_dull_42 rfl (lv_at hl 0 rfl) ?_
    refine gf_X11_19_x0 hC hW dX11_dull_43 ?_
    refine lv_iload hx hb dX11_dull_46 (lv_at hl 5 rfl) ?_
    obtain ⟨x7, hx7, h⟩ := mbv_some h
    refine kr_ci hC hW (kr_runV hC hW hl.1 (t_vs_Books_vanOf hx7) cw_X11_199 (wx_2 g μ) rfl rfl rfl (Nat.le_of_ble_eq_true rfl) dX11_dull_48 (by decide)) (fun H locs hW => ?_)
    refine lv_iload_n hx hb dX11_dull_51 rfl (lv_at hl 1 rfl) ?_
    refine lv_icmp_ne (tgt := 75) hx hb dX11_dull_52 (by decide) (fun hc8 => ?_) (fun hc8 => ?_)
    · replace h := if_n hc8 h
      refine lv_iinc (v := (xs5 + 1)) (lv' := [(5, .int (xs5 + 1)), (0, .ref (ad g 0)), (1, .int a1), (2, .int a2), (3, .int a3), (4, .int xs4)]) hx hb dX11_dull_75 hl (k := 5) rfl (by rw [oi_1]) (by decide) rfl (fun ls hl => ?_)
      refine lv_goto (tgt := 30) hx hb dX11_dull_78 (by decide) ?_
      exact k1 (xs4, (xs5 + 1), μ) (Option.some.inj h).symm _ _ _ (lv_sub hl [1, 2, 3, 4, 5, 0] rfl) hW
    · replace h := if_p hc8 h
      refine lv_aload_n hx hb dX11_dull_55 rfl (lv_at hl 0 rfl) ?_
      refine lv_iload hx hb dX11_dull_56 (lv_at hl 5 rfl) ?_
      refine lv_iload_n hx hb dX11_dull_58 rfl (lv_at hl 3 rfl) ?_
      refine lv_iload_n hx hb dX11_dull_59 rfl (lv_at hl 2 rfl) ?_
      obtain ⟨x9, μ10, hx9, h⟩ := mbm_some h
      refine kr_ci hC hW (kr_runV hC hW hl.1 (t_vs_wantersOf hx9) cw_X11_336 (wx_0 g μ) rfl rfl rfl (Nat.le_of_ble_eq_true rfl) dX11_dull_60 (by decide)) (fun H locs hW => ?_)
      refine lv_if_ne (tgt := 75) hx hb dX11_dull_63 (by decide) (fun hc11 => ?_) (fun hc11 => ?_)
      · replace h := if_n hc11 h
        refine lv_iinc (v := (xs5 + 1)) (lv' := [(5, .int (xs5 + 1)), (0, .ref (ad g 0)), (1, .int a1), (2, .int a2), (3, .int a3), (4, .int xs4)]) hx hb dX11_dull_75 hl (k := 5) rfl (by rw [oi_1]) (by decide) rfl (fun ls hl => ?_)
        refine lv_goto (tgt := 30) hx hb dX11_dull_78 (by decide) ?_
        exact k1 (xs4, (xs5 + 1), μ10) (Option.some.inj h).symm _ _ _ (lv_sub hl [1, 2, 3, 4, 5, 0] rfl) hW
      · replace h := if_p hc11 h
        refine lv_iload hx hb dX11_dull_66 (lv_at hl 4 rfl) ?_
        refine lv_iconst (v := 1) hx hb dX11_dull_68 (by decide) ?_
        refine lv_iload hx hb dX11_dull_69 (lv_at hl 5 rfl) ?_
        refine lv_ishl hx hb dX11_dull_71 ?_
        refine lv_ior hx hb dX11_dull_72 ?_
        refine lv_istore (lv' := [(4, .int (xs4 ||| ((1 : Int32) <<< (xs5 &&& 31)))), (0, .ref (ad g 0)), (1, .int a1), (2, .int a2), (3, .int a3), (5, .int xs5)]) hx hb dX11_dull_73 hl (by decide) rfl (fun ls hl => ?_)
        refine lv_iinc (v := (xs5 + 1)) (lv' := [(5, .int (xs5 + 1)), (4, .int (xs4 ||| ((1 : Int32) <<< (xs5 &&& 31)))), (0, .ref (ad g 0)), (1, .int a1), (2, .int a2), (3, .int a3)]) hx hb dX11_dull_75 hl (k := 5) rfl (by rw [oi_1]) (by decide) rfl (fun ls hl => ?_)
        refine lv_goto (tgt := 30) hx hb dX11_dull_78 (by decide) ?_
        exact k1 ((xs4 ||| ((1 : Int32) <<< (xs5 &&& 31))), (xs5 + 1), μ10) (Option.some.inj h).symm _ _ _ (lv_sub hl [2, 3, 4, 5, 1, 0] rfl) hW
set_option maxHeartbeats 4000000 in
set_option maxRecDepth 100000 in
theorem t_vs_dull {l : Launch} {g : Gx} {A : Nat → Prop} {μ : Mm} {a1 : Int32} {a2 : Int32} {v : Int64} {u : Mm} (h : vs_dull μ a1 a2 = some (v, u)) : Ctl l g A wx yX11_dull cX11_dull 6 (some .long) 6 [.ref (ad g 0), .int a1, .int a2] μ v u := by
  refine ent (lv := [(0, .ref (ad g 0)), (1, .int a1), (2, .int a2)]) (by decide) (Nat.le_of_ble_eq_true rfl) rfl ?_
  intro p e s m args below meth c hC hr hlocks hnm hW ls hl
  replace hC : Cx g RX11 cX11_dull 6 p s m args c := hC
  obtain ⟨hx, hb, hml, hown, hts, hK, hN⟩ := id hC
  unfold vs_dull at h
  refine lv_iload_n hx hb dX11_dull_0 rfl (lv_at hl 1 rfl) ?_
  obtain ⟨x1, hx1, h⟩ := mbv_some h
  refine kr_ci hC hW (kr_runS hC hW hl.1 (t_vs_isVan hx1) cw_X11_108 rfl rfl (Nat.le_of_ble_eq_true rfl) dX11_dull_1 (by decide)) (fun H locs hW => ?_)
  refine lv_if_eq (tgt := 14) hx hb dX11_dull_4 (by decide) (fun hc2 => ?_) (fun hc2 => ?_)
  · replace h := if_p hc2 h
    refine lv_ldc2 hx hb hown (hts _ tw_842) dX11_dull_14 ?_
    cases h
    exact kr_lret hC hr hlocks hW dX11_dull_17
  · replace h := if_n hc2 h
    refine lv_iload_n hx hb dX11_dull_7 rfl (lv_at hl 2 rfl) ?_
    obtain ⟨x3, hx3, h⟩ := mbv_some h
    refine kr_ci hC hW (kr_runS hC hW hl.1 (t_vs_isMuch hx3) cw_X11_289 rfl rfl (Nat.le_of_ble_eq_true rfl) dX11_dull_8 (by decide)) (fun H locs hW => ?_)
    refine lv_if_ne (tgt := 18) hx hb dX11_dull_11 (by decide) (fun hc4 => ?_) (fun hc4 => ?_)
    · replace h := if_n hc4 h
      refine lv_aload_n hx hb dX11_dull_18 rfl (lv_at hl 0 rfl) ?_
      refine lv_iload_n hx hb dX11_dull_19 rfl (lv_at hl 1 rfl) ?_
      obtain ⟨x5, hx5, h⟩ := mbv_some h
      refine kr_ci hC hW (kr_runV hC hW hl.1 (t_vs_readersTold hx5) cw_X11_332 (wx_0 g μ) rfl rfl rfl (Nat.le_of_ble_eq_true rfl) dX11_dull_20 (by decide)) (fun H locs hW => ?_)
      refine lv_istore_n (lv' := [(3, .int x5), (0, .ref (ad g 0)), (1, .int a1), (2, .int a2)]) hx hb dX11_dull_23 rfl hl (by decide) rfl (fun ls hl => ?_)
      refine lv_iconst (v := 0) hx hb dX11_dull_24 (by decide) ?_
      refine lv_istore (lv' := [(4, .int 0), (3, .int x5), (0, .ref (ad g 0)), (1, .int a1), (2, .int a2)]) hx hb dX11_dull_25 hl (by decide) rfl (fun ls hl => ?_)
      refine lv_iconst (v := 0) hx hb dX11_dull_27 (by decide) ?_
      refine lv_istore (lv' := [(5, .int 0), (4, .int 0), (3, .int x5), (0, .ref (ad g 0)), (1, .int a1), (2, .int a2)]) hx hb dX11_dull_28 hl (by decide) rfl (fun ls hl => ?_)
      obtain ⟨e0, he15, h⟩ := mbv_some h
      obtain ⟨x12, μ13, ee, h9⟩ := un2_ex h
      clear h
      subst ee
      have h := h9
      clear h9
      refine tl_vs_dull_30 a1 a2 x5 hC (fun ls H locs hl hW => ?_) FU (0, 0, μ) he15 _ _ _ (lv_sub hl [3, 4, 5, 2, 1, 0] rfl) hW
      refine lv_iload hx hb dX11_dull_81 (lv_at hl 0 rfl) ?_
      obtain ⟨x14, hx14, h⟩ := mbv_some h
      refine kr_cl hC hW (kr_runS hC hW hl.1 (t_vs_asLong hx14) cw_X11_266 rfl rfl (Nat.le_of_ble_eq_true rfl) dX11_dull_83 (by decide)) (fun H locs hW => ?_)
      cases h
      exact kr_lret hC hr hlocks hW dX11_dull_86
    · replace h := if_p hc4 h
      refine lv_ldc2 hx hb hown (hts _ tw_842) dX11_dull_14 ?_
      cases h
      exact kr_lret hC hr hlocks hW dX11_dull_17
set_option maxHeartbeats 4000000 in
set_option maxRecDepth 100000 in
theorem tl_vs_onward_29 (a1 : Int32) (a2 : Int32) (hC : Cx g RX11 cX11_onward 7 p s m args c) {e0 : (Int32 × Mm)} (kx0 : ∀ (ls : Array Slot) (H : Heap) (locs : List Loc), lv_has ls 7 [(3, .int e0.1)] → wP g wx A s.heap e0.2 H locs → W p l e (rmD 6) s m args below meth c H locs 0 0 Q (F0 m 72 ls [])) : ∀ (n : Nat) (q : Int32 × Int32 × Int32 × Mm), miter (fun q => vs_onward_b29 q.2.2.2 a1 a2 q.1 q.2.1 q.2.2.1) n q = some e0 → ∀ (ls : Array Slot) (H : Heap) (locs : List Loc), lv_has ls 7 [(0, .ref (ad g 0)), (1, .int a1), (2, .int a2), (3, .int q.1), (4, .int q.2.1), (5, .int q.2.2.1)] → wP g wx A s.heap q.2.2.2 H locs → W p l e (rmD 6) s m args below meth c H locs 0 0 Q (F0 m 29 ls []) := by
  obtain ⟨hx, hb, hml, hown, hts, hK, hN⟩ := id hC
  refine miter_ind (fun q r hf k1 k2 => ?_)
  obtain ⟨xs3, xs4, xs5, μ⟩ := q
  intro ls H locs hl hW
  have h : vs_onward_b29 μ a1 a2 xs3 xs4 xs5 = some r := hf
  unfold vs_onward_b29 at h
  refine lv_iload hx hb dX11_onward_29 (lv_at hl 5 rfl) ?_
  refine lv_iconst (v := 3) hx hb dX11_onward_31 (by decide) ?_
  refine lv_icmp_ge (tgt := 72) hx hb dX11_onward_32 (by decide) (fun hc5 => ?_) (fun hc5 => ?_)
  · replace h := if_p hc5 h
    obtain rfl := k2 _ (Option.some.inj h).symm
    exact kx0 _ _ _ (lv_sub hl [3] rfl) hW
  · replace h := if_n hc5 h
    refine lv_aload_n hx hb dX11_onward_35 rfl (lv_at hl 0 rfl) ?_
    refine lv_iload_n hx hb dX11_onward_36 rfl (lv_at hl 1 rfl) ?_
    refine lv_aload_n hx hb dX11_onward_37 rfl (lv_at hl 0 rfl) ?_
    refine lv_iload hx hb dX11_onward_38 (lv_at hl 5 rfl) ?_
    obtain ⟨x6, hx6, h⟩ := mbv_some h
    refine kr_ci hC hW (kr_runV hC hW hl.1 (t_vs_readersTold hx6) cw_X11_332 (wx_0 g μ) rfl rfl rfl (Nat.le_of_ble_eq_true rfl) dX11_onward_40 (by decide)) (fun H locs hW => ?_)
    refine lv_iload_n hx hb dX11_onward_43 rfl (lv_at hl 2 rfl) ?_
    obtain ⟨x7, μ8, hx7, h⟩ := mbm_some h
    refine kr_ci hC hW (kr_runV hC hW hl.1 (t_vs_wantersOf hx7) cw_X11_336 (wx_0 g μ) rfl rfl rfl (Nat.le_of_ble_eq_true rfl) dX11_onward_44 (by decide)) (fun H locs hW => ?_)
    obtain ⟨x9, hx9, h⟩ := mbv_some h
    refine kr_ci hC hW (kr_runS hC hW hl.1 (t_vs_Integer_bitCount_0f7a4 hx9) cw_X11_241 rfl rfl (Nat.le_of_ble_eq_true rfl) dX11_onward_47 (by decide)) (fun H locs hW => ?_)
    refine lv_istore (lv' := [(6, .int x9), (0, .ref (ad g 0)), (1, .int a1), (2, .int a2), (3, .int xs3), (4, .int xs4), (5, .int xs5)]) hx hb dX11_onward_50 hl (by decide) rfl (fun ls hl => ?_)
    refine lv_iload hx hb dX11_onward_52 (lv_at hl 0 rfl) ?_
    refine lv_iload hx hb dX11_onward_54 (lv_at hl 5 rfl) ?_
    refine lv_icmp_le (tgt := 66) hx hb dX11_onward_56 (by decide) (fun hc10 => ?_) (fun hc10 => ?_)
    · replace h := if_p hc10 h
      refine lv_iinc (v := (xs5 + 1)) (lv' := [(5, .int (xs5 + 1)), (6, .int x9), (0, .ref (ad g 0)), (1, .int a1), (2, .int a2), (3, .int xs3), (4, .int xs4)]) hx hb dX11_onward_66 hl (k := 6) rfl (by rw [oi_1]) (by decide) rfl (fun ls hl => ?_)
      refine lv_goto (tgt := 29) hx hb dX11_onward_69 (by decide) ?_
      exact k1 (xs3, xs4, (xs5 + 1), μ8) (Option.some.inj h).symm _ _ _ (lv_sub hl [2, 3, 4, 5, 6, 0] rfl) hW
    · replace h := if_n hc10 h
      refine lv_iload hx hb dX11_onward_59 (lv_at hl 6 rfl) ?_
      refine lv_istore_n (lv' := [(3, .int xs5), (6, .int x9), (0, .ref (ad g 0)), (1, .int a1), (2, .int a2), (4, .int xs4), (5, .int xs5)]) hx hb dX11_onward_61 rfl hl (by decide) rfl (fun ls hl => ?_)
      refine lv_iload hx hb dX11_onward_62 (lv_at hl 1 rfl) ?_
      refine lv_istore (lv' := [(4, .int x9), (3, .int xs5), (6, .int x9), (0, .ref (ad g 0)), (1, .int a1), (2, .int a2), (5, .int xs5)]) hx hb dX11_onward_64 hl (by decide) rfl (fun ls hl => ?_)
      refine lv_iinc (v := (xs5 + 1)) (lv' := [(5, .int (xs5 + 1)), (4, .int x9), (3, .int xs5), (6, .int x9), (0, .ref (ad g 0)), (1, .int a1), (2, .int a2)]) hx hb dX11_onward_66 hl (k := 6) rfl (by rw [oi_1]) (by decide) rfl (fun ls hl => ?_)
      refine lv_goto (tgt := 29) hx hb dX11_onward_69 (by decide) ?_
      exact k1 (xs5, x9, (xs5 + 1), μ8) (Option.some.inj h).symm _ _ _ (lv_sub hl [4, 5, 6, 2, 1, 0] rfl) hW
set_option maxHeartbeats 4000000 in
set_option maxRecDepth 100000 in
theorem t_vs_onward {l : Launch} {g : Gx} {A : Nat → Prop} {μ : Mm} {a1 : Int32} {a2 : Int32} {v : Int32} {u : Mm} (h : vs_onward μ a1 a2 = some (v, u)) : Cti l g A wx yX11_onward cX11_onward 7 (some .int) 6 [.ref (ad g 0), .int a1, .int a2] μ v u := by
  refine ent (lv := [(0, .ref (ad g 0)), (1, .int a1), (2, .int a2)]) (by decide) (Nat.le_of_ble_eq_true rfl) rfl ?_
  intro p e s m args below meth c hC hr hlocks hnm hW ls hl
  replace hC : Cx g RX11 cX11_onward 7 p s m args c := hC
  obtain ⟨hx, hb, hml, hown, hts, hK, hN⟩ := id hC
  unfold vs_onward at h
  refine lv_aload_n hx hb dX11_onward_0 rfl (lv_at hl 0 rfl) ?_
  refine gf_X11_19_x0 hC hW dX11_onward_1 ?_
  refine lv_iload_n hx hb dX11_onward_4 rfl (lv_at hl 1 rfl) ?_
  obtain ⟨x1, hx1, h⟩ := mbv_some h
  refine kr_ci hC hW (kr_runV hC hW hl.1 (t_vs_Books_has hx1) cw_X11_185 (wx_2 g μ) rfl rfl rfl (Nat.le_of_ble_eq_true rfl) dX11_onward_5 (by decide)) (fun H locs hW => ?_)
  refine lv_if_eq (tgt := 18) hx hb dX11_onward_8 (by decide) (fun hc2 => ?_) (fun hc2 => ?_)
  · replace h := if_p hc2 h
    refine lv_iconst (v := (-1)) hx hb dX11_onward_18 (by decide) ?_
    cases h
    exact kr_iret hC hr hlocks hW dX11_onward_19
  · replace h := if_n hc2 h
    refine lv_iload_n hx hb dX11_onward_11 rfl (lv_at hl 2 rfl) ?_
    obtain ⟨x3, hx3, h⟩ := mbv_some h
    refine kr_ci hC hW (kr_runS hC hW hl.1 (t_vs_isMuch hx3) cw_X11_289 rfl rfl (Nat.le_of_ble_eq_true rfl) dX11_onward_12 (by decide)) (fun H locs hW => ?_)
    refine lv_if_ne (tgt := 20) hx hb dX11_onward_15 (by decide) (fun hc4 => ?_) (fun hc4 => ?_)
    · replace h := if_n hc4 h
      refine lv_bipush (v := (-2)) hx hb dX11_onward_20 (by decide) ?_
      refine lv_istore_n (lv' := [(3, .int (-2)), (0, .ref (ad g 0)), (1, .int a1), (2, .int a2)]) hx hb dX11_onward_22 rfl hl (by decide) rfl (fun ls hl => ?_)
      refine lv_iconst (v := 0) hx hb dX11_onward_23 (by decide) ?_
      refine lv_istore (lv' := [(4, .int 0), (3, .int (-2)), (0, .ref (ad g 0)), (1, .int a1), (2, .int a2)]) hx hb dX11_onward_24 hl (by decide) rfl (fun ls hl => ?_)
      refine lv_iconst (v := 0) hx hb dX11_onward_26 (by decide) ?_
      refine lv_istore (lv' := [(5, .int 0), (4, .int 0), (3, .int (-2)), (0, .ref (ad g 0)), (1, .int a1), (2, .int a2)]) hx hb dX11_onward_27 hl (by decide) rfl (fun ls hl => ?_)
      obtain ⟨e0, he13, h⟩ := mbv_some h
      obtain ⟨x11, μ12, ee, h9⟩ := un2_ex h
      clear h
      subst ee
      have h := h9
      clear h9
      refine tl_vs_onward_29 a1 a2 hC (fun ls H locs hl hW => ?_) FU ((-2), 0, 0, μ) he13 _ _ _ (lv_sub hl [3, 4, 5, 2, 1, 0] rfl) hW
      refine lv_iload_n hx hb dX11_onward_72 rfl (lv_at hl 0 rfl) ?_
      cases h
      exact kr_iret hC hr hlocks hW dX11_onward_73
    · replace h := if_p hc4 h
      refine lv_iconst (v := (-1)) hx hb dX11_onward_18 (by decide) ?_
      cases h
      exact kr_iret hC hr hlocks hW dX11_onward_19
set_option maxHeartbeats 4000000 in
set_option maxRecDepth 100000 in
theorem tl_vs_Stops_vansWithin_6 (μ : Mm) (a1 : Int32) (a3 : Int32) (hC : Cx g RX8 cX8_vansWithin 6 p s m args c) {e0 : (Int32)} (kx0 : ∀ (ls : Array Slot) (H : Heap) (locs : List Loc), lv_has ls 6 [(4, .int e0)] → wP g wx A s.heap μ H locs → W p l e (rmD 4) s m args below meth c H locs 0 0 Q (F0 m 30 ls [])) : ∀ (n : Nat) (q : Int32 × Int32), miter (fun q => vs_Stops_vansWithin_b6 μ a1 a3 q.1 q.2) n q = some e0 → ∀ (ls : Array Slot) (H : Heap) (locs : List Loc), lv_has ls 6 [(0, .ref (ad g 4)), (1, .int a1), (3, .int a3), (4, .int q.1), (5, .int q.2)] → wP g wx A s.heap μ H locs → W p l e (rmD 4) s m args below meth c H locs 0 0 Q (F0 m 6 ls []) := by
  obtain ⟨hx, hb, hml, hown, hts, hK, hN⟩ := id hC
  refine miter_ind (fun q r hf k1 k2 => ?_)
  obtain ⟨xs4, xs5⟩ := q
  intro ls H locs hl hW
  have h : vs_Stops_vansWithin_b6 μ a1 a3 xs4 xs5 = some r := hf
  unfold vs_Stops_vansWithin_b6 at h
  refine lv_iload hx hb dX8_vansWithin_6 (lv_at hl 4 rfl) ?_
  refine lv_iload_n hx hb dX8_vansWithin_8 rfl (lv_at hl 2 rfl) ?_
  refine lv_icmp_gt (tgt := 30) hx hb dX8_vansWithin_9 (by decide) (fun hc1 => ?_) (fun hc1 => ?_)
  · replace h := if_p hc1 h
    obtain rfl := k2 _ (Option.some.inj h).symm
    exact kx0 _ _ _ (lv_sub hl [3] rfl) hW
  · replace h := if_n hc1 h
    refine lv_iload hx hb dX8_vansWithin_12 (lv_at hl 3 rfl) ?_
    refine lv_aload_n hx hb dX8_vansWithin_14 rfl (lv_at hl 0 rfl) ?_
    refine lv_iload_n hx hb dX8_vansWithin_15 rfl (lv_at hl 1 rfl) ?_
    refine lv_iload hx hb dX8_vansWithin_16 (lv_at hl 4 rfl) ?_
    obtain ⟨x2, hx2, h⟩ := mbv_some h
    refine kr_ci hC hW (kr_runV hC hW hl.1 (t_vs_Stops_vansAt hx2) cw_X8_76 (wx_4 g μ) rfl rfl rfl (Nat.le_of_ble_eq_true rfl) dX8_vansWithin_18 (by decide)) (fun H locs hW => ?_)
    refine lv_ior hx hb dX8_vansWithin_21 ?_
    refine lv_istore (lv' := [(4, .int (xs4 ||| x2)), (0, .ref (ad g 4)), (1, .int a1), (3, .int a3), (5, .int xs5)]) hx hb dX8_vansWithin_22 hl (by decide) rfl (fun ls hl => ?_)
    refine lv_iinc (v := (xs5 + 1)) (lv' := [(5, .int (xs5 + 1)), (4, .int (xs4 ||| x2)), (0, .ref (ad g 4)), (1, .int a1), (3, .int a3)]) hx hb dX8_vansWithin_24 hl (k := 4) rfl (by rw [oi_1]) (by decide) rfl (fun ls hl => ?_)
    refine lv_goto (tgt := 6) hx hb dX8_vansWithin_27 (by decide) ?_
    exact k1 ((xs4 ||| x2), (xs5 + 1)) (Option.some.inj h).symm _ _ _ (lv_sub hl [2, 3, 4, 1, 0] rfl) hW
set_option maxHeartbeats 4000000 in
set_option maxRecDepth 100000 in
theorem t_vs_Stops_vansWithin {l : Launch} {g : Gx} {A : Nat → Prop} {μ : Mm} {a1 : Int32} {a2 : Int32} {a3 : Int32} {v : Int32} (h : vs_Stops_vansWithin μ a1 a2 a3 = some v) : Cti l g A wx yX8_vansWithin cX8_vansWithin 6 (some .int) 4 [.ref (ad g 4), .int a1, .int a2, .int a3] μ v μ := by
  refine ent (lv := [(0, .ref (ad g 4)), (1, .int a1), (2, .int a2), (3, .int a3)]) (by decide) (Nat.le_of_ble_eq_true rfl) rfl ?_
  intro p e s m args below meth c hC hr hlocks hnm hW ls hl
  replace hC : Cx g RX8 cX8_vansWithin 6 p s m args c := hC
  obtain ⟨hx, hb, hml, hown, hts, hK, hN⟩ := id hC
  unfold vs_Stops_vansWithin at h
  refine lv_iconst (v := 0) hx hb dX8_vansWithin_0 (by decide) ?_
  refine lv_istore (lv' := [(4, .int 0), (0, .ref (ad g 4)), (1, .int a1), (2, .int a2), (3, .int a3)]) hx hb dX8_vansWithin_1 hl (by decide) rfl (fun ls hl => ?_)
  refine lv_iload_n hx hb dX8_vansWithin_3 rfl (lv_at hl 3 rfl) ?_
  refine lv_istore (lv' := [(5, .int a2), (4, .int 0), (0, .ref (ad g 4)), (1, .int a1), (2, .int a2), (3, .int a3)]) hx hb dX8_vansWithin_4 hl (by decide) rfl (fun ls hl => ?_)
  obtain ⟨x3, he4, h⟩ := mbv_some h
  refine tl_vs_Stops_vansWithin_6 μ a1 a3 hC (fun ls H locs hl hW => ?_) FU (0, a2) he4 _ _ _ (lv_sub hl [2, 3, 5, 1, 0] rfl) hW
  refine lv_iload hx hb dX8_vansWithin_30 (lv_at hl 0 rfl) ?_
  cases h
  exact kr_iret hC hr hlocks hW dX8_vansWithin_32
set_option maxHeartbeats 4000000 in
set_option maxRecDepth 100000 in
theorem tl_vs_different_54 (μ : Mm) (a1 : Int32) (a3 : Int32) (hC : Cx g RX11 cX11_different 7 p s m args c) {e0 : (Int32)} (kx0 : ∀ (ls : Array Slot) (H : Heap) (locs : List Loc), lv_has ls 7 [(4, .int e0)] → wP g wx A s.heap μ H locs → W p l e (rmD 5) s m args below meth c H locs 0 0 Q (F0 m 124 ls [])) : ∀ (n : Nat) (q : Int32 × Int32), miter (fun q => vs_different_b54 μ a1 a3 q.1 q.2) n q = some e0 → ∀ (ls : Array Slot) (H : Heap) (locs : List Loc), lv_has ls 7 [(0, .ref (ad g 0)), (1, .int a1), (3, .int a3), (4, .int q.1), (5, .int q.2)] → wP g wx A s.heap μ H locs → W p l e (rmD 5) s m args below meth c H locs 0 0 Q (F0 m 54 ls []) := by
  obtain ⟨hx, hb, hml, hown, hts, hK, hN⟩ := id hC
  refine miter_ind (fun q r hf k1 k2 => ?_)
  obtain ⟨xs4, xs5⟩ := q
  intro ls H locs hl hW
  have h : vs_different_b54 μ a1 a3 xs4 xs5 = some r := hf
  unfold vs_different_b54 at h
  refine lv_iload hx hb dX11_different_54 (lv_at hl 4 rfl) ?_
  refine lv_aload_n hx hb dX11_different_56 rfl (lv_at hl 0 rfl) ?_
  refine gf_X11_19_x0 hC hW dX11_different_57 ?_
  refine gf_X11_335_x2 hC hW dX11_different_60 ?_
  refine lv_icmp_ge (tgt := 124) hx hb dX11_different_63 (by decide) (fun hc7 => ?_) (fun hc7 => ?_)
  · replace h := if_p hc7 h
    obtain rfl := k2 _ (Option.some.inj h).symm
    exact kx0 _ _ _ (lv_sub hl [3] rfl) hW
  · replace h := if_n hc7 h
    refine lv_aload_n hx hb dX11_different_66 rfl (lv_at hl 0 rfl) ?_
    refine gf_X11_19_x0 hC hW dX11_different_67 ?_
    refine lv_iload hx hb dX11_different_70 (lv_at hl 4 rfl) ?_
    obtain ⟨x8, hx8, h⟩ := mbv_some h
    refine kr_ci hC hW (kr_runV hC hW hl.1 (t_vs_Books_vanOf hx8) cw_X11_199 (wx_2 g μ) rfl rfl rfl (Nat.le_of_ble_eq_true rfl) dX11_different_72 (by decide)) (fun H locs hW => ?_)
    refine lv_istore (lv' := [(6, .int x8), (0, .ref (ad g 0)), (1, .int a1), (3, .int a3), (4, .int xs4), (5, .int xs5)]) hx hb dX11_different_75 hl (by decide) rfl (fun ls hl => ?_)
    refine lv_iload hx hb dX11_different_77 (lv_at hl 0 rfl) ?_
    refine lv_iconst (v := (-1)) hx hb dX11_different_79 (by decide) ?_
    refine lv_icmp_eq (tgt := 118) hx hb dX11_different_80 (by decide) (fun hc9 => ?_) (fun hc9 => ?_)
    · replace h := if_p hc9 h
      refine lv_iinc (v := (xs5 + 1)) (lv' := [(5, .int (xs5 + 1)), (6, .int x8), (0, .ref (ad g 0)), (1, .int a1), (3, .int a3), (4, .int xs4)]) hx hb dX11_different_118 hl (k := 5) rfl (by rw [oi_1]) (by decide) rfl (fun ls hl => ?_)
      refine lv_goto (tgt := 54) hx hb dX11_different_121 (by decide) ?_
      exact k1 (xs4, (xs5 + 1)) (Option.some.inj h).symm _ _ _ (lv_sub hl [2, 3, 4, 5, 0] rfl) hW
    · replace h := if_n hc9 h
      refine lv_iload_n hx hb dX11_different_83 rfl (lv_at hl 3 rfl) ?_
      refine lv_iload hx hb dX11_different_84 (lv_at hl 0 rfl) ?_
      obtain ⟨x10, hx10, h⟩ := mbv_some h
      refine kr_ci hC hW (kr_runS hC hW hl.1 (t_vs_hasBit hx10) cw_X11_320 rfl rfl (Nat.le_of_ble_eq_true rfl) dX11_different_86 (by decide)) (fun H locs hW => ?_)
      refine lv_if_eq (tgt := 118) hx hb dX11_different_89 (by decide) (fun hc11 => ?_) (fun hc11 => ?_)
      · replace h := if_p hc11 h
        refine lv_iinc (v := (xs5 + 1)) (lv' := [(5, .int (xs5 + 1)), (6, .int x8), (0, .ref (ad g 0)), (1, .int a1), (3, .int a3), (4, .int xs4)]) hx hb dX11_different_118 hl (k := 5) rfl (by rw [oi_1]) (by decide) rfl (fun ls hl => ?_)
        refine lv_goto (tgt := 54) hx hb dX11_different_121 (by decide) ?_
        exact k1 (xs4, (xs5 + 1)) (Option.some.inj h).symm _ _ _ (lv_sub hl [2, 3, 4, 5, 0] rfl) hW
      · replace h := if_n hc11 h
        refine lv_aload_n hx hb dX11_different_92 rfl (lv_at hl 1 rfl) ?_
        refine gf_X11_19_x0 hC hW dX11_different_93 ?_
        refine gf_X11_238_x2 hC hW dX11_different_96 ?_
        refine lv_iload hx hb dX11_different_99 (lv_at hl 5 rfl) ?_
        obtain ⟨x12, ex12, hin, h⟩ := mrd_ex h
        refine kr_iald hC hW (wx_23 g μ) hin ex12 dX11_different_101 ?_
        refine lv_aload_n hx hb dX11_different_102 rfl (lv_at hl 1 rfl) ?_
        refine gf_X11_33_x0 hC hW dX11_different_103 ?_
        refine gf_X11_129_x4 hC hW dX11_different_106 ?_
        refine lv_iload_n hx hb dX11_different_109 rfl (lv_at hl 2 rfl) ?_
        obtain ⟨x13, ex13, hin, h⟩ := mrd_ex h
        refine kr_iald hC hW (wx_39 g μ) hin ex13 dX11_different_110 ?_
        refine lv_iand hx hb dX11_different_111 ?_
        refine lv_if_ne (tgt := 118) hx hb dX11_different_112 (by decide) (fun hc14 => ?_) (fun hc14 => ?_)
        · replace h := if_n hc14 h
          refine lv_iinc (v := (xs5 + 1)) (lv' := [(5, .int (xs5 + 1)), (6, .int x8), (0, .ref (ad g 0)), (1, .int a1), (3, .int a3), (4, .int xs4)]) hx hb dX11_different_118 hl (k := 5) rfl (by rw [oi_1]) (by decide) rfl (fun ls hl => ?_)
          refine lv_goto (tgt := 54) hx hb dX11_different_121 (by decide) ?_
          exact k1 (xs4, (xs5 + 1)) (Option.some.inj h).symm _ _ _ (lv_sub hl [2, 3, 4, 5, 0] rfl) hW
        · replace h := if_p hc14 h
          refine lv_iinc (v := (xs4 + 1)) (lv' := [(4, .int (xs4 + 1)), (6, .int x8), (0, .ref (ad g 0)), (1, .int a1), (3, .int a3), (5, .int xs5)]) hx hb dX11_different_115 hl (k := 4) rfl (by rw [oi_1]) (by decide) rfl (fun ls hl => ?_)
          refine lv_iinc (v := (xs5 + 1)) (lv' := [(5, .int (xs5 + 1)), (4, .int (xs4 + 1)), (6, .int x8), (0, .ref (ad g 0)), (1, .int a1), (3, .int a3)]) hx hb dX11_different_118 hl (k := 5) rfl (by rw [oi_1]) (by decide) rfl (fun ls hl => ?_)
          refine lv_goto (tgt := 54) hx hb dX11_different_121 (by decide) ?_
          exact k1 ((xs4 + 1), (xs5 + 1)) (Option.some.inj h).symm _ _ _ (lv_sub hl [3, 4, 5, 1, 0] rfl) hW
set_option maxHeartbeats 4000000 in
set_option maxRecDepth 100000 in
theorem t_vs_different {l : Launch} {g : Gx} {A : Nat → Prop} {μ : Mm} {a1 : Int32} {a2 : Int32} {v : Int32} (h : vs_different μ a1 a2 = some v) : Cti l g A wx yX11_different cX11_different 7 (some .int) 5 [.ref (ad g 0), .int a1, .int a2] μ v μ := by
  refine ent (lv := [(0, .ref (ad g 0)), (1, .int a1), (2, .int a2)]) (by decide) (Nat.le_of_ble_eq_true rfl) rfl ?_
  intro p e s m args below meth c hC hr hlocks hnm hW ls hl
  replace hC : Cx g RX11 cX11_different 7 p s m args c := hC
  obtain ⟨hx, hb, hml, hown, hts, hK, hN⟩ := id hC
  unfold vs_different at h
  refine lv_aload_n hx hb dX11_different_0 rfl (lv_at hl 0 rfl) ?_
  refine gf_X11_33_x0 hC hW dX11_different_1 ?_
  refine lv_iload_n hx hb dX11_different_4 rfl (lv_at hl 1 rfl) ?_
  obtain ⟨x1, hx1, h⟩ := mbv_some h
  refine kr_ci hC hW (kr_runV hC hW hl.1 (t_vs_Stops_has hx1) cw_X11_119 (wx_4 g μ) rfl rfl rfl (Nat.le_of_ble_eq_true rfl) dX11_different_5 (by decide)) (fun H locs hW => ?_)
  refine lv_if_eq (tgt := 18) hx hb dX11_different_8 (by decide) (fun hc2 => ?_) (fun hc2 => ?_)
  · replace h := if_p hc2 h
    refine lv_iconst (v := (-1)) hx hb dX11_different_18 (by decide) ?_
    cases h
    exact kr_iret hC hr hlocks hW dX11_different_19
  · replace h := if_n hc2 h
    refine lv_iload_n hx hb dX11_different_11 rfl (lv_at hl 2 rfl) ?_
    obtain ⟨x3, hx3, h⟩ := mbv_some h
    refine kr_ci hC hW (kr_runS hC hW hl.1 (t_vs_isDay hx3) cw_X11_179 rfl rfl (Nat.le_of_ble_eq_true rfl) dX11_different_12 (by decide)) (fun H locs hW => ?_)
    refine lv_if_ne (tgt := 20) hx hb dX11_different_15 (by decide) (fun hc4 => ?_) (fun hc4 => ?_)
    · replace h := if_n hc4 h
      refine lv_aload_n hx hb dX11_different_20 rfl (lv_at hl 0 rfl) ?_
      refine gf_X11_33_x0 hC hW dX11_different_21 ?_
      refine lv_iload_n hx hb dX11_different_24 rfl (lv_at hl 1 rfl) ?_
      refine lv_iload_n hx hb dX11_different_25 rfl (lv_at hl 2 rfl) ?_
      refine lv_iload_n hx hb dX11_different_26 rfl (lv_at hl 2 rfl) ?_
      refine lv_bipush (v := 14) hx hb dX11_different_27 (by decide) ?_
      refine lv_iadd hx hb dX11_different_29 ?_
      refine lv_iconst (v := 1) hx hb dX11_different_30 (by decide) ?_
      refine lv_isub hx hb dX11_different_31 ?_
      refine lv_sipush (v := 199) hx hb dX11_different_32 (by decide) ?_
      refine va_mmin hx hb (hml.trans hl.1.symm) hown (hts _ tw_1008) (hts _ tw_571) (hts _ tw_15) (hts _ mth_min) (by decide) (Nat.le_of_ble_eq_true rfl) (Nat.le_refl 0) (Nat.le_refl 0) dX11_different_35 ?_
      refine W.eq (g2 := F0 m 38 ls [.int (jmin ((a2 + 14) - 1) 199), .int a2, .int a1, .ref (ad g 4)]) rfl ?_
      obtain ⟨x5, hx5, h⟩ := mbv_some h
      refine kr_ci hC hW (kr_runV hC hW hl.1 (t_vs_Stops_vansWithin hx5) cw_X11_344 (wx_4 g μ) rfl rfl rfl (Nat.le_of_ble_eq_true rfl) dX11_different_38 (by decide)) (fun H locs hW => ?_)
      refine lv_istore_n (lv' := [(3, .int x5), (0, .ref (ad g 0)), (1, .int a1), (2, .int a2)]) hx hb dX11_different_41 rfl hl (by decide) rfl (fun ls hl => ?_)
      refine lv_iload_n hx hb dX11_different_42 rfl (lv_at hl 0 rfl) ?_
      refine lv_if_ne (tgt := 48) hx hb dX11_different_43 (by decide) (fun hc6 => ?_) (fun hc6 => ?_)
      · replace h := if_n hc6 h
        refine lv_iconst (v := 0) hx hb dX11_different_48 (by decide) ?_
        refine lv_istore (lv' := [(4, .int 0), (3, .int x5), (0, .ref (ad g 0)), (1, .int a1), (2, .int a2)]) hx hb dX11_different_49 hl (by decide) rfl (fun ls hl => ?_)
        refine lv_iconst (v := 0) hx hb dX11_different_51 (by decide) ?_
        refine lv_istore (lv' := [(5, .int 0), (4, .int 0), (3, .int x5), (0, .ref (ad g 0)), (1, .int a1), (2, .int a2)]) hx hb dX11_different_52 hl (by decide) rfl (fun ls hl => ?_)
        obtain ⟨x15, he16, h⟩ := mbv_some h
        refine tl_vs_different_54 μ a1 x5 hC (fun ls H locs hl hW => ?_) FU (0, 0) he16 _ _ _ (lv_sub hl [3, 4, 2, 1, 0] rfl) hW
        refine lv_iload hx hb dX11_different_124 (lv_at hl 0 rfl) ?_
        cases h
        exact kr_iret hC hr hlocks hW dX11_different_126
      · replace h := if_p hc6 h
        refine lv_iconst (v := (-1)) hx hb dX11_different_46 (by decide) ?_
        cases h
        exact kr_iret hC hr hlocks hW dX11_different_47
    · replace h := if_p hc4 h
      refine lv_iconst (v := (-1)) hx hb dX11_different_18 (by decide) ?_
      cases h
      exact kr_iret hC hr hlocks hW dX11_different_19
set_option maxHeartbeats 4000000 in
set_option maxRecDepth 100000 in
theorem t_vs_pace {l : Launch} {g : Gx} {A : Nat → Prop} {μ : Mm} {a1 : Int32} {v : Bool} {u : Mm} (h : vs_pace μ a1 = some (v, u)) : Cti l g A wx yX11_pace cX11_pace 2 (some .boolean) 1 [.ref (ad g 0), .int a1] μ (bI v) u := by
  refine ent (lv := [(0, .ref (ad g 0)), (1, .int a1)]) (by decide) (Nat.le_of_ble_eq_true rfl) rfl ?_
  intro p e s m args below meth c hC hr hlocks hnm hW ls hl
  replace hC : Cx g RX11 cX11_pace 2 p s m args c := hC
  obtain ⟨hx, hb, hml, hown, hts, hK, hN⟩ := id hC
  unfold vs_pace at h
  refine lv_iload_n hx hb dX11_pace_0 rfl (lv_at hl 1 rfl) ?_
  refine lv_iconst (v := 1) hx hb dX11_pace_1 (by decide) ?_
  refine lv_bipush (v := 9) hx hb dX11_pace_2 (by decide) ?_
  obtain ⟨x1, hx1, h⟩ := mbv_some h
  refine kr_ci hC hW (kr_runS hC hW hl.1 (t_vs_within hx1) cw_X11_100 rfl rfl (Nat.le_of_ble_eq_true rfl) dX11_pace_4 (by decide)) (fun H locs hW => ?_)
  refine lv_if_ne (tgt := 12) hx hb dX11_pace_7 (by decide) (fun hc2 => ?_) (fun hc2 => ?_)
  · replace h := if_n hc2 h
    refine lv_aload_n hx hb dX11_pace_12 rfl (lv_at hl 0 rfl) ?_
    refine gf_X11_65_x0 hC hW dX11_pace_13 ?_
    refine lv_iload_n hx hb dX11_pace_16 rfl (lv_at hl 1 rfl) ?_
    obtain ⟨μ3, eμ3, h⟩ := mst_some h
    refine pf_X11_347_x8 hC hW eμ3 dX11_pace_17 (fun H locs hW => ?_)
    refine lv_iconst (v := 1) hx hb dX11_pace_20 (by decide) ?_
    cases h
    exact kr_zret hC hr hlocks _ rfl hW dX11_pace_21
  · replace h := if_p hc2 h
    refine lv_iconst (v := 0) hx hb dX11_pace_10 (by decide) ?_
    cases h
    exact kr_zret hC hr hlocks _ rfl hW dX11_pace_11
set_option maxHeartbeats 4000000 in
set_option maxRecDepth 100000 in
theorem t_vs_Rounds_xOf {l : Launch} {g : Gx} {A : Nat → Prop} {μ : Mm} {a1 : Int32} {v : Int32} (h : vs_Rounds_xOf μ a1 = some v) : Cti l g A wx yX6_xOf cX6_xOf 2 (some .int) 0 [.ref (ad g 8), .int a1] μ v μ := by
  refine ent (lv := [(0, .ref (ad g 8)), (1, .int a1)]) (by decide) (Nat.le_of_ble_eq_true rfl) rfl ?_
  intro p e s m args below meth c hC hr hlocks hnm hW ls hl
  replace hC : Cx g RX6 cX6_xOf 2 p s m args c := hC
  obtain ⟨hx, hb, hml, hown, hts, hK, hN⟩ := id hC
  unfold vs_Rounds_xOf at h
  refine lv_iload_n hx hb dX6_xOf_0 rfl (lv_at hl 1 rfl) ?_
  refine lv_aload_n hx hb dX6_xOf_1 rfl (lv_at hl 0 rfl) ?_
  refine gf_X6_29_x8 hC hW dX6_xOf_2 ?_
  refine lv_icmp_ge (tgt := 25) hx hb dX6_xOf_5 (by decide) (fun hc1 => ?_) (fun hc1 => ?_)
  · replace h := if_p hc1 h
    refine lv_iconst (v := 0) hx hb dX6_xOf_25 (by decide) ?_
    cases h
    exact kr_iret hC hr hlocks hW dX6_xOf_26
  · replace h := if_n hc1 h
    refine lv_aload_n hx hb dX6_xOf_8 rfl (lv_at hl 0 rfl) ?_
    refine gf_X6_25_x8 hC hW dX6_xOf_9 ?_
    refine gf_X6_75_x4 hC hW dX6_xOf_12 ?_
    refine lv_aload_n hx hb dX6_xOf_15 rfl (lv_at hl 0 rfl) ?_
    refine gf_X6_9_x8 hC hW dX6_xOf_16 ?_
    refine lv_iload_n hx hb dX6_xOf_19 rfl (lv_at hl 1 rfl) ?_
    obtain ⟨x2, ex2, hin, h⟩ := mrd_ex h
    refine kr_iald hC hW (wx_53 g μ) hin ex2 dX6_xOf_20 ?_
    obtain ⟨x3, ex3, hin, h⟩ := mrd_ex h
    refine kr_iald hC hW (wx_32 g μ) hin ex3 dX6_xOf_21 ?_
    refine lv_goto (tgt := 26) hx hb dX6_xOf_22 (by decide) ?_
    cases h
    exact kr_iret hC hr hlocks hW dX6_xOf_26
set_option maxHeartbeats 4000000 in
set_option maxRecDepth 100000 in
theorem t_vs_Rounds_yOf {l : Launch} {g : Gx} {A : Nat → Prop} {μ : Mm} {a1 : Int32} {v : Int32} (h : vs_Rounds_yOf μ a1 = some v) : Cti l g A wx yX6_yOf cX6_yOf 2 (some .int) 0 [.ref (ad g 8), .int a1] μ v μ := by
  refine ent (lv := [(0, .ref (ad g 8)), (1, .int a1)]) (by decide) (Nat.le_of_ble_eq_true rfl) rfl ?_
  intro p e s m args below meth c hC hr hlocks hnm hW ls hl
  replace hC : Cx g RX6 cX6_yOf 2 p s m args c := hC
  obtain ⟨hx, hb, hml, hown, hts, hK, hN⟩ := id hC
  unfold vs_Rounds_yOf at h
  refine lv_iload_n hx hb dX6_yOf_0 rfl (lv_at hl 1 rfl) ?_
  refine lv_aload_n hx hb dX6_yOf_1 rfl (lv_at hl 0 rfl) ?_
  refine gf_X6_29_x8 hC hW dX6_yOf_2 ?_
  refine lv_icmp_ge (tgt := 25) hx hb dX6_yOf_5 (by decide) (fun hc1 => ?_) (fun hc1 => ?_)
  · replace h := if_p hc1 h
    refine lv_iconst (v := 0) hx hb dX6_yOf_25 (by decide) ?_
    cases h
    exact kr_iret hC hr hlocks hW dX6_yOf_26
  · replace h := if_n hc1 h
    refine lv_aload_n hx hb dX6_yOf_8 rfl (lv_at hl 0 rfl) ?_
    refine gf_X6_25_x8 hC hW dX6_yOf_9 ?_
    refine gf_X6_78_x4 hC hW dX6_yOf_12 ?_
    refine lv_aload_n hx hb dX6_yOf_15 rfl (lv_at hl 0 rfl) ?_
    refine gf_X6_9_x8 hC hW dX6_yOf_16 ?_
    refine lv_iload_n hx hb dX6_yOf_19 rfl (lv_at hl 1 rfl) ?_
    obtain ⟨x2, ex2, hin, h⟩ := mrd_ex h
    refine kr_iald hC hW (wx_53 g μ) hin ex2 dX6_yOf_20 ?_
    obtain ⟨x3, ex3, hin, h⟩ := mrd_ex h
    refine kr_iald hC hW (wx_33 g μ) hin ex3 dX6_yOf_21 ?_
    refine lv_goto (tgt := 26) hx hb dX6_yOf_22 (by decide) ?_
    cases h
    exact kr_iret hC hr hlocks hW dX6_yOf_26
set_option maxHeartbeats 4000000 in
set_option maxRecDepth 100000 in
theorem tl_vs_Rounds_measureWays_12 (a1 : Int32) (hC : Cx g RX6 cX6_measureWays 3 p s m args c) {e0 : (Mm)} (kx0 : ∀ (ls : Array Slot) (H : Heap) (locs : List Loc), lv_has ls 3 [(0, .ref (ad g 8)), (1, .int a1)] → wP g wx A s.heap e0 H locs → W p l e (rmD 1) s m args below meth c H locs 0 0 Q (F0 m 66 ls [])) : ∀ (n : Nat) (q : Int32 × Mm), miter (fun q => vs_Rounds_measureWays_b12 q.2 a1 q.1) n q = some e0 → ∀ (ls : Array Slot) (H : Heap) (locs : List Loc), lv_has ls 3 [(0, .ref (ad g 8)), (1, .int a1), (2, .int q.1)] → wP g wx A s.heap q.2 H locs → W p l e (rmD 1) s m args below meth c H locs 0 0 Q (F0 m 12 ls []) := by
  obtain ⟨hx, hb, hml, hown, hts, hK, hN⟩ := id hC
  refine miter_ind (fun q r hf k1 k2 => ?_)
  obtain ⟨xs2, μ⟩ := q
  intro ls H locs hl hW
  have h : vs_Rounds_measureWays_b12 μ a1 xs2 = some r := hf
  unfold vs_Rounds_measureWays_b12 at h
  refine lv_iload_n hx hb dX6_measureWays_12 rfl (lv_at hl 2 rfl) ?_
  refine lv_aload_n hx hb dX6_measureWays_13 rfl (lv_at hl 0 rfl) ?_
  refine gf_X6_29_x8 hC hW dX6_measureWays_14 ?_
  refine lv_icmp_gt (tgt := 66) hx hb dX6_measureWays_17 (by decide) (fun hc2 => ?_) (fun hc2 => ?_)
  · replace h := if_p hc2 h
    obtain rfl := k2 _ (Option.some.inj h).symm
    exact kx0 _ _ _ (lv_sub hl [0, 1] rfl) hW
  · replace h := if_n hc2 h
    refine lv_aload_n hx hb dX6_measureWays_20 rfl (lv_at hl 0 rfl) ?_
    refine gf_X6_15_x8 hC hW dX6_measureWays_21 ?_
    refine lv_iload_n hx hb dX6_measureWays_24 rfl (lv_at hl 1 rfl) ?_
    refine lv_bipush (v := 9) hx hb dX6_measureWays_25 (by decide) ?_
    refine lv_imul hx hb dX6_measureWays_27 ?_
    refine lv_iload_n hx hb dX6_measureWays_28 rfl (lv_at hl 2 rfl) ?_
    refine lv_iadd hx hb dX6_measureWays_29 ?_
    refine lv_aload_n hx hb dX6_measureWays_30 rfl (lv_at hl 0 rfl) ?_
    refine lv_iload_n hx hb dX6_measureWays_31 rfl (lv_at hl 1 rfl) ?_
    obtain ⟨x3, hx3, h⟩ := mbv_some h
    refine kr_ci hC hW (kr_runV hC hW hl.1 (t_vs_Rounds_xOf hx3) cw_X6_64 (wx_8 g μ) rfl rfl rfl (Nat.le_of_ble_eq_true rfl) dX6_measureWays_32 (by decide)) (fun H locs hW => ?_)
    refine lv_aload_n hx hb dX6_measureWays_35 rfl (lv_at hl 0 rfl) ?_
    refine lv_iload_n hx hb dX6_measureWays_36 rfl (lv_at hl 2 rfl) ?_
    obtain ⟨x4, hx4, h⟩ := mbv_some h
    refine kr_ci hC hW (kr_runV hC hW hl.1 (t_vs_Rounds_xOf hx4) cw_X6_64 (wx_8 g μ) rfl rfl rfl (Nat.le_of_ble_eq_true rfl) dX6_measureWays_37 (by decide)) (fun H locs hW => ?_)
    refine lv_isub hx hb dX6_measureWays_40 ?_
    refine va_mabs hx hb (hml.trans hl.1.symm) hown (hts _ tw_1035) (hts _ tw_1036) (hts _ tw_15) (hts _ mth_abs) (by decide) (Nat.le_of_ble_eq_true rfl) (Nat.le_refl 0) (Nat.le_refl 0) dX6_measureWays_41 ?_
    refine W.eq (g2 := F0 m 44 ls [.int (jabs (x3 - x4)), .int ((a1 * 9) + xs2), .ref (ad g 54)]) rfl ?_
    refine lv_aload_n hx hb dX6_measureWays_44 rfl (lv_at hl 0 rfl) ?_
    refine lv_iload_n hx hb dX6_measureWays_45 rfl (lv_at hl 1 rfl) ?_
    obtain ⟨x5, hx5, h⟩ := mbv_some h
    refine kr_ci hC hW (kr_runV hC hW hl.1 (t_vs_Rounds_yOf hx5) cw_X6_72 (wx_8 g μ) rfl rfl rfl (Nat.le_of_ble_eq_true rfl) dX6_measureWays_46 (by decide)) (fun H locs hW => ?_)
    refine lv_aload_n hx hb dX6_measureWays_49 rfl (lv_at hl 0 rfl) ?_
    refine lv_iload_n hx hb dX6_measureWays_50 rfl (lv_at hl 2 rfl) ?_
    obtain ⟨x6, hx6, h⟩ := mbv_some h
    refine kr_ci hC hW (kr_runV hC hW hl.1 (t_vs_Rounds_yOf hx6) cw_X6_72 (wx_8 g μ) rfl rfl rfl (Nat.le_of_ble_eq_true rfl) dX6_measureWays_51 (by decide)) (fun H locs hW => ?_)
    refine lv_isub hx hb dX6_measureWays_54 ?_
    refine va_mabs hx hb (hml.trans hl.1.symm) hown (hts _ tw_1035) (hts _ tw_1036) (hts _ tw_15) (hts _ mth_abs) (by decide) (Nat.le_of_ble_eq_true rfl) (Nat.le_refl 0) (Nat.le_refl 0) dX6_measureWays_55 ?_
    refine W.eq (g2 := F0 m 58 ls [.int (jabs (x5 - x6)), .int (jabs (x3 - x4)), .int ((a1 * 9) + xs2), .ref (ad g 54)]) rfl ?_
    refine lv_iadd hx hb dX6_measureWays_58 ?_
    obtain ⟨μ7, eμ7, hin, h⟩ := mwr_ex h
    refine kr_iast hC hW (wx_54 g μ) (wxs_54 eμ7) hin dX6_measureWays_59 (fun H locs hW => ?_)
    refine lv_iinc (v := (xs2 + 1)) (lv' := [(2, .int (xs2 + 1)), (0, .ref (ad g 8)), (1, .int a1)]) hx hb dX6_measureWays_60 hl (k := 2) rfl (by rw [oi_1]) (by decide) rfl (fun ls hl => ?_)
    refine lv_goto (tgt := 12) hx hb dX6_measureWays_63 (by decide) ?_
    exact k1 ((xs2 + 1), μ7) (Option.some.inj h).symm _ _ _ (lv_sub hl [1, 2, 0] rfl) hW
set_option maxHeartbeats 4000000 in
set_option maxRecDepth 100000 in
theorem tl_vs_Rounds_measureWays_2 (hC : Cx g RX6 cX6_measureWays 3 p s m args c) {e0 : (Mm)} (kx0 : ∀ (ls : Array Slot) (H : Heap) (locs : List Loc), lv_has ls 3 [] → wP g wx A s.heap e0 H locs → W p l e (rmD 1) s m args below meth c H locs 0 0 Q (F0 m 72 ls [])) : ∀ (n : Nat) (q : Int32 × Mm), miter (fun q => vs_Rounds_measureWays_b2 q.2 q.1) n q = some e0 → ∀ (ls : Array Slot) (H : Heap) (locs : List Loc), lv_has ls 3 [(0, .ref (ad g 8)), (1, .int q.1)] → wP g wx A s.heap q.2 H locs → W p l e (rmD 1) s m args below meth c H locs 0 0 Q (F0 m 2 ls []) := by
  obtain ⟨hx, hb, hml, hown, hts, hK, hN⟩ := id hC
  refine miter_ind (fun q r hf k1 k2 => ?_)
  obtain ⟨xs1, μ⟩ := q
  intro ls H locs hl hW
  have h : vs_Rounds_measureWays_b2 μ xs1 = some r := hf
  unfold vs_Rounds_measureWays_b2 at h
  refine lv_iload_n hx hb dX6_measureWays_2 rfl (lv_at hl 1 rfl) ?_
  refine lv_aload_n hx hb dX6_measureWays_3 rfl (lv_at hl 0 rfl) ?_
  refine gf_X6_29_x8 hC hW dX6_measureWays_4 ?_
  refine lv_icmp_gt (tgt := 72) hx hb dX6_measureWays_7 (by decide) (fun hc1 => ?_) (fun hc1 => ?_)
  · replace h := if_p hc1 h
    obtain rfl := k2 _ (Option.some.inj h).symm
    exact kx0 _ _ _ (lv_sub hl [] rfl) hW
  · replace h := if_n hc1 h
    refine lv_iconst (v := 0) hx hb dX6_measureWays_10 (by decide) ?_
    refine lv_istore_n (lv' := [(2, .int 0), (0, .ref (ad g 8)), (1, .int xs1)]) hx hb dX6_measureWays_11 rfl hl (by decide) rfl (fun ls hl => ?_)
    obtain ⟨μ8, he9, h⟩ := mbv_some h
    refine tl_vs_Rounds_measureWays_12 xs1 hC (fun ls H locs hl hW => ?_) FU (0, μ) he9 _ _ _ (lv_sub hl [1, 2, 0] rfl) hW
    refine lv_iinc (v := (xs1 + 1)) (lv' := [(1, .int (xs1 + 1)), (0, .ref (ad g 8))]) hx hb dX6_measureWays_66 hl (k := 1) rfl (by rw [oi_1]) (by decide) rfl (fun ls hl => ?_)
    refine lv_goto (tgt := 2) hx hb dX6_measureWays_69 (by decide) ?_
    exact k1 ((xs1 + 1), μ8) (Option.some.inj h).symm _ _ _ (lv_sub hl [1, 0] rfl) hW
set_option maxHeartbeats 4000000 in
set_option maxRecDepth 100000 in
theorem t_vs_Rounds_measureWays {l : Launch} {g : Gx} {A : Nat → Prop} {μ : Mm} {u : Mm} (h : vs_Rounds_measureWays μ = some u) : Ctv l g A wx yX6_measureWays cX6_measureWays 3 none 1 [.ref (ad g 8)] μ u := by
  refine ent (lv := [(0, .ref (ad g 8))]) (by decide) (Nat.le_of_ble_eq_true rfl) rfl ?_
  intro p e s m args below meth c hC hr hlocks hnm hW ls hl
  replace hC : Cx g RX6 cX6_measureWays 3 p s m args c := hC
  obtain ⟨hx, hb, hml, hown, hts, hK, hN⟩ := id hC
  unfold vs_Rounds_measureWays at h
  refine lv_iconst (v := 0) hx hb dX6_measureWays_0 (by decide) ?_
  refine lv_istore_n (lv' := [(1, .int 0), (0, .ref (ad g 8))]) hx hb dX6_measureWays_1 rfl hl (by decide) rfl (fun ls hl => ?_)
  obtain ⟨μ10, he11, h⟩ := mbv_some h
  refine tl_vs_Rounds_measureWays_2 hC (fun ls H locs hl hW => ?_) FU (0, μ) he11 _ _ _ (lv_sub hl [1, 0] rfl) hW
  cases h
  exact kr_vret hC hr hlocks hW dX6_measureWays_72
set_option maxHeartbeats 4000000 in
set_option maxRecDepth 100000 in
theorem tl_vs_Rounds_nextHome_8 (μ : Mm) (a1 : Int32) (a2 : Int32) (hC : Cx g RX6 cX6_nextHome 7 p s m args c) {e0 : (Int32)} (kx0 : ∀ (ls : Array Slot) (H : Heap) (locs : List Loc), lv_has ls 7 [(3, .int e0)] → wP g wx A s.heap μ H locs → W p l e (rmD 1) s m args below meth c H locs 0 0 Q (F0 m 86 ls [])) : ∀ (n : Nat) (q : Int32 × Int32 × Int32), miter (fun q => vs_Rounds_nextHome_b8 μ a1 a2 q.1 q.2.1 q.2.2) n q = some e0 → ∀ (ls : Array Slot) (H : Heap) (locs : List Loc), lv_has ls 7 [(0, .ref (ad g 8)), (1, .int a1), (2, .int a2), (3, .int q.1), (4, .int q.2.1), (5, .int q.2.2)] → wP g wx A s.heap μ H locs → W p l e (rmD 1) s m args below meth c H locs 0 0 Q (F0 m 8 ls []) := by
  obtain ⟨hx, hb, hml, hown, hts, hK, hN⟩ := id hC
  refine miter_ind (fun q r hf k1 k2 => ?_)
  obtain ⟨xs3, xs4, xs5⟩ := q
  intro ls H locs hl hW
  have h : vs_Rounds_nextHome_b8 μ a1 a2 xs3 xs4 xs5 = some r := hf
  unfold vs_Rounds_nextHome_b8 at h
  refine lv_iload hx hb dX6_nextHome_8 (lv_at hl 5 rfl) ?_
  refine lv_aload_n hx hb dX6_nextHome_10 rfl (lv_at hl 0 rfl) ?_
  refine gf_X6_29_x8 hC hW dX6_nextHome_11 ?_
  refine lv_icmp_ge (tgt := 86) hx hb dX6_nextHome_14 (by decide) (fun hc1 => ?_) (fun hc1 => ?_)
  · replace h := if_p hc1 h
    obtain rfl := k2 _ (Option.some.inj h).symm
    exact kx0 _ _ _ (lv_sub hl [3] rfl) hW
  · replace h := if_n hc1 h
    refine lv_iload_n hx hb dX6_nextHome_17 rfl (lv_at hl 1 rfl) ?_
    refine lv_iload hx hb dX6_nextHome_18 (lv_at hl 5 rfl) ?_
    obtain ⟨x2, hx2, h⟩ := mbv_some h
    refine kr_ci hC hW (kr_runN hC hW hl.1 (t_vs_hasBit hx2) cw_X6_41 rfl rfl (Nat.le_of_ble_eq_true rfl) dX6_nextHome_20 (by decide)) (fun H locs hW => ?_)
    refine lv_if_eq (tgt := 80) hx hb dX6_nextHome_23 (by decide) (fun hc3 => ?_) (fun hc3 => ?_)
    · replace h := if_p hc3 h
      refine lv_iinc (v := (xs5 + 1)) (lv' := [(5, .int (xs5 + 1)), (0, .ref (ad g 8)), (1, .int a1), (2, .int a2), (3, .int xs3), (4, .int xs4)]) hx hb dX6_nextHome_80 hl (k := 5) rfl (by rw [oi_1]) (by decide) rfl (fun ls hl => ?_)
      refine lv_goto (tgt := 8) hx hb dX6_nextHome_83 (by decide) ?_
      exact k1 (xs3, xs4, (xs5 + 1)) (Option.some.inj h).symm _ _ _ (lv_sub hl [1, 2, 3, 4, 5, 0] rfl) hW
    · replace h := if_n hc3 h
      refine lv_aload_n hx hb dX6_nextHome_26 rfl (lv_at hl 0 rfl) ?_
      refine gf_X6_15_x8 hC hW dX6_nextHome_27 ?_
      refine lv_iload_n hx hb dX6_nextHome_30 rfl (lv_at hl 2 rfl) ?_
      refine lv_bipush (v := 9) hx hb dX6_nextHome_31 (by decide) ?_
      refine lv_imul hx hb dX6_nextHome_33 ?_
      refine lv_iload hx hb dX6_nextHome_34 (lv_at hl 5 rfl) ?_
      refine lv_iadd hx hb dX6_nextHome_36 ?_
      obtain ⟨x4, ex4, hin, h⟩ := mrd_ex h
      refine kr_iald hC hW (wx_54 g μ) hin ex4 dX6_nextHome_37 ?_
      refine lv_aload_n hx hb dX6_nextHome_38 rfl (lv_at hl 0 rfl) ?_
      refine gf_X6_18_x8 hC hW dX6_nextHome_39 ?_
      refine lv_iload_n hx hb dX6_nextHome_42 rfl (lv_at hl 1 rfl) ?_
      refine lv_iconst (v := 1) hx hb dX6_nextHome_43 (by decide) ?_
      refine lv_iload hx hb dX6_nextHome_44 (lv_at hl 5 rfl) ?_
      refine lv_ishl hx hb dX6_nextHome_46 ?_
      refine lv_iconst (v := (-1)) hx hb dX6_nextHome_47 (by decide) ?_
      refine lv_ixor hx hb dX6_nextHome_48 ?_
      refine lv_iand hx hb dX6_nextHome_49 ?_
      refine lv_bipush (v := 9) hx hb dX6_nextHome_50 (by decide) ?_
      refine lv_imul hx hb dX6_nextHome_52 ?_
      refine lv_iload hx hb dX6_nextHome_53 (lv_at hl 5 rfl) ?_
      refine lv_iadd hx hb dX6_nextHome_55 ?_
      obtain ⟨x5, ex5, hin, h⟩ := mrd_ex h
      refine kr_iald hC hW (wx_55 g μ) hin ex5 dX6_nextHome_56 ?_
      refine lv_iadd hx hb dX6_nextHome_57 ?_
      refine lv_istore (lv' := [(6, .int (x4 + x5)), (0, .ref (ad g 8)), (1, .int a1), (2, .int a2), (3, .int xs3), (4, .int xs4), (5, .int xs5)]) hx hb dX6_nextHome_58 hl (by decide) rfl (fun ls hl => ?_)
      refine lv_iload hx hb dX6_nextHome_60 (lv_at hl 5 rfl) ?_
      refine lv_iconst (v := (-1)) hx hb dX6_nextHome_62 (by decide) ?_
      refine lv_icmp_eq (tgt := 73) hx hb dX6_nextHome_63 (by decide) (fun hc6 => ?_) (fun hc6 => ?_)
      · replace h := if_p hc6 h
        refine lv_iload hx hb dX6_nextHome_73 (lv_at hl 6 rfl) ?_
        refine lv_istore_n (lv' := [(3, .int xs5), (6, .int (x4 + x5)), (0, .ref (ad g 8)), (1, .int a1), (2, .int a2), (4, .int xs4), (5, .int xs5)]) hx hb dX6_nextHome_75 rfl hl (by decide) rfl (fun ls hl => ?_)
        refine lv_iload hx hb dX6_nextHome_76 (lv_at hl 1 rfl) ?_
        refine lv_istore (lv' := [(4, .int (x4 + x5)), (3, .int xs5), (6, .int (x4 + x5)), (0, .ref (ad g 8)), (1, .int a1), (2, .int a2), (5, .int xs5)]) hx hb dX6_nextHome_78 hl (by decide) rfl (fun ls hl => ?_)
        refine lv_iinc (v := (xs5 + 1)) (lv' := [(5, .int (xs5 + 1)), (4, .int (x4 + x5)), (3, .int xs5), (6, .int (x4 + x5)), (0, .ref (ad g 8)), (1, .int a1), (2, .int a2)]) hx hb dX6_nextHome_80 hl (k := 6) rfl (by rw [oi_1]) (by decide) rfl (fun ls hl => ?_)
        refine lv_goto (tgt := 8) hx hb dX6_nextHome_83 (by decide) ?_
        exact k1 (xs5, (x4 + x5), (xs5 + 1)) (Option.some.inj h).symm _ _ _ (lv_sub hl [4, 5, 6, 2, 1, 0] rfl) hW
      · replace h := if_n hc6 h
        refine lv_iload hx hb dX6_nextHome_66 (lv_at hl 0 rfl) ?_
        refine lv_iload hx hb dX6_nextHome_68 (lv_at hl 5 rfl) ?_
        refine lv_icmp_ge (tgt := 80) hx hb dX6_nextHome_70 (by decide) (fun hc7 => ?_) (fun hc7 => ?_)
        · replace h := if_p hc7 h
          refine lv_iinc (v := (xs5 + 1)) (lv' := [(5, .int (xs5 + 1)), (6, .int (x4 + x5)), (0, .ref (ad g 8)), (1, .int a1), (2, .int a2), (3, .int xs3), (4, .int xs4)]) hx hb dX6_nextHome_80 hl (k := 6) rfl (by rw [oi_1]) (by decide) rfl (fun ls hl => ?_)
          refine lv_goto (tgt := 8) hx hb dX6_nextHome_83 (by decide) ?_
          exact k1 (xs3, xs4, (xs5 + 1)) (Option.some.inj h).symm _ _ _ (lv_sub hl [2, 3, 4, 5, 6, 0] rfl) hW
        · replace h := if_n hc7 h
          refine lv_iload hx hb dX6_nextHome_73 (lv_at hl 6 rfl) ?_
          refine lv_istore_n (lv' := [(3, .int xs5), (6, .int (x4 + x5)), (0, .ref (ad g 8)), (1, .int a1), (2, .int a2), (4, .int xs4), (5, .int xs5)]) hx hb dX6_nextHome_75 rfl hl (by decide) rfl (fun ls hl => ?_)
          refine lv_iload hx hb dX6_nextHome_76 (lv_at hl 1 rfl) ?_
          refine lv_istore (lv' := [(4, .int (x4 + x5)), (3, .int xs5), (6, .int (x4 + x5)), (0, .ref (ad g 8)), (1, .int a1), (2, .int a2), (5, .int xs5)]) hx hb dX6_nextHome_78 hl (by decide) rfl (fun ls hl => ?_)
          refine lv_iinc (v := (xs5 + 1)) (lv' := [(5, .int (xs5 + 1)), (4, .int (x4 + x5)), (3, .int xs5), (6, .int (x4 + x5)), (0, .ref (ad g 8)), (1, .int a1), (2, .int a2)]) hx hb dX6_nextHome_80 hl (k := 6) rfl (by rw [oi_1]) (by decide) rfl (fun ls hl => ?_)
          refine lv_goto (tgt := 8) hx hb dX6_nextHome_83 (by decide) ?_
          exact k1 (xs5, (x4 + x5), (xs5 + 1)) (Option.some.inj h).symm _ _ _ (lv_sub hl [4, 5, 6, 2, 1, 0] rfl) hW
set_option maxHeartbeats 4000000 in
set_option maxRecDepth 100000 in
theorem t_vs_Rounds_nextHome {l : Launch} {g : Gx} {A : Nat → Prop} {μ : Mm} {a1 : Int32} {a2 : Int32} {v : Int32} (h : vs_Rounds_nextHome μ a1 a2 = some v) : Cti l g A wx yX6_nextHome cX6_nextHome 7 (some .int) 1 [.ref (ad g 8), .int a1, .int a2] μ v μ := by
  refine ent (lv := [(0, .ref (ad g 8)), (1, .int a1), (2, .int a2)]) (by decide) (Nat.le_of_ble_eq_true rfl) rfl ?_
  intro p e s m args below meth c hC hr hlocks hnm hW ls hl
  replace hC : Cx g RX6 cX6_nextHome 7 p s m args c := hC
  obtain ⟨hx, hb, hml, hown, hts, hK, hN⟩ := id hC
  unfold vs_Rounds_nextHome at h
  refine lv_iconst (v := 0) hx hb dX6_nextHome_0 (by decide) ?_
  refine lv_istore_n (lv' := [(3, .int 0), (0, .ref (ad g 8)), (1, .int a1), (2, .int a2)]) hx hb dX6_nextHome_1 rfl hl (by decide) rfl (fun ls hl => ?_)
  refine lv_iconst (v := (-1)) hx hb dX6_nextHome_2 (by decide) ?_
  refine lv_istore (lv' := [(4, .int (-1)), (3, .int 0), (0, .ref (ad g 8)), (1, .int a1), (2, .int a2)]) hx hb dX6_nextHome_3 hl (by decide) rfl (fun ls hl => ?_)
  refine lv_iconst (v := 0) hx hb dX6_nextHome_5 (by decide) ?_
  refine lv_istore (lv' := [(5, .int 0), (4, .int (-1)), (3, .int 0), (0, .ref (ad g 8)), (1, .int a1), (2, .int a2)]) hx hb dX6_nextHome_6 hl (by decide) rfl (fun ls hl => ?_)
  obtain ⟨x8, he9, h⟩ := mbv_some h
  refine tl_vs_Rounds_nextHome_8 μ a1 a2 hC (fun ls H locs hl hW => ?_) FU (0, (-1), 0) he9 _ _ _ (lv_sub hl [3, 4, 5, 2, 1, 0] rfl) hW
  refine lv_iload_n hx hb dX6_nextHome_86 rfl (lv_at hl 0 rfl) ?_
  cases h
  exact kr_iret hC hr hlocks hW dX6_nextHome_87
set_option maxHeartbeats 4000000 in
set_option maxRecDepth 100000 in
theorem t_vs_Rounds_shortestHome {l : Launch} {g : Gx} {A : Nat → Prop} {μ : Mm} {a1 : Int32} {a2 : Int32} {v : Int32} (h : vs_Rounds_shortestHome μ a1 a2 = some v) : Cti l g A wx yX6_shortestHome cX6_shortestHome 4 (some .int) 2 [.ref (ad g 8), .int a1, .int a2] μ v μ := by
  refine ent (lv := [(0, .ref (ad g 8)), (1, .int a1), (2, .int a2)]) (by decide) (Nat.le_of_ble_eq_true rfl) rfl ?_
  intro p e s m args below meth c hC hr hlocks hnm hW ls hl
  replace hC : Cx g RX6 cX6_shortestHome 4 p s m args c := hC
  obtain ⟨hx, hb, hml, hown, hts, hK, hN⟩ := id hC
  unfold vs_Rounds_shortestHome at h
  refine lv_iload_n hx hb dX6_shortestHome_0 rfl (lv_at hl 1 rfl) ?_
  refine lv_if_ne (tgt := 19) hx hb dX6_shortestHome_1 (by decide) (fun hc1 => ?_) (fun hc1 => ?_)
  · replace h := if_n hc1 h
    refine lv_aload_n hx hb dX6_shortestHome_19 rfl (lv_at hl 0 rfl) ?_
    refine lv_iload_n hx hb dX6_shortestHome_20 rfl (lv_at hl 1 rfl) ?_
    refine lv_iload_n hx hb dX6_shortestHome_21 rfl (lv_at hl 2 rfl) ?_
    obtain ⟨x2, hx2, h⟩ := mbv_some h
    refine kr_ci hC hW (kr_runV hC hW hl.1 (t_vs_Rounds_nextHome hx2) cw_X6_52 (wx_8 g μ) rfl rfl rfl (Nat.le_of_ble_eq_true rfl) dX6_shortestHome_22 (by decide)) (fun H locs hW => ?_)
    refine lv_istore_n (lv' := [(3, .int x2), (0, .ref (ad g 8)), (1, .int a1), (2, .int a2)]) hx hb dX6_shortestHome_25 rfl hl (by decide) rfl (fun ls hl => ?_)
    refine lv_aload_n hx hb dX6_shortestHome_26 rfl (lv_at hl 1 rfl) ?_
    refine gf_X6_15_x8 hC hW dX6_shortestHome_27 ?_
    refine lv_iload_n hx hb dX6_shortestHome_30 rfl (lv_at hl 3 rfl) ?_
    refine lv_bipush (v := 9) hx hb dX6_shortestHome_31 (by decide) ?_
    refine lv_imul hx hb dX6_shortestHome_33 ?_
    refine lv_iload_n hx hb dX6_shortestHome_34 rfl (lv_at hl 0 rfl) ?_
    refine lv_iadd hx hb dX6_shortestHome_35 ?_
    obtain ⟨x3, ex3, hin, h⟩ := mrd_ex h
    refine kr_iald hC hW (wx_54 g μ) hin ex3 dX6_shortestHome_36 ?_
    refine lv_aload_n hx hb dX6_shortestHome_37 rfl (lv_at hl 1 rfl) ?_
    refine gf_X6_18_x8 hC hW dX6_shortestHome_38 ?_
    refine lv_iload_n hx hb dX6_shortestHome_41 rfl (lv_at hl 2 rfl) ?_
    refine lv_iconst (v := 1) hx hb dX6_shortestHome_42 (by decide) ?_
    refine lv_iload_n hx hb dX6_shortestHome_43 rfl (lv_at hl 0 rfl) ?_
    refine lv_ishl hx hb dX6_shortestHome_44 ?_
    refine lv_iconst (v := (-1)) hx hb dX6_shortestHome_45 (by decide) ?_
    refine lv_ixor hx hb dX6_shortestHome_46 ?_
    refine lv_iand hx hb dX6_shortestHome_47 ?_
    refine lv_bipush (v := 9) hx hb dX6_shortestHome_48 (by decide) ?_
    refine lv_imul hx hb dX6_shortestHome_50 ?_
    refine lv_iload_n hx hb dX6_shortestHome_51 rfl (lv_at hl 0 rfl) ?_
    refine lv_iadd hx hb dX6_shortestHome_52 ?_
    obtain ⟨x4, ex4, hin, h⟩ := mrd_ex h
    refine kr_iald hC hW (wx_55 g μ) hin ex4 dX6_shortestHome_53 ?_
    refine lv_iadd hx hb dX6_shortestHome_54 ?_
    cases h
    exact kr_iret hC hr hlocks hW dX6_shortestHome_55
  · replace h := if_p hc1 h
    refine lv_aload_n hx hb dX6_shortestHome_4 rfl (lv_at hl 0 rfl) ?_
    refine gf_X6_15_x8 hC hW dX6_shortestHome_5 ?_
    refine lv_iload_n hx hb dX6_shortestHome_8 rfl (lv_at hl 2 rfl) ?_
    refine lv_bipush (v := 9) hx hb dX6_shortestHome_9 (by decide) ?_
    refine lv_imul hx hb dX6_shortestHome_11 ?_
    refine lv_aload_n hx hb dX6_shortestHome_12 rfl (lv_at hl 0 rfl) ?_
    refine gf_X6_29_x8 hC hW dX6_shortestHome_13 ?_
    refine lv_iadd hx hb dX6_shortestHome_16 ?_
    obtain ⟨x5, ex5, hin, h⟩ := mrd_ex h
    refine kr_iald hC hW (wx_54 g μ) hin ex5 dX6_shortestHome_17 ?_
    cases h
    exact kr_iret hC hr hlocks hW dX6_shortestHome_18
set_option maxHeartbeats 4000000 in
set_option maxRecDepth 100000 in
theorem tl_vs_Rounds_shortest_19 (a1 : Int32) (hC : Cx g RX6 cX6_shortest 5 p s m args c) {e0 : (Mm)} (kx0 : ∀ (ls : Array Slot) (H : Heap) (locs : List Loc), lv_has ls 5 [(0, .ref (ad g 8))] → wP g wx A s.heap e0 H locs → W p l e (rmD 3) s m args below meth c H locs 0 0 Q (F0 m 73 ls [])) : ∀ (n : Nat) (q : Int32 × Mm), miter (fun q => vs_Rounds_shortest_b19 q.2 a1 q.1) n q = some e0 → ∀ (ls : Array Slot) (H : Heap) (locs : List Loc), lv_has ls 5 [(0, .ref (ad g 8)), (1, .int a1), (2, .int q.1)] → wP g wx A s.heap q.2 H locs → W p l e (rmD 3) s m args below meth c H locs 0 0 Q (F0 m 19 ls []) := by
  obtain ⟨hx, hb, hml, hown, hts, hK, hN⟩ := id hC
  refine miter_ind (fun q r hf k1 k2 => ?_)
  obtain ⟨xs2, μ⟩ := q
  intro ls H locs hl hW
  have h : vs_Rounds_shortest_b19 μ a1 xs2 = some r := hf
  unfold vs_Rounds_shortest_b19 at h
  refine lv_iload_n hx hb dX6_shortest_19 rfl (lv_at hl 2 rfl) ?_
  refine lv_aload_n hx hb dX6_shortest_20 rfl (lv_at hl 0 rfl) ?_
  refine gf_X6_25_x8 hC hW dX6_shortest_21 ?_
  refine gf_X6_38_x4 hC hW dX6_shortest_24 ?_
  refine lv_icmp_ge (tgt := 73) hx hb dX6_shortest_27 (by decide) (fun hc4 => ?_) (fun hc4 => ?_)
  · replace h := if_p hc4 h
    obtain rfl := k2 _ (Option.some.inj h).symm
    exact kx0 _ _ _ (lv_sub hl [0] rfl) hW
  · replace h := if_n hc4 h
    refine lv_aload_n hx hb dX6_shortest_30 rfl (lv_at hl 0 rfl) ?_
    refine gf_X6_29_x8 hC hW dX6_shortest_31 ?_
    refine lv_bipush (v := 8) hx hb dX6_shortest_34 (by decide) ?_
    refine lv_icmp_ge (tgt := 73) hx hb dX6_shortest_36 (by decide) (fun hc5 => ?_) (fun hc5 => ?_)
    · replace h := if_p hc5 h
      obtain rfl := k2 _ (Option.some.inj h).symm
      exact kx0 _ _ _ (lv_sub hl [0] rfl) hW
    · replace h := if_n hc5 h
      refine lv_iload_n hx hb dX6_shortest_39 rfl (lv_at hl 1 rfl) ?_
      refine lv_iload_n hx hb dX6_shortest_40 rfl (lv_at hl 2 rfl) ?_
      obtain ⟨x6, hx6, h⟩ := mbv_some h
      refine kr_ci hC hW (kr_runN hC hW hl.1 (t_vs_hasBit hx6) cw_X6_41 rfl rfl (Nat.le_of_ble_eq_true rfl) dX6_shortest_41 (by decide)) (fun H locs hW => ?_)
      refine lv_if_eq (tgt := 67) hx hb dX6_shortest_44 (by decide) (fun hc7 => ?_) (fun hc7 => ?_)
      · replace h := if_p hc7 h
        refine lv_iinc (v := (xs2 + 1)) (lv' := [(2, .int (xs2 + 1)), (0, .ref (ad g 8)), (1, .int a1)]) hx hb dX6_shortest_67 hl (k := 2) rfl (by rw [oi_1]) (by decide) rfl (fun ls hl => ?_)
        refine lv_goto (tgt := 19) hx hb dX6_shortest_70 (by decide) ?_
        exact k1 ((xs2 + 1), μ) (Option.some.inj h).symm _ _ _ (lv_sub hl [1, 2, 0] rfl) hW
      · replace h := if_n hc7 h
        refine lv_aload_n hx hb dX6_shortest_47 rfl (lv_at hl 0 rfl) ?_
        refine gf_X6_9_x8 hC hW dX6_shortest_48 ?_
        refine lv_aload_n hx hb dX6_shortest_51 rfl (lv_at hl 0 rfl) ?_
        refine gf_X6_29_x8 hC hW dX6_shortest_52 ?_
        refine lv_iload_n hx hb dX6_shortest_55 rfl (lv_at hl 2 rfl) ?_
        obtain ⟨μ8, eμ8, hin, h⟩ := mwr_ex h
        refine kr_iast hC hW (wx_53 g μ) (wxs_53 eμ8) hin dX6_shortest_56 (fun H locs hW => ?_)
        refine lv_aload_n hx hb dX6_shortest_57 rfl (lv_at hl 0 rfl) ?_
        refine lv_dup hx hb dX6_shortest_58 rfl ?_
        refine gf_X6_29_x8 hC hW dX6_shortest_59 ?_
        refine lv_iconst (v := 1) hx hb dX6_shortest_62 (by decide) ?_
        refine lv_iadd hx hb dX6_shortest_63 ?_
        obtain ⟨μ9, eμ9, h⟩ := mst_some h
        refine pf_X6_29_x8 hC hW eμ9 dX6_shortest_64 (fun H locs hW => ?_)
        refine lv_iinc (v := (xs2 + 1)) (lv' := [(2, .int (xs2 + 1)), (0, .ref (ad g 8)), (1, .int a1)]) hx hb dX6_shortest_67 hl (k := 2) rfl (by rw [oi_1]) (by decide) rfl (fun ls hl => ?_)
        refine lv_goto (tgt := 19) hx hb dX6_shortest_70 (by decide) ?_
        exact k1 ((xs2 + 1), μ9) (Option.some.inj h).symm _ _ _ (lv_sub hl [1, 2, 0] rfl) hW
set_option maxHeartbeats 4000000 in
set_option maxRecDepth 100000 in
theorem tl_vs_Rounds_shortest_96 (a2 : Int32) (a3 : Int32) (hC : Cx g RX6 cX6_shortest 5 p s m args c) {e0 : (Mm)} (kx0 : ∀ (ls : Array Slot) (H : Heap) (locs : List Loc), lv_has ls 5 [(0, .ref (ad g 8)), (2, .int a2), (3, .int a3)] → wP g wx A s.heap e0 H locs → W p l e (rmD 3) s m args below meth c H locs 0 0 Q (F0 m 139 ls [])) : ∀ (n : Nat) (q : Int32 × Mm), miter (fun q => vs_Rounds_shortest_b96 q.2 a2 a3 q.1) n q = some e0 → ∀ (ls : Array Slot) (H : Heap) (locs : List Loc), lv_has ls 5 [(0, .ref (ad g 8)), (2, .int a2), (3, .int a3), (4, .int q.1)] → wP g wx A s.heap q.2 H locs → W p l e (rmD 3) s m args below meth c H locs 0 0 Q (F0 m 96 ls []) := by
  obtain ⟨hx, hb, hml, hown, hts, hK, hN⟩ := id hC
  refine miter_ind (fun q r hf k1 k2 => ?_)
  obtain ⟨xs4, μ⟩ := q
  intro ls H locs hl hW
  have h : vs_Rounds_shortest_b96 μ a2 a3 xs4 = some r := hf
  unfold vs_Rounds_shortest_b96 at h
  refine lv_iload hx hb dX6_shortest_96 (lv_at hl 3 rfl) ?_
  refine lv_aload_n hx hb dX6_shortest_98 rfl (lv_at hl 0 rfl) ?_
  refine gf_X6_29_x8 hC hW dX6_shortest_99 ?_
  refine lv_icmp_ge (tgt := 139) hx hb dX6_shortest_102 (by decide) (fun hc14 => ?_) (fun hc14 => ?_)
  · replace h := if_p hc14 h
    obtain rfl := k2 _ (Option.some.inj h).symm
    exact kx0 _ _ _ (lv_sub hl [0, 1, 2] rfl) hW
  · replace h := if_n hc14 h
    refine lv_iload_n hx hb dX6_shortest_105 rfl (lv_at hl 2 rfl) ?_
    refine lv_iload hx hb dX6_shortest_106 (lv_at hl 3 rfl) ?_
    obtain ⟨x15, hx15, h⟩ := mbv_some h
    refine kr_ci hC hW (kr_runN hC hW hl.1 (t_vs_hasBit hx15) cw_X6_41 rfl rfl (Nat.le_of_ble_eq_true rfl) dX6_shortest_108 (by decide)) (fun H locs hW => ?_)
    refine lv_if_ne (tgt := 133) hx hb dX6_shortest_111 (by decide) (fun hc16 => ?_) (fun hc16 => ?_)
    · replace h := if_n hc16 h
      refine lv_iinc (v := (xs4 + 1)) (lv' := [(4, .int (xs4 + 1)), (0, .ref (ad g 8)), (2, .int a2), (3, .int a3)]) hx hb dX6_shortest_133 hl (k := 3) rfl (by rw [oi_1]) (by decide) rfl (fun ls hl => ?_)
      refine lv_goto (tgt := 96) hx hb dX6_shortest_136 (by decide) ?_
      exact k1 ((xs4 + 1), μ) (Option.some.inj h).symm _ _ _ (lv_sub hl [1, 2, 3, 0] rfl) hW
    · replace h := if_p hc16 h
      refine lv_aload_n hx hb dX6_shortest_114 rfl (lv_at hl 0 rfl) ?_
      refine gf_X6_18_x8 hC hW dX6_shortest_115 ?_
      refine lv_iload_n hx hb dX6_shortest_118 rfl (lv_at hl 2 rfl) ?_
      refine lv_bipush (v := 9) hx hb dX6_shortest_119 (by decide) ?_
      refine lv_imul hx hb dX6_shortest_121 ?_
      refine lv_iload hx hb dX6_shortest_122 (lv_at hl 3 rfl) ?_
      refine lv_iadd hx hb dX6_shortest_124 ?_
      refine lv_aload_n hx hb dX6_shortest_125 rfl (lv_at hl 0 rfl) ?_
      refine lv_iload_n hx hb dX6_shortest_126 rfl (lv_at hl 2 rfl) ?_
      refine lv_iload hx hb dX6_shortest_127 (lv_at hl 3 rfl) ?_
      obtain ⟨x17, hx17, h⟩ := mbv_some h
      refine kr_ci hC hW (kr_runV hC hW hl.1 (t_vs_Rounds_shortestHome hx17) cw_X6_48 (wx_8 g μ) rfl rfl rfl (Nat.le_of_ble_eq_true rfl) dX6_shortest_129 (by decide)) (fun H locs hW => ?_)
      obtain ⟨μ18, eμ18, hin, h⟩ := mwr_ex h
      refine kr_iast hC hW (wx_55 g μ) (wxs_55 eμ18) hin dX6_shortest_132 (fun H locs hW => ?_)
      refine lv_iinc (v := (xs4 + 1)) (lv' := [(4, .int (xs4 + 1)), (0, .ref (ad g 8)), (2, .int a2), (3, .int a3)]) hx hb dX6_shortest_133 hl (k := 3) rfl (by rw [oi_1]) (by decide) rfl (fun ls hl => ?_)
      refine lv_goto (tgt := 96) hx hb dX6_shortest_136 (by decide) ?_
      exact k1 ((xs4 + 1), μ18) (Option.some.inj h).symm _ _ _ (lv_sub hl [1, 2, 3, 0] rfl) hW
set_option maxHeartbeats 4000000 in
set_option maxRecDepth 100000 in
theorem tl_vs_Rounds_shortest_88 (a2 : Int32) (hC : Cx g RX6 cX6_shortest 5 p s m args c) {e0 : (Mm)} (kx0 : ∀ (ls : Array Slot) (H : Heap) (locs : List Loc), lv_has ls 5 [(0, .ref (ad g 8)), (2, .int a2)] → wP g wx A s.heap e0 H locs → W p l e (rmD 3) s m args below meth c H locs 0 0 Q (F0 m 145 ls [])) : ∀ (n : Nat) (q : Int32 × Mm), miter (fun q => vs_Rounds_shortest_b88 q.2 a2 q.1) n q = some e0 → ∀ (ls : Array Slot) (H : Heap) (locs : List Loc), lv_has ls 5 [(0, .ref (ad g 8)), (2, .int a2), (3, .int q.1)] → wP g wx A s.heap q.2 H locs → W p l e (rmD 3) s m args below meth c H locs 0 0 Q (F0 m 88 ls []) := by
  obtain ⟨hx, hb, hml, hown, hts, hK, hN⟩ := id hC
  refine miter_ind (fun q r hf k1 k2 => ?_)
  obtain ⟨xs3, μ⟩ := q
  intro ls H locs hl hW
  have h : vs_Rounds_shortest_b88 μ a2 xs3 = some r := hf
  unfold vs_Rounds_shortest_b88 at h
  refine lv_iload_n hx hb dX6_shortest_88 rfl (lv_at hl 2 rfl) ?_
  refine lv_iload_n hx hb dX6_shortest_89 rfl (lv_at hl 1 rfl) ?_
  refine lv_icmp_ge (tgt := 145) hx hb dX6_shortest_90 (by decide) (fun hc13 => ?_) (fun hc13 => ?_)
  · replace h := if_p hc13 h
    obtain rfl := k2 _ (Option.some.inj h).symm
    exact kx0 _ _ _ (lv_sub hl [0, 1] rfl) hW
  · replace h := if_n hc13 h
    refine lv_iconst (v := 0) hx hb dX6_shortest_93 (by decide) ?_
    refine lv_istore (lv' := [(4, .int 0), (0, .ref (ad g 8)), (2, .int a2), (3, .int xs3)]) hx hb dX6_shortest_94 hl (by decide) rfl (fun ls hl => ?_)
    obtain ⟨μ19, he20, h⟩ := mbv_some h
    refine tl_vs_Rounds_shortest_96 a2 xs3 hC (fun ls H locs hl hW => ?_) FU (0, μ) he20 _ _ _ (lv_sub hl [1, 2, 3, 0] rfl) hW
    refine lv_iinc (v := (xs3 + 1)) (lv' := [(3, .int (xs3 + 1)), (0, .ref (ad g 8)), (2, .int a2)]) hx hb dX6_shortest_139 hl (k := 2) rfl (by rw [oi_1]) (by decide) rfl (fun ls hl => ?_)
    refine lv_goto (tgt := 88) hx hb dX6_shortest_142 (by decide) ?_
    exact k1 ((xs3 + 1), μ19) (Option.some.inj h).symm _ _ _ (lv_sub hl [1, 2, 0] rfl) hW
set_option maxHeartbeats 4000000 in
set_option maxRecDepth 100000 in
theorem tj_vs_Rounds_shortest_73 {μ : Mm} (hC : Cx g RX6 cX6_shortest 5 p s m args c) (hr : meth.sig.returnType = some .int) (hlocks : meth.locks = false) {v : Int32} {u : Mm} (hl : lv_has ls 5 [(0, .ref (ad g 8))]) (hW : wP g wx A s.heap μ H locs) (h : vs_Rounds_shortest_j73 μ = some (v, u)) : W p l e (rmD 3) s m args below meth c H locs 0 0 (MQ below (Qi g A wx v u) args s 0 0 A) (F0 m 73 ls []) := by
  obtain ⟨hx, hb, hml, hown, hts, hK, hN⟩ := id hC
  unfold vs_Rounds_shortest_j73 at h
  refine lv_aload_n hx hb dX6_shortest_73 rfl (lv_at hl 0 rfl) ?_
  obtain ⟨μ12, hxμ12, h⟩ := mbv_some h
  refine kr_cv hC hW (kr_runV hC hW hl.1 (t_vs_Rounds_measureWays hxμ12) cw_X6_45 (wx_8 g μ) rfl rfl rfl (Nat.le_of_ble_eq_true rfl) dX6_shortest_74 (by decide)) (fun H locs hW => ?_)
  refine lv_iconst (v := 1) hx hb dX6_shortest_77 (by decide) ?_
  refine lv_aload_n hx hb dX6_shortest_78 rfl (lv_at hl 0 rfl) ?_
  refine gf_X6_29_x8 hC hW dX6_shortest_79 ?_
  refine lv_ishl hx hb dX6_shortest_82 ?_
  refine lv_iconst (v := 1) hx hb dX6_shortest_83 (by decide) ?_
  refine lv_isub hx hb dX6_shortest_84 ?_
  refine lv_istore_n (lv' := [(2, .int (((1 : Int32) <<< ((μ12 8 4) &&& 31)) - 1)), (0, .ref (ad g 8))]) hx hb dX6_shortest_85 rfl hl (by decide) rfl (fun ls hl => ?_)
  refine lv_iconst (v := 0) hx hb dX6_shortest_86 (by decide) ?_
  refine lv_istore_n (lv' := [(3, .int 0), (2, .int (((1 : Int32) <<< ((μ12 8 4) &&& 31)) - 1)), (0, .ref (ad g 8))]) hx hb dX6_shortest_87 rfl hl (by decide) rfl (fun ls hl => ?_)
  obtain ⟨μ21, he25, h⟩ := mbv_some h
  refine tl_vs_Rounds_shortest_88 (((1 : Int32) <<< ((μ12 8 4) &&& 31)) - 1) hC (fun ls H locs hl hW => ?_) FU (0, μ12) he25 _ _ _ (lv_sub hl [2, 1, 0] rfl) hW
  refine lv_aload_n hx hb dX6_shortest_145 rfl (lv_at hl 0 rfl) ?_
  refine gf_X6_18_x8 hC hW dX6_shortest_146 ?_
  refine lv_iload_n hx hb dX6_shortest_149 rfl (lv_at hl 1 rfl) ?_
  refine lv_bipush (v := 9) hx hb dX6_shortest_150 (by decide) ?_
  refine lv_imul hx hb dX6_shortest_152 ?_
  refine lv_aload_n hx hb dX6_shortest_153 rfl (lv_at hl 0 rfl) ?_
  refine gf_X6_29_x8 hC hW dX6_shortest_154 ?_
  refine lv_iadd hx hb dX6_shortest_157 ?_
  refine lv_aload_n hx hb dX6_shortest_158 rfl (lv_at hl 0 rfl) ?_
  refine lv_iload_n hx hb dX6_shortest_159 rfl (lv_at hl 1 rfl) ?_
  refine lv_aload_n hx hb dX6_shortest_160 rfl (lv_at hl 0 rfl) ?_
  refine gf_X6_29_x8 hC hW dX6_shortest_161 ?_
  obtain ⟨x22, hx22, h⟩ := mbv_some h
  refine kr_ci hC hW (kr_runV hC hW hl.1 (t_vs_Rounds_shortestHome hx22) cw_X6_48 (wx_8 g μ21) rfl rfl rfl (Nat.le_of_ble_eq_true rfl) dX6_shortest_164 (by decide)) (fun H locs hW => ?_)
  obtain ⟨μ23, eμ23, hin, h⟩ := mwr_ex h
  refine kr_iast hC hW (wx_55 g μ21) (wxs_55 eμ23) hin dX6_shortest_167 (fun H locs hW => ?_)
  refine lv_aload_n hx hb dX6_shortest_168 rfl (lv_at hl 0 rfl) ?_
  refine gf_X6_18_x8 hC hW dX6_shortest_169 ?_
  refine lv_iload_n hx hb dX6_shortest_172 rfl (lv_at hl 1 rfl) ?_
  refine lv_bipush (v := 9) hx hb dX6_shortest_173 (by decide) ?_
  refine lv_imul hx hb dX6_shortest_175 ?_
  refine lv_aload_n hx hb dX6_shortest_176 rfl (lv_at hl 0 rfl) ?_
  refine gf_X6_29_x8 hC hW dX6_shortest_177 ?_
  refine lv_iadd hx hb dX6_shortest_180 ?_
  obtain ⟨x24, ex24, hin, h⟩ := mrd_ex h
  refine kr_iald hC hW (wx_55 g μ23) hin ex24 dX6_shortest_181 ?_
  cases h
  exact kr_iret hC hr hlocks hW dX6_shortest_182
set_option maxHeartbeats 4000000 in
set_option maxRecDepth 100000 in
theorem t_vs_Rounds_shortest {l : Launch} {g : Gx} {A : Nat → Prop} {μ : Mm} {a1 : Int32} {v : Int32} {u : Mm} (h : vs_Rounds_shortest μ a1 = some (v, u)) : Cti l g A wx yX6_shortest cX6_shortest 5 (some .int) 3 [.ref (ad g 8), .int a1] μ v u := by
  refine ent (lv := [(0, .ref (ad g 8)), (1, .int a1)]) (by decide) (Nat.le_of_ble_eq_true rfl) rfl ?_
  intro p e s m args below meth c hC hr hlocks hnm hW ls hl
  replace hC : Cx g RX6 cX6_shortest 5 p s m args c := hC
  obtain ⟨hx, hb, hml, hown, hts, hK, hN⟩ := id hC
  unfold vs_Rounds_shortest at h
  refine lv_aload_n hx hb dX6_shortest_0 rfl (lv_at hl 0 rfl) ?_
  refine lv_iconst (v := 0) hx hb dX6_shortest_1 (by decide) ?_
  obtain ⟨μ1, eμ1, h⟩ := mst_some h
  refine pf_X6_29_x8 hC hW eμ1 dX6_shortest_2 (fun H locs hW => ?_)
  refine lv_iload_n hx hb dX6_shortest_5 rfl (lv_at hl 1 rfl) ?_
  obtain ⟨x2, hx2, h⟩ := mbv_some h
  refine kr_ci hC hW (kr_runS hC hW hl.1 (t_vs_Integer_bitCount_0f7a4 hx2) cw_X6_32 rfl rfl (Nat.le_of_ble_eq_true rfl) dX6_shortest_6 (by decide)) (fun H locs hW => ?_)
  refine lv_bipush (v := 8) hx hb dX6_shortest_9 (by decide) ?_
  refine lv_icmp_le (tgt := 17) hx hb dX6_shortest_11 (by decide) (fun hc3 => ?_) (fun hc3 => ?_)
  · replace h := if_p hc3 h
    refine lv_iconst (v := 0) hx hb dX6_shortest_17 (by decide) ?_
    refine lv_istore_n (lv' := [(2, .int 0), (0, .ref (ad g 8)), (1, .int a1)]) hx hb dX6_shortest_18 rfl hl (by decide) rfl (fun ls hl => ?_)
    obtain ⟨μ10, he26, h⟩ := mbv_some h
    refine tl_vs_Rounds_shortest_19 a1 hC (fun ls H locs hl hW => ?_) FU (0, μ1) he26 _ _ _ (lv_sub hl [1, 2, 0] rfl) hW
    exact tj_vs_Rounds_shortest_73 hC hr hlocks (lv_sub hl [0] rfl) hW h
  · replace h := if_n hc3 h
    refine lv_bipush (v := (-2)) hx hb dX6_shortest_14 (by decide) ?_
    cases h
    exact kr_iret hC hr hlocks hW dX6_shortest_16
set_option maxHeartbeats 4000000 in
set_option maxRecDepth 100000 in
theorem tl_vs_Rounds_minutes_10 (μ : Mm) (a1 : Int32) (hC : Cx g RX6 cX6_minutes 5 p s m args c) {e0 : (Int32)} (kx0 : ∀ (ls : Array Slot) (H : Heap) (locs : List Loc), lv_has ls 5 [(3, .int e0)] → wP g wx A s.heap μ H locs → W p l e (rmD 1) s m args below meth c H locs 0 0 Q (F0 m 50 ls [])) : ∀ (n : Nat) (q : Int32 × Int32), miter (fun q => vs_Rounds_minutes_b10 μ a1 q.1 q.2) n q = some e0 → ∀ (ls : Array Slot) (H : Heap) (locs : List Loc), lv_has ls 5 [(0, .ref (ad g 8)), (1, .int a1), (3, .int q.1), (4, .int q.2)] → wP g wx A s.heap μ H locs → W p l e (rmD 1) s m args below meth c H locs 0 0 Q (F0 m 10 ls []) := by
  obtain ⟨hx, hb, hml, hown, hts, hK, hN⟩ := id hC
  refine miter_ind (fun q r hf k1 k2 => ?_)
  obtain ⟨xs3, xs4⟩ := q
  intro ls H locs hl hW
  have h : vs_Rounds_minutes_b10 μ a1 xs3 xs4 = some r := hf
  unfold vs_Rounds_minutes_b10 at h
  refine lv_iload hx hb dX6_minutes_10 (lv_at hl 3 rfl) ?_
  refine lv_aload_n hx hb dX6_minutes_12 rfl (lv_at hl 0 rfl) ?_
  refine gf_X6_25_x8 hC hW dX6_minutes_13 ?_
  refine gf_X6_38_x4 hC hW dX6_minutes_16 ?_
  refine lv_icmp_ge (tgt := 50) hx hb dX6_minutes_19 (by decide) (fun hc1 => ?_) (fun hc1 => ?_)
  · replace h := if_p hc1 h
    obtain rfl := k2 _ (Option.some.inj h).symm
    exact kx0 _ _ _ (lv_sub hl [2] rfl) hW
  · replace h := if_n hc1 h
    refine lv_iload_n hx hb dX6_minutes_22 rfl (lv_at hl 1 rfl) ?_
    refine lv_iload hx hb dX6_minutes_23 (lv_at hl 3 rfl) ?_
    obtain ⟨x2, hx2, h⟩ := mbv_some h
    refine kr_ci hC hW (kr_runN hC hW hl.1 (t_vs_hasBit hx2) cw_X6_41 rfl rfl (Nat.le_of_ble_eq_true rfl) dX6_minutes_25 (by decide)) (fun H locs hW => ?_)
    refine lv_if_eq (tgt := 44) hx hb dX6_minutes_28 (by decide) (fun hc3 => ?_) (fun hc3 => ?_)
    · replace h := if_p hc3 h
      refine lv_iinc (v := (xs4 + 1)) (lv' := [(4, .int (xs4 + 1)), (0, .ref (ad g 8)), (1, .int a1), (3, .int xs3)]) hx hb dX6_minutes_44 hl (k := 3) rfl (by rw [oi_1]) (by decide) rfl (fun ls hl => ?_)
      refine lv_goto (tgt := 10) hx hb dX6_minutes_47 (by decide) ?_
      exact k1 (xs3, (xs4 + 1)) (Option.some.inj h).symm _ _ _ (lv_sub hl [1, 2, 3, 0] rfl) hW
    · replace h := if_n hc3 h
      refine lv_iload_n hx hb dX6_minutes_31 rfl (lv_at hl 2 rfl) ?_
      refine lv_aload_n hx hb dX6_minutes_32 rfl (lv_at hl 0 rfl) ?_
      refine gf_X6_25_x8 hC hW dX6_minutes_33 ?_
      refine gf_X6_55_x4 hC hW dX6_minutes_36 ?_
      refine lv_iload hx hb dX6_minutes_39 (lv_at hl 3 rfl) ?_
      obtain ⟨x4, ex4, hin, h⟩ := mrd_ex h
      refine kr_iald hC hW (wx_34 g μ) hin ex4 dX6_minutes_41 ?_
      refine lv_iadd hx hb dX6_minutes_42 ?_
      refine lv_istore_n (lv' := [(3, .int (xs3 + x4)), (0, .ref (ad g 8)), (1, .int a1), (4, .int xs4)]) hx hb dX6_minutes_43 rfl hl (by decide) rfl (fun ls hl => ?_)
      refine lv_iinc (v := (xs4 + 1)) (lv' := [(4, .int (xs4 + 1)), (3, .int (xs3 + x4)), (0, .ref (ad g 8)), (1, .int a1)]) hx hb dX6_minutes_44 hl (k := 3) rfl (by rw [oi_1]) (by decide) rfl (fun ls hl => ?_)
      refine lv_goto (tgt := 10) hx hb dX6_minutes_47 (by decide) ?_
      exact k1 ((xs3 + x4), (xs4 + 1)) (Option.some.inj h).symm _ _ _ (lv_sub hl [2, 3, 1, 0] rfl) hW
set_option maxHeartbeats 4000000 in
set_option maxRecDepth 100000 in
theorem t_vs_Rounds_minutes {l : Launch} {g : Gx} {A : Nat → Prop} {μ : Mm} {a1 : Int32} {a2 : Int32} {v : Int32} (h : vs_Rounds_minutes μ a1 a2 = some v) : Cti l g A wx yX6_minutes cX6_minutes 5 (some .int) 1 [.ref (ad g 8), .int a1, .int a2] μ v μ := by
  refine ent (lv := [(0, .ref (ad g 8)), (1, .int a1), (2, .int a2)]) (by decide) (Nat.le_of_ble_eq_true rfl) rfl ?_
  intro p e s m args below meth c hC hr hlocks hnm hW ls hl
  replace hC : Cx g RX6 cX6_minutes 5 p s m args c := hC
  obtain ⟨hx, hb, hml, hown, hts, hK, hN⟩ := id hC
  unfold vs_Rounds_minutes at h
  refine lv_iload_n hx hb dX6_minutes_0 rfl (lv_at hl 2 rfl) ?_
  refine lv_aload_n hx hb dX6_minutes_1 rfl (lv_at hl 0 rfl) ?_
  refine gf_X6_21_x8 hC hW dX6_minutes_2 ?_
  refine lv_imul hx hb dX6_minutes_5 ?_
  refine lv_istore_n (lv' := [(3, .int (a2 * (μ 8 5))), (0, .ref (ad g 8)), (1, .int a1), (2, .int a2)]) hx hb dX6_minutes_6 rfl hl (by decide) rfl (fun ls hl => ?_)
  refine lv_iconst (v := 0) hx hb dX6_minutes_7 (by decide) ?_
  refine lv_istore (lv' := [(4, .int 0), (3, .int (a2 * (μ 8 5))), (0, .ref (ad g 8)), (1, .int a1), (2, .int a2)]) hx hb dX6_minutes_8 hl (by decide) rfl (fun ls hl => ?_)
  obtain ⟨x5, he6, h⟩ := mbv_some h
  refine tl_vs_Rounds_minutes_10 μ a1 hC (fun ls H locs hl hW => ?_) FU ((a2 * (μ 8 5)), 0) he6 _ _ _ (lv_sub hl [2, 3, 1, 0] rfl) hW
  refine lv_iload_n hx hb dX6_minutes_50 rfl (lv_at hl 0 rfl) ?_
  cases h
  exact kr_iret hC hr hlocks hW dX6_minutes_51
set_option maxHeartbeats 4000000 in
set_option maxRecDepth 100000 in
theorem tl_vs_Rounds_stopAt_27 (μ : Mm) (a1 : Int32) (hC : Cx g RX6 cX6_stopAt 6 p s m args c) {e0 : (Int32)} (kx0 : ∀ (ls : Array Slot) (H : Heap) (locs : List Loc), lv_has ls 6 [(0, .ref (ad g 8)), (3, .int e0)] → wP g wx A s.heap μ H locs → W p l e (rmD 2) s m args below meth c H locs 0 0 Q (F0 m 59 ls [])) : ∀ (n : Nat) (q : Int32 × Int32 × Int32), miter (fun q => vs_Rounds_stopAt_b27 μ a1 q.1 q.2.1 q.2.2) n q = some e0 → ∀ (ls : Array Slot) (H : Heap) (locs : List Loc), lv_has ls 6 [(0, .ref (ad g 8)), (1, .int a1), (2, .int q.1), (3, .int q.2.1), (4, .int q.2.2)] → wP g wx A s.heap μ H locs → W p l e (rmD 2) s m args below meth c H locs 0 0 Q (F0 m 27 ls []) := by
  obtain ⟨hx, hb, hml, hown, hts, hK, hN⟩ := id hC
  refine miter_ind (fun q r hf k1 k2 => ?_)
  obtain ⟨xs2, xs3, xs4⟩ := q
  intro ls H locs hl hW
  have h : vs_Rounds_stopAt_b27 μ a1 xs2 xs3 xs4 = some r := hf
  unfold vs_Rounds_stopAt_b27 at h
  refine lv_iload hx hb dX6_stopAt_27 (lv_at hl 4 rfl) ?_
  refine lv_iload_n hx hb dX6_stopAt_29 rfl (lv_at hl 1 rfl) ?_
  refine lv_icmp_gt (tgt := 59) hx hb dX6_stopAt_30 (by decide) (fun hc2 => ?_) (fun hc2 => ?_)
  · replace h := if_p hc2 h
    obtain rfl := k2 _ (Option.some.inj h).symm
    exact kx0 _ _ _ (lv_sub hl [0, 3] rfl) hW
  · replace h := if_n hc2 h
    refine lv_aload_n hx hb dX6_stopAt_33 rfl (lv_at hl 0 rfl) ?_
    refine lv_iload_n hx hb dX6_stopAt_34 rfl (lv_at hl 2 rfl) ?_
    refine lv_iload_n hx hb dX6_stopAt_35 rfl (lv_at hl 3 rfl) ?_
    obtain ⟨x3, hx3, h⟩ := mbv_some h
    refine kr_ci hC hW (kr_runV hC hW hl.1 (t_vs_Rounds_nextHome hx3) cw_X6_52 (wx_8 g μ) rfl rfl rfl (Nat.le_of_ble_eq_true rfl) dX6_stopAt_36 (by decide)) (fun H locs hW => ?_)
    refine lv_istore (lv' := [(5, .int x3), (0, .ref (ad g 8)), (1, .int a1), (2, .int xs2), (3, .int xs3), (4, .int xs4)]) hx hb dX6_stopAt_39 hl (by decide) rfl (fun ls hl => ?_)
    refine lv_iload_n hx hb dX6_stopAt_41 rfl (lv_at hl 3 rfl) ?_
    refine lv_iconst (v := 1) hx hb dX6_stopAt_42 (by decide) ?_
    refine lv_iload hx hb dX6_stopAt_43 (lv_at hl 0 rfl) ?_
    refine lv_ishl hx hb dX6_stopAt_45 ?_
    refine lv_iconst (v := (-1)) hx hb dX6_stopAt_46 (by decide) ?_
    refine lv_ixor hx hb dX6_stopAt_47 ?_
    refine lv_iand hx hb dX6_stopAt_48 ?_
    refine lv_istore_n (lv' := [(2, .int (xs2 &&& (((1 : Int32) <<< (x3 &&& 31)) ^^^ (-1)))), (5, .int x3), (0, .ref (ad g 8)), (1, .int a1), (3, .int xs3), (4, .int xs4)]) hx hb dX6_stopAt_49 rfl hl (by decide) rfl (fun ls hl => ?_)
    refine lv_iload hx hb dX6_stopAt_50 (lv_at hl 1 rfl) ?_
    refine lv_istore_n (lv' := [(3, .int x3), (2, .int (xs2 &&& (((1 : Int32) <<< (x3 &&& 31)) ^^^ (-1)))), (5, .int x3), (0, .ref (ad g 8)), (1, .int a1), (4, .int xs4)]) hx hb dX6_stopAt_52 rfl hl (by decide) rfl (fun ls hl => ?_)
    refine lv_iinc (v := (xs4 + 1)) (lv' := [(4, .int (xs4 + 1)), (3, .int x3), (2, .int (xs2 &&& (((1 : Int32) <<< (x3 &&& 31)) ^^^ (-1)))), (5, .int x3), (0, .ref (ad g 8)), (1, .int a1)]) hx hb dX6_stopAt_53 hl (k := 5) rfl (by rw [oi_1]) (by decide) rfl (fun ls hl => ?_)
    refine lv_goto (tgt := 27) hx hb dX6_stopAt_56 (by decide) ?_
    exact k1 ((xs2 &&& (((1 : Int32) <<< (x3 &&& 31)) ^^^ (-1))), x3, (xs4 + 1)) (Option.some.inj h).symm _ _ _ (lv_sub hl [4, 5, 2, 1, 0] rfl) hW
set_option maxHeartbeats 4000000 in
set_option maxRecDepth 100000 in
theorem t_vs_Rounds_stopAt {l : Launch} {g : Gx} {A : Nat → Prop} {μ : Mm} {a1 : Int32} {v : Int32} (h : vs_Rounds_stopAt μ a1 = some v) : Cti l g A wx yX6_stopAt cX6_stopAt 6 (some .int) 2 [.ref (ad g 8), .int a1] μ v μ := by
  refine ent (lv := [(0, .ref (ad g 8)), (1, .int a1)]) (by decide) (Nat.le_of_ble_eq_true rfl) rfl ?_
  intro p e s m args below meth c hC hr hlocks hnm hW ls hl
  replace hC : Cx g RX6 cX6_stopAt 6 p s m args c := hC
  obtain ⟨hx, hb, hml, hown, hts, hK, hN⟩ := id hC
  unfold vs_Rounds_stopAt at h
  refine lv_iconst (v := 1) hx hb dX6_stopAt_0 (by decide) ?_
  refine lv_aload_n hx hb dX6_stopAt_1 rfl (lv_at hl 0 rfl) ?_
  refine gf_X6_29_x8 hC hW dX6_stopAt_2 ?_
  refine lv_ishl hx hb dX6_stopAt_5 ?_
  refine lv_iconst (v := 1) hx hb dX6_stopAt_6 (by decide) ?_
  refine lv_isub hx hb dX6_stopAt_7 ?_
  refine lv_istore_n (lv' := [(2, .int (((1 : Int32) <<< ((μ 8 4) &&& 31)) - 1)), (0, .ref (ad g 8)), (1, .int a1)]) hx hb dX6_stopAt_8 rfl hl (by decide) rfl (fun ls hl => ?_)
  refine lv_aload_n hx hb dX6_stopAt_9 rfl (lv_at hl 1 rfl) ?_
  refine gf_X6_29_x8 hC hW dX6_stopAt_10 ?_
  refine lv_istore_n (lv' := [(3, .int (μ 8 4)), (2, .int (((1 : Int32) <<< ((μ 8 4) &&& 31)) - 1)), (0, .ref (ad g 8)), (1, .int a1)]) hx hb dX6_stopAt_13 rfl hl (by decide) rfl (fun ls hl => ?_)
  refine lv_iload_n hx hb dX6_stopAt_14 rfl (lv_at hl 3 rfl) ?_
  refine lv_aload_n hx hb dX6_stopAt_15 rfl (lv_at hl 2 rfl) ?_
  refine gf_X6_29_x8 hC hW dX6_stopAt_16 ?_
  refine lv_icmp_lt (tgt := 24) hx hb dX6_stopAt_19 (by decide) (fun hc1 => ?_) (fun hc1 => ?_)
  · replace h := if_p hc1 h
    refine lv_iconst (v := 0) hx hb dX6_stopAt_24 (by decide) ?_
    refine lv_istore (lv' := [(4, .int 0), (3, .int (μ 8 4)), (2, .int (((1 : Int32) <<< ((μ 8 4) &&& 31)) - 1)), (0, .ref (ad g 8)), (1, .int a1)]) hx hb dX6_stopAt_25 hl (by decide) rfl (fun ls hl => ?_)
    obtain ⟨x4, he6, h⟩ := mbv_some h
    refine tl_vs_Rounds_stopAt_27 μ a1 hC (fun ls H locs hl hW => ?_) FU ((((1 : Int32) <<< ((μ 8 4) &&& 31)) - 1), (μ 8 4), 0) he6 _ _ _ (lv_sub hl [3, 4, 2, 1, 0] rfl) hW
    refine lv_aload_n hx hb dX6_stopAt_59 rfl (lv_at hl 0 rfl) ?_
    refine gf_X6_9_x8 hC hW dX6_stopAt_60 ?_
    refine lv_iload_n hx hb dX6_stopAt_63 rfl (lv_at hl 1 rfl) ?_
    obtain ⟨x5, ex5, hin, h⟩ := mrd_ex h
    refine kr_iald hC hW (wx_53 g μ) hin ex5 dX6_stopAt_64 ?_
    cases h
    exact kr_iret hC hr hlocks hW dX6_stopAt_65
  · replace h := if_n hc1 h
    refine lv_iconst (v := (-1)) hx hb dX6_stopAt_22 (by decide) ?_
    cases h
    exact kr_iret hC hr hlocks hW dX6_stopAt_23
set_option maxHeartbeats 4000000 in
set_option maxRecDepth 100000 in
theorem t_vs_round {l : Launch} {g : Gx} {A : Nat → Prop} {μ : Mm} {a1 : Int32} {a2 : Int32} {a3 : Int32} {v : Int32} {u : Mm} (h : vs_round μ a1 a2 a3 = some (v, u)) : Cti l g A wx yX11_round cX11_round 6 (some .int) 4 [.ref (ad g 0), .int a1, .int a2, .int a3] μ v u := by
  refine ent (lv := [(0, .ref (ad g 0)), (1, .int a1), (2, .int a2), (3, .int a3)]) (by decide) (Nat.le_of_ble_eq_true rfl) rfl ?_
  intro p e s m args below meth c hC hr hlocks hnm hW ls hl
  replace hC : Cx g RX11 cX11_round 6 p s m args c := hC
  obtain ⟨hx, hb, hml, hown, hts, hK, hN⟩ := id hC
  unfold vs_round at h
  refine lv_iload_n hx hb dX11_round_0 rfl (lv_at hl 1 rfl) ?_
  obtain ⟨x1, hx1, h⟩ := mbv_some h
  refine kr_ci hC hW (kr_runS hC hW hl.1 (t_vs_isVan hx1) cw_X11_108 rfl rfl (Nat.le_of_ble_eq_true rfl) dX11_round_1 (by decide)) (fun H locs hW => ?_)
  refine lv_if_eq (tgt := 24) hx hb dX11_round_4 (by decide) (fun hc2 => ?_) (fun hc2 => ?_)
  · replace h := if_p hc2 h
    refine lv_iconst (v := (-1)) hx hb dX11_round_24 (by decide) ?_
    cases h
    exact kr_iret hC hr hlocks hW dX11_round_25
  · replace h := if_n hc2 h
    refine lv_iload_n hx hb dX11_round_7 rfl (lv_at hl 2 rfl) ?_
    obtain ⟨x3, hx3, h⟩ := mbv_some h
    refine kr_ci hC hW (kr_runS hC hW hl.1 (t_vs_isDay hx3) cw_X11_179 rfl rfl (Nat.le_of_ble_eq_true rfl) dX11_round_8 (by decide)) (fun H locs hW => ?_)
    refine lv_if_eq (tgt := 24) hx hb dX11_round_11 (by decide) (fun hc4 => ?_) (fun hc4 => ?_)
    · replace h := if_p hc4 h
      refine lv_iconst (v := (-1)) hx hb dX11_round_24 (by decide) ?_
      cases h
      exact kr_iret hC hr hlocks hW dX11_round_25
    · replace h := if_n hc4 h
      refine lv_iload_n hx hb dX11_round_14 rfl (lv_at hl 3 rfl) ?_
      refine lv_iconst (v := (-1)) hx hb dX11_round_15 (by decide) ?_
      refine lv_bipush (v := 8) hx hb dX11_round_16 (by decide) ?_
      obtain ⟨x5, hx5, h⟩ := mbv_some h
      refine kr_ci hC hW (kr_runS hC hW hl.1 (t_vs_within hx5) cw_X11_100 rfl rfl (Nat.le_of_ble_eq_true rfl) dX11_round_18 (by decide)) (fun H locs hW => ?_)
      refine lv_if_ne (tgt := 26) hx hb dX11_round_21 (by decide) (fun hc6 => ?_) (fun hc6 => ?_)
      · replace h := if_n hc6 h
        refine lv_aload_n hx hb dX11_round_26 rfl (lv_at hl 0 rfl) ?_
        refine gf_X11_33_x0 hC hW dX11_round_27 ?_
        refine lv_iload_n hx hb dX11_round_30 rfl (lv_at hl 1 rfl) ?_
        refine lv_iload_n hx hb dX11_round_31 rfl (lv_at hl 2 rfl) ?_
        obtain ⟨x7, hx7, h⟩ := mbv_some h
        refine kr_ci hC hW (kr_runV hC hW hl.1 (t_vs_Stops_stopsOn hx7) cw_X11_350 (wx_4 g μ) rfl rfl rfl (Nat.le_of_ble_eq_true rfl) dX11_round_32 (by decide)) (fun H locs hW => ?_)
        refine lv_istore (lv' := [(4, .int x7), (0, .ref (ad g 0)), (1, .int a1), (2, .int a2), (3, .int a3)]) hx hb dX11_round_35 hl (by decide) rfl (fun ls hl => ?_)
        refine lv_aload_n hx hb dX11_round_37 rfl (lv_at hl 1 rfl) ?_
        refine gf_X11_65_x0 hC hW dX11_round_38 ?_
        refine lv_iload hx hb dX11_round_41 (lv_at hl 0 rfl) ?_
        obtain ⟨x8, μ9, hx8, h⟩ := mbm_some h
        refine kr_ci hC hW (kr_runV hC hW hl.1 (t_vs_Rounds_shortest hx8) cw_X11_353 (wx_8 g μ) rfl rfl rfl (Nat.le_of_ble_eq_true rfl) dX11_round_43 (by decide)) (fun H locs hW => ?_)
        refine lv_istore (lv' := [(5, .int x8), (4, .int x7), (0, .ref (ad g 0)), (1, .int a1), (2, .int a2), (3, .int a3)]) hx hb dX11_round_46 hl (by decide) rfl (fun ls hl => ?_)
        refine lv_iload hx hb dX11_round_48 (lv_at hl 0 rfl) ?_
        refine lv_bipush (v := (-2)) hx hb dX11_round_50 (by decide) ?_
        refine lv_icmp_eq (tgt := 60) hx hb dX11_round_52 (by decide) (fun hc10 => ?_) (fun hc10 => ?_)
        · replace h := if_p hc10 h
          refine lv_iload hx hb dX11_round_60 (lv_at hl 0 rfl) ?_
          cases h
          exact kr_iret hC hr hlocks hW dX11_round_62
        · replace h := if_n hc10 h
          refine lv_iload_n hx hb dX11_round_55 rfl (lv_at hl 5 rfl) ?_
          refine lv_iconst (v := (-1)) hx hb dX11_round_56 (by decide) ?_
          refine lv_icmp_ne (tgt := 63) hx hb dX11_round_57 (by decide) (fun hc11 => ?_) (fun hc11 => ?_)
          · replace h := if_n hc11 h
            refine lv_iload_n hx hb dX11_round_63 rfl (lv_at hl 5 rfl) ?_
            refine lv_bipush (v := 8) hx hb dX11_round_64 (by decide) ?_
            refine lv_icmp_ne (tgt := 83) hx hb dX11_round_66 (by decide) (fun hc12 => ?_) (fun hc12 => ?_)
            · replace h := if_n hc12 h
              refine lv_aload_n hx hb dX11_round_83 rfl (lv_at hl 2 rfl) ?_
              refine gf_X11_65_x0 hC hW dX11_round_84 ?_
              refine lv_iload_n hx hb dX11_round_87 rfl (lv_at hl 5 rfl) ?_
              obtain ⟨x13, hx13, h⟩ := mbv_some h
              refine kr_ci hC hW (kr_runV hC hW hl.1 (t_vs_Rounds_stopAt hx13) cw_X11_359 (wx_8 g μ9) rfl rfl rfl (Nat.le_of_ble_eq_true rfl) dX11_round_88 (by decide)) (fun H locs hW => ?_)
              cases h
              exact kr_iret hC hr hlocks hW dX11_round_91
            · replace h := if_p hc12 h
              refine lv_aload_n hx hb dX11_round_69 rfl (lv_at hl 2 rfl) ?_
              refine gf_X11_65_x0 hC hW dX11_round_70 ?_
              refine lv_iload hx hb dX11_round_73 (lv_at hl 1 rfl) ?_
              refine lv_iload hx hb dX11_round_75 (lv_at hl 0 rfl) ?_
              obtain ⟨x14, hx14, h⟩ := mbv_some h
              refine kr_ci hC hW (kr_runV hC hW hl.1 (t_vs_Rounds_minutes hx14) cw_X11_356 (wx_8 g μ9) rfl rfl rfl (Nat.le_of_ble_eq_true rfl) dX11_round_77 (by decide)) (fun H locs hW => ?_)
              refine lv_goto (tgt := 91) hx hb dX11_round_80 (by decide) ?_
              cases h
              exact kr_iret hC hr hlocks hW dX11_round_91
          · replace h := if_p hc11 h
            refine lv_iload hx hb dX11_round_60 (lv_at hl 0 rfl) ?_
            cases h
            exact kr_iret hC hr hlocks hW dX11_round_62
      · replace h := if_p hc6 h
        refine lv_iconst (v := (-1)) hx hb dX11_round_24 (by decide) ?_
        cases h
        exact kr_iret hC hr hlocks hW dX11_round_25
set_option maxHeartbeats 4000000 in
set_option maxRecDepth 100000 in
theorem tl_vs_loansOf_4 (μ : Mm) (a1 : Int32) (hC : Cx g RX11 cX11_loansOf 4 p s m args c) {e0 : (Int32)} (kx0 : ∀ (ls : Array Slot) (H : Heap) (locs : List Loc), lv_has ls 4 [(2, .int e0)] → wP g wx A s.heap μ H locs → W p l e (rmD 0) s m args below meth c H locs 0 0 Q (F0 m 46 ls [])) : ∀ (n : Nat) (q : Int32 × Int32), miter (fun q => vs_loansOf_b4 μ a1 q.1 q.2) n q = some e0 → ∀ (ls : Array Slot) (H : Heap) (locs : List Loc), lv_has ls 4 [(0, .ref (ad g 0)), (1, .int a1), (2, .int q.1), (3, .int q.2)] → wP g wx A s.heap μ H locs → W p l e (rmD 0) s m args below meth c H locs 0 0 Q (F0 m 4 ls []) := by
  obtain ⟨hx, hb, hml, hown, hts, hK, hN⟩ := id hC
  refine miter_ind (fun q r hf k1 k2 => ?_)
  obtain ⟨xs2, xs3⟩ := q
  intro ls H locs hl hW
  have h : vs_loansOf_b4 μ a1 xs2 xs3 = some r := hf
  unfold vs_loansOf_b4 at h
  refine lv_iload_n hx hb dX11_loansOf_4 rfl (lv_at hl 3 rfl) ?_
  refine lv_aload_n hx hb dX11_loansOf_5 rfl (lv_at hl 0 rfl) ?_
  refine gf_X11_26_x0 hC hW dX11_loansOf_6 ?_
  refine gf_X11_278_x3 hC hW dX11_loansOf_9 ?_
  refine lv_icmp_ge (tgt := 46) hx hb dX11_loansOf_12 (by decide) (fun hc1 => ?_) (fun hc1 => ?_)
  · replace h := if_p hc1 h
    obtain rfl := k2 _ (Option.some.inj h).symm
    exact kx0 _ _ _ (lv_sub hl [2] rfl) hW
  · replace h := if_n hc1 h
    refine lv_aload_n hx hb dX11_loansOf_15 rfl (lv_at hl 0 rfl) ?_
    refine gf_X11_26_x0 hC hW dX11_loansOf_16 ?_
    refine gf_X11_202_x3 hC hW dX11_loansOf_19 ?_
    refine lv_iload_n hx hb dX11_loansOf_22 rfl (lv_at hl 3 rfl) ?_
    obtain ⟨x2, ex2, hin, h⟩ := mrd_ex h
    refine kr_iald hC hW (wx_25 g μ) hin ex2 dX11_loansOf_23 ?_
    refine lv_iload_n hx hb dX11_loansOf_24 rfl (lv_at hl 1 rfl) ?_
    refine lv_icmp_ne (tgt := 40) hx hb dX11_loansOf_25 (by decide) (fun hc3 => ?_) (fun hc3 => ?_)
    · replace h := if_n hc3 h
      refine lv_iinc (v := (xs3 + 1)) (lv' := [(3, .int (xs3 + 1)), (0, .ref (ad g 0)), (1, .int a1), (2, .int xs2)]) hx hb dX11_loansOf_40 hl (k := 3) rfl (by rw [oi_1]) (by decide) rfl (fun ls hl => ?_)
      refine lv_goto (tgt := 4) hx hb dX11_loansOf_43 (by decide) ?_
      exact k1 (xs2, (xs3 + 1)) (Option.some.inj h).symm _ _ _ (lv_sub hl [1, 2, 3, 0] rfl) hW
    · replace h := if_p hc3 h
      refine lv_iload_n hx hb dX11_loansOf_28 rfl (lv_at hl 2 rfl) ?_
      refine lv_aload_n hx hb dX11_loansOf_29 rfl (lv_at hl 0 rfl) ?_
      refine gf_X11_26_x0 hC hW dX11_loansOf_30 ?_
      refine gf_X11_214_x3 hC hW dX11_loansOf_33 ?_
      refine lv_iload_n hx hb dX11_loansOf_36 rfl (lv_at hl 3 rfl) ?_
      obtain ⟨x4, ex4, hin, h⟩ := mrd_ex h
      refine kr_iald hC hW (wx_30 g μ) hin ex4 dX11_loansOf_37 ?_
      refine lv_iadd hx hb dX11_loansOf_38 ?_
      refine lv_istore_n (lv' := [(2, .int (xs2 + x4)), (0, .ref (ad g 0)), (1, .int a1), (3, .int xs3)]) hx hb dX11_loansOf_39 rfl hl (by decide) rfl (fun ls hl => ?_)
      refine lv_iinc (v := (xs3 + 1)) (lv' := [(3, .int (xs3 + 1)), (2, .int (xs2 + x4)), (0, .ref (ad g 0)), (1, .int a1)]) hx hb dX11_loansOf_40 hl (k := 3) rfl (by rw [oi_1]) (by decide) rfl (fun ls hl => ?_)
      refine lv_goto (tgt := 4) hx hb dX11_loansOf_43 (by decide) ?_
      exact k1 ((xs2 + x4), (xs3 + 1)) (Option.some.inj h).symm _ _ _ (lv_sub hl [2, 3, 1, 0] rfl) hW
set_option maxHeartbeats 4000000 in
set_option maxRecDepth 100000 in
theorem t_vs_loansOf {l : Launch} {g : Gx} {A : Nat → Prop} {μ : Mm} {a1 : Int32} {v : Int32} (h : vs_loansOf μ a1 = some v) : Cti l g A wx yX11_loansOf cX11_loansOf 4 (some .int) 0 [.ref (ad g 0), .int a1] μ v μ := by
  refine ent (lv := [(0, .ref (ad g 0)), (1, .int a1)]) (by decide) (Nat.le_of_ble_eq_true rfl) rfl ?_
  intro p e s m args below meth c hC hr hlocks hnm hW ls hl
  replace hC : Cx g RX11 cX11_loansOf 4 p s m args c := hC
  obtain ⟨hx, hb, hml, hown, hts, hK, hN⟩ := id hC
  unfold vs_loansOf at h
  refine lv_iconst (v := 0) hx hb dX11_loansOf_0 (by decide) ?_
  refine lv_istore_n (lv' := [(2, .int 0), (0, .ref (ad g 0)), (1, .int a1)]) hx hb dX11_loansOf_1 rfl hl (by decide) rfl (fun ls hl => ?_)
  refine lv_iconst (v := 0) hx hb dX11_loansOf_2 (by decide) ?_
  refine lv_istore_n (lv' := [(3, .int 0), (2, .int 0), (0, .ref (ad g 0)), (1, .int a1)]) hx hb dX11_loansOf_3 rfl hl (by decide) rfl (fun ls hl => ?_)
  obtain ⟨x5, he6, h⟩ := mbv_some h
  refine tl_vs_loansOf_4 μ a1 hC (fun ls H locs hl hW => ?_) FU (0, 0) he6 _ _ _ (lv_sub hl [2, 3, 1, 0] rfl) hW
  refine lv_iload_n hx hb dX11_loansOf_46 rfl (lv_at hl 0 rfl) ?_
  cases h
  exact kr_iret hC hr hlocks hW dX11_loansOf_47
set_option maxHeartbeats 4000000 in
set_option maxRecDepth 100000 in
theorem t_vs_Stops_toldWith {l : Launch} {g : Gx} {A : Nat → Prop} {μ : Mm} {a1 : Int32} {v : Int32} (h : vs_Stops_toldWith μ a1 = some v) : Cti l g A wx yX8_toldWith cX8_toldWith 2 (some .int) 0 [.ref (ad g 4), .int a1] μ v μ := by
  refine ent (lv := [(0, .ref (ad g 4)), (1, .int a1)]) (by decide) (Nat.le_of_ble_eq_true rfl) rfl ?_
  intro p e s m args below meth c hC hr hlocks hnm hW ls hl
  replace hC : Cx g RX8 cX8_toldWith 2 p s m args c := hC
  obtain ⟨hx, hb, hml, hown, hts, hK, hN⟩ := id hC
  unfold vs_Stops_toldWith at h
  refine lv_aload_n hx hb dX8_toldWith_0 rfl (lv_at hl 0 rfl) ?_
  refine gf_X8_21_x4 hC hW dX8_toldWith_1 ?_
  refine lv_iload_n hx hb dX8_toldWith_4 rfl (lv_at hl 1 rfl) ?_
  obtain ⟨x1, ex1, hin, h⟩ := mrd_ex h
  refine kr_iald hC hW (wx_35 g μ) hin ex1 dX8_toldWith_5 ?_
  refine lv_iconst (v := (-1)) hx hb dX8_toldWith_6 (by decide) ?_
  refine lv_icmp_ne (tgt := 14) hx hb dX8_toldWith_7 (by decide) (fun hc2 => ?_) (fun hc2 => ?_)
  · replace h := if_n hc2 h
    refine lv_aload_n hx hb dX8_toldWith_14 rfl (lv_at hl 0 rfl) ?_
    refine gf_X8_39_x4 hC hW dX8_toldWith_15 ?_
    refine lv_aload_n hx hb dX8_toldWith_18 rfl (lv_at hl 0 rfl) ?_
    refine gf_X8_21_x4 hC hW dX8_toldWith_19 ?_
    refine lv_iload_n hx hb dX8_toldWith_22 rfl (lv_at hl 1 rfl) ?_
    obtain ⟨x3, ex3, hin, h⟩ := mrd_ex h
    refine kr_iald hC hW (wx_35 g μ) hin ex3 dX8_toldWith_23 ?_
    refine lv_bipush (v := 14) hx hb dX8_toldWith_24 (by decide) ?_
    refine lv_imul hx hb dX8_toldWith_26 ?_
    refine lv_aload_n hx hb dX8_toldWith_27 rfl (lv_at hl 0 rfl) ?_
    refine gf_X8_24_x4 hC hW dX8_toldWith_28 ?_
    refine lv_iload_n hx hb dX8_toldWith_31 rfl (lv_at hl 1 rfl) ?_
    obtain ⟨x4, ex4, hin, h⟩ := mrd_ex h
    refine kr_iald hC hW (wx_36 g μ) hin ex4 dX8_toldWith_32 ?_
    refine lv_iadd hx hb dX8_toldWith_33 ?_
    obtain ⟨x5, ex5, hin, h⟩ := mrd_ex h
    refine kr_iald hC hW (wx_41 g μ) hin ex5 dX8_toldWith_34 ?_
    cases h
    exact kr_iret hC hr hlocks hW dX8_toldWith_35
  · replace h := if_p hc2 h
    refine lv_iconst (v := 0) hx hb dX8_toldWith_10 (by decide) ?_
    refine lv_goto (tgt := 35) hx hb dX8_toldWith_11 (by decide) ?_
    cases h
    exact kr_iret hC hr hlocks hW dX8_toldWith_35
set_option maxHeartbeats 4000000 in
set_option maxRecDepth 100000 in
theorem t_vs_milesSaved {l : Launch} {g : Gx} {A : Nat → Prop} {μ : Mm} {a1 : Int32} {v : Int32} {u : Mm} (h : vs_milesSaved μ a1 = some (v, u)) : Cti l g A wx yX11_milesSaved cX11_milesSaved 5 (some .int) 4 [.ref (ad g 0), .int a1] μ v u := by
  refine ent (lv := [(0, .ref (ad g 0)), (1, .int a1)]) (by decide) (Nat.le_of_ble_eq_true rfl) rfl ?_
  intro p e s m args below meth c hC hr hlocks hnm hW ls hl
  replace hC : Cx g RX11 cX11_milesSaved 5 p s m args c := hC
  obtain ⟨hx, hb, hml, hown, hts, hK, hN⟩ := id hC
  unfold vs_milesSaved at h
  refine lv_aload_n hx hb dX11_milesSaved_0 rfl (lv_at hl 0 rfl) ?_
  refine gf_X11_33_x0 hC hW dX11_milesSaved_1 ?_
  refine lv_iload_n hx hb dX11_milesSaved_4 rfl (lv_at hl 1 rfl) ?_
  obtain ⟨x1, hx1, h⟩ := mbv_some h
  refine kr_ci hC hW (kr_runV hC hW hl.1 (t_vs_Stops_toldWith hx1) cw_X11_439 (wx_4 g μ) rfl rfl rfl (Nat.le_of_ble_eq_true rfl) dX11_milesSaved_5 (by decide)) (fun H locs hW => ?_)
  refine lv_istore_n (lv' := [(2, .int x1), (0, .ref (ad g 0)), (1, .int a1)]) hx hb dX11_milesSaved_8 rfl hl (by decide) rfl (fun ls hl => ?_)
  refine lv_aload_n hx hb dX11_milesSaved_9 rfl (lv_at hl 1 rfl) ?_
  refine gf_X11_65_x0 hC hW dX11_milesSaved_10 ?_
  refine lv_iload_n hx hb dX11_milesSaved_13 rfl (lv_at hl 0 rfl) ?_
  obtain ⟨x2, μ3, hx2, h⟩ := mbm_some h
  refine kr_ci hC hW (kr_runV hC hW hl.1 (t_vs_Rounds_shortest hx2) cw_X11_353 (wx_8 g μ) rfl rfl rfl (Nat.le_of_ble_eq_true rfl) dX11_milesSaved_14 (by decide)) (fun H locs hW => ?_)
  refine lv_istore_n (lv' := [(3, .int x2), (2, .int x1), (0, .ref (ad g 0)), (1, .int a1)]) hx hb dX11_milesSaved_17 rfl hl (by decide) rfl (fun ls hl => ?_)
  refine lv_aload_n hx hb dX11_milesSaved_18 rfl (lv_at hl 2 rfl) ?_
  refine gf_X11_65_x0 hC hW dX11_milesSaved_19 ?_
  refine lv_iload_n hx hb dX11_milesSaved_22 rfl (lv_at hl 1 rfl) ?_
  refine lv_iconst (v := 1) hx hb dX11_milesSaved_23 (by decide) ?_
  refine lv_iload_n hx hb dX11_milesSaved_24 rfl (lv_at hl 3 rfl) ?_
  refine lv_ishl hx hb dX11_milesSaved_25 ?_
  refine lv_iconst (v := (-1)) hx hb dX11_milesSaved_26 (by decide) ?_
  refine lv_ixor hx hb dX11_milesSaved_27 ?_
  refine lv_iand hx hb dX11_milesSaved_28 ?_
  obtain ⟨x4, μ5, hx4, h⟩ := mbm_some h
  refine kr_ci hC hW (kr_runV hC hW hl.1 (t_vs_Rounds_shortest hx4) cw_X11_353 (wx_8 g μ3) rfl rfl rfl (Nat.le_of_ble_eq_true rfl) dX11_milesSaved_29 (by decide)) (fun H locs hW => ?_)
  refine lv_istore (lv' := [(4, .int x4), (3, .int x2), (2, .int x1), (0, .ref (ad g 0)), (1, .int a1)]) hx hb dX11_milesSaved_32 hl (by decide) rfl (fun ls hl => ?_)
  refine lv_iload_n hx hb dX11_milesSaved_34 rfl (lv_at hl 1 rfl) ?_
  refine lv_bipush (v := (-2)) hx hb dX11_milesSaved_35 (by decide) ?_
  refine lv_icmp_eq (tgt := 47) hx hb dX11_milesSaved_37 (by decide) (fun hc6 => ?_) (fun hc6 => ?_)
  · replace h := if_p hc6 h
    refine lv_bipush (v := (-2)) hx hb dX11_milesSaved_47 (by decide) ?_
    refine lv_goto (tgt := 56) hx hb dX11_milesSaved_49 (by decide) ?_
    cases h
    exact kr_iret hC hr hlocks hW dX11_milesSaved_56
  · replace h := if_n hc6 h
    refine lv_iload hx hb dX11_milesSaved_40 (lv_at hl 0 rfl) ?_
    refine lv_bipush (v := (-2)) hx hb dX11_milesSaved_42 (by decide) ?_
    refine lv_icmp_ne (tgt := 52) hx hb dX11_milesSaved_44 (by decide) (fun hc7 => ?_) (fun hc7 => ?_)
    · replace h := if_n hc7 h
      refine lv_iload_n hx hb dX11_milesSaved_52 rfl (lv_at hl 1 rfl) ?_
      refine lv_iload hx hb dX11_milesSaved_53 (lv_at hl 0 rfl) ?_
      refine lv_isub hx hb dX11_milesSaved_55 ?_
      cases h
      exact kr_iret hC hr hlocks hW dX11_milesSaved_56
    · replace h := if_p hc7 h
      refine lv_bipush (v := (-2)) hx hb dX11_milesSaved_47 (by decide) ?_
      refine lv_goto (tgt := 56) hx hb dX11_milesSaved_49 (by decide) ?_
      cases h
      exact kr_iret hC hr hlocks hW dX11_milesSaved_56
set_option maxHeartbeats 4000000 in
set_option maxRecDepth 100000 in
theorem t_vs_went {l : Launch} {g : Gx} {A : Nat → Prop} {μ : Mm} {a1 : Int32} {a2 : Int32} {v : Int32} {u : Mm} (h : vs_went μ a1 a2 = some (v, u)) : Cti l g A wx yX11_went cX11_went 3 (some .int) 5 [.ref (ad g 0), .int a1, .int a2] μ v u := by
  refine ent (lv := [(0, .ref (ad g 0)), (1, .int a1), (2, .int a2)]) (by decide) (Nat.le_of_ble_eq_true rfl) rfl ?_
  intro p e s m args below meth c hC hr hlocks hnm hW ls hl
  replace hC : Cx g RX11 cX11_went 3 p s m args c := hC
  obtain ⟨hx, hb, hml, hown, hts, hK, hN⟩ := id hC
  unfold vs_went at h
  refine lv_aload_n hx hb dX11_went_0 rfl (lv_at hl 0 rfl) ?_
  refine gf_X11_33_x0 hC hW dX11_went_1 ?_
  refine lv_iload_n hx hb dX11_went_4 rfl (lv_at hl 1 rfl) ?_
  obtain ⟨x1, hx1, h⟩ := mbv_some h
  refine kr_ci hC hW (kr_runV hC hW hl.1 (t_vs_Stops_has hx1) cw_X11_119 (wx_4 g μ) rfl rfl rfl (Nat.le_of_ble_eq_true rfl) dX11_went_5 (by decide)) (fun H locs hW => ?_)
  refine lv_if_ne (tgt := 13) hx hb dX11_went_8 (by decide) (fun hc2 => ?_) (fun hc2 => ?_)
  · replace h := if_n hc2 h
    refine lv_iload_n hx hb dX11_went_13 rfl (lv_at hl 2 rfl) ?_
    by_cases hc3 : a2 = 0
    · replace h := if_p hc3 h
      refine lv_tableIn (off := 26) (tgt := 40) hx hb dX11_went_14 (by rw [hc3]; decide) (by rw [hc3]; decide) (by rw [hc3]; rfl) (by decide) ?_
      refine lv_aload_n hx hb dX11_went_40 rfl (lv_at hl 0 rfl) ?_
      refine lv_iload_n hx hb dX11_went_41 rfl (lv_at hl 1 rfl) ?_
      obtain ⟨x4, μ5, hx4, h⟩ := mbm_some h
      refine kr_ci hC hW (kr_runV hC hW hl.1 (t_vs_milesSaved hx4) cw_X11_362 (wx_0 g μ) rfl rfl rfl (Nat.le_of_ble_eq_true rfl) dX11_went_42 (by decide)) (fun H locs hW => ?_)
      cases h
      exact kr_iret hC hr hlocks hW dX11_went_45
    replace h := if_n hc3 h
    by_cases hc6 : a2 = 1
    · replace h := if_p hc6 h
      refine lv_tableIn (off := 32) (tgt := 46) hx hb dX11_went_14 (by rw [hc6]; decide) (by rw [hc6]; decide) (by rw [hc6]; rfl) (by decide) ?_
      refine lv_aload_n hx hb dX11_went_46 rfl (lv_at hl 0 rfl) ?_
      refine gf_X11_33_x0 hC hW dX11_went_47 ?_
      refine gf_X11_129_x4 hC hW dX11_went_50 ?_
      refine lv_iload_n hx hb dX11_went_53 rfl (lv_at hl 1 rfl) ?_
      obtain ⟨x7, ex7, hin, h⟩ := mrd_ex h
      refine kr_iald hC hW (wx_39 g μ) hin ex7 dX11_went_54 ?_
      obtain ⟨x8, hx8, h⟩ := mbv_some h
      refine kr_ci hC hW (kr_runS hC hW hl.1 (t_vs_Integer_bitCount_0f7a4 hx8) cw_X11_241 rfl rfl (Nat.le_of_ble_eq_true rfl) dX11_went_55 (by decide)) (fun H locs hW => ?_)
      cases h
      exact kr_iret hC hr hlocks hW dX11_went_58
    replace h := if_n hc6 h
    by_cases hc9 : a2 = 2
    · replace h := if_p hc9 h
      refine lv_tableIn (off := 45) (tgt := 59) hx hb dX11_went_14 (by rw [hc9]; decide) (by rw [hc9]; decide) (by rw [hc9]; rfl) (by decide) ?_
      refine lv_aload_n hx hb dX11_went_59 rfl (lv_at hl 0 rfl) ?_
      refine lv_iload_n hx hb dX11_went_60 rfl (lv_at hl 1 rfl) ?_
      obtain ⟨x10, hx10, h⟩ := mbv_some h
      refine kr_ci hC hW (kr_runV hC hW hl.1 (t_vs_loansOf hx10) cw_X11_365 (wx_0 g μ) rfl rfl rfl (Nat.le_of_ble_eq_true rfl) dX11_went_61 (by decide)) (fun H locs hW => ?_)
      cases h
      exact kr_iret hC hr hlocks hW dX11_went_64
    replace h := if_n hc9 h
    have thc3 := lv_neT (a := 0) hc3 (by decide)
    have thc6 := lv_neT (a := 1) hc6 (by decide)
    have thc9 := lv_neT (a := 2) hc9 (by decide)
    refine lv_tableOut (tgt := 65) hx hb dX11_went_14 (by omega) (by decide) ?_
    refine lv_iconst (v := (-1)) hx hb dX11_went_65 (by decide) ?_
    cases h
    exact kr_iret hC hr hlocks hW dX11_went_66
  · replace h := if_p hc2 h
    refine lv_iconst (v := (-1)) hx hb dX11_went_11 (by decide) ?_
    cases h
    exact kr_iret hC hr hlocks hW dX11_went_12
set_option maxHeartbeats 4000000 in
set_option maxRecDepth 100000 in
theorem t_vs_Stops_lose {l : Launch} {g : Gx} {A : Nat → Prop} {μ : Mm} {a1 : Int32} {a2 : Int32} {u : Mm} (h : vs_Stops_lose μ a1 a2 = some u) : Ctv l g A wx yX8_lose cX8_lose 3 none 0 [.ref (ad g 4), .int a1, .int a2] μ u := by
  refine ent (lv := [(0, .ref (ad g 4)), (1, .int a1), (2, .int a2)]) (by decide) (Nat.le_of_ble_eq_true rfl) rfl ?_
  intro p e s m args below meth c hC hr hlocks hnm hW ls hl
  replace hC : Cx g RX8 cX8_lose 3 p s m args c := hC
  obtain ⟨hx, hb, hml, hown, hts, hK, hN⟩ := id hC
  unfold vs_Stops_lose at h
  refine lv_aload_n hx hb dX8_lose_0 rfl (lv_at hl 0 rfl) ?_
  refine gf_X8_45_x4 hC hW dX8_lose_1 ?_
  refine lv_iload_n hx hb dX8_lose_4 rfl (lv_at hl 1 rfl) ?_
  refine lv_sipush (v := 200) hx hb dX8_lose_5 (by decide) ?_
  refine lv_imul hx hb dX8_lose_8 ?_
  refine lv_iload_n hx hb dX8_lose_9 rfl (lv_at hl 2 rfl) ?_
  refine lv_iadd hx hb dX8_lose_10 ?_
  refine lv_iconst (v := 1) hx hb dX8_lose_11 (by decide) ?_
  obtain ⟨μ1, eμ1, hin, h⟩ := mwr_ex h
  refine kr_iast hC hW (wx_43 g μ) (wxs_43 eμ1) hin dX8_lose_12 (fun H locs hW => ?_)
  refine lv_aload_n hx hb dX8_lose_13 rfl (lv_at hl 0 rfl) ?_
  refine lv_dup hx hb dX8_lose_14 rfl ?_
  refine gf_X8_56_x4 hC hW dX8_lose_15 ?_
  refine lv_iconst (v := 1) hx hb dX8_lose_18 (by decide) ?_
  refine lv_iadd hx hb dX8_lose_19 ?_
  obtain ⟨μ2, eμ2, h⟩ := mst_some h
  refine pf_X8_56_x4 hC hW eμ2 dX8_lose_20 (fun H locs hW => ?_)
  cases h
  exact kr_vret hC hr hlocks hW dX8_lose_23
set_option maxHeartbeats 4000000 in
set_option maxRecDepth 100000 in
theorem tj_vs_Rounds_growth_30 {μ : Mm} (a1 : Int32) (a2 : Int32) (a3 : Int32) (hC : Cx g RX6 cX6_growth 7 p s m args c) (hr : meth.sig.returnType = some .int) (hlocks : meth.locks = false) {v : Int32} {u : Mm} (hl : lv_has ls 7 [(0, .ref (ad g 8)), (1, .int a1), (2, .int a2), (3, .int a3)]) (hW : wP g wx A s.heap μ H locs) (h : vs_Rounds_growth_j30 μ a1 a2 a3 = some (v, u)) : W p l e (rmD 4) s m args below meth c H locs 0 0 (MQ below (Qi g A wx v u) args s 0 0 A) (F0 m 30 ls []) := by
  obtain ⟨hx, hb, hml, hown, hts, hK, hN⟩ := id hC
  unfold vs_Rounds_growth_j30 at h
  refine lv_iload_n hx hb dX6_growth_30 rfl (lv_at hl 1 rfl) ?_
  refine lv_iload_n hx hb dX6_growth_31 rfl (lv_at hl 2 rfl) ?_
  obtain ⟨x4, hx4, h⟩ := mbv_some h
  refine kr_ci hC hW (kr_runN hC hW hl.1 (t_vs_hasBit hx4) cw_X6_41 rfl rfl (Nat.le_of_ble_eq_true rfl) dX6_growth_32 (by decide)) (fun H locs hW => ?_)
  refine lv_if_eq (tgt := 40) hx hb dX6_growth_35 (by decide) (fun hc5 => ?_) (fun hc5 => ?_)
  · replace h := if_p hc5 h
    refine lv_iload_n hx hb dX6_growth_40 rfl (lv_at hl 1 rfl) ?_
    refine lv_iconst (v := 1) hx hb dX6_growth_41 (by decide) ?_
    refine lv_iload_n hx hb dX6_growth_42 rfl (lv_at hl 2 rfl) ?_
    refine lv_ishl hx hb dX6_growth_43 ?_
    refine lv_ior hx hb dX6_growth_44 ?_
    refine lv_istore (lv' := [(5, .int (a1 ||| ((1 : Int32) <<< (a2 &&& 31)))), (0, .ref (ad g 8)), (1, .int a1), (2, .int a2), (3, .int a3)]) hx hb dX6_growth_45 hl (by decide) rfl (fun ls hl => ?_)
    refine lv_aload_n hx hb dX6_growth_47 rfl (lv_at hl 1 rfl) ?_
    refine lv_iload hx hb dX6_growth_48 (lv_at hl 0 rfl) ?_
    obtain ⟨x6, μ7, hx6, h⟩ := mbm_some h
    refine kr_ci hC hW (kr_runV hC hW hl.1 (t_vs_Rounds_shortest hx6) cw_X6_58 (wx_8 g μ) rfl rfl rfl (Nat.le_of_ble_eq_true rfl) dX6_growth_50 (by decide)) (fun H locs hW => ?_)
    refine lv_istore (lv' := [(6, .int x6), (5, .int (a1 ||| ((1 : Int32) <<< (a2 &&& 31)))), (0, .ref (ad g 8)), (1, .int a1), (2, .int a2), (3, .int a3)]) hx hb dX6_growth_53 hl (by decide) rfl (fun ls hl => ?_)
    refine lv_aload_n hx hb dX6_growth_55 rfl (lv_at hl 2 rfl) ?_
    refine lv_iload hx hb dX6_growth_56 (lv_at hl 1 rfl) ?_
    refine lv_iload hx hb dX6_growth_58 (lv_at hl 0 rfl) ?_
    obtain ⟨x8, hx8, h⟩ := mbv_some h
    refine kr_ci hC hW (kr_runV hC hW hl.1 (t_vs_Rounds_minutes hx8) cw_X6_61 (wx_8 g μ7) rfl rfl rfl (Nat.le_of_ble_eq_true rfl) dX6_growth_60 (by decide)) (fun H locs hW => ?_)
    refine lv_iload_n hx hb dX6_growth_63 rfl (lv_at hl 5 rfl) ?_
    refine lv_icmp_le (tgt := 71) hx hb dX6_growth_64 (by decide) (fun hc9 => ?_) (fun hc9 => ?_)
    · replace h := if_p hc9 h
      refine lv_iload hx hb dX6_growth_71 (lv_at hl 0 rfl) ?_
      refine lv_aload_n hx hb dX6_growth_73 rfl (lv_at hl 2 rfl) ?_
      refine lv_iload_n hx hb dX6_growth_74 rfl (lv_at hl 3 rfl) ?_
      obtain ⟨x10, μ11, hx10, h⟩ := mbm_some h
      refine kr_ci hC hW (kr_runV hC hW hl.1 (t_vs_Rounds_shortest hx10) cw_X6_58 (wx_8 g μ7) rfl rfl rfl (Nat.le_of_ble_eq_true rfl) dX6_growth_75 (by decide)) (fun H locs hW => ?_)
      refine lv_isub hx hb dX6_growth_78 ?_
      cases h
      exact kr_iret hC hr hlocks hW dX6_growth_79
    · replace h := if_n hc9 h
      refine lv_iconst (v := (-1)) hx hb dX6_growth_67 (by decide) ?_
      refine lv_goto (tgt := 79) hx hb dX6_growth_68 (by decide) ?_
      cases h
      exact kr_iret hC hr hlocks hW dX6_growth_79
  · replace h := if_n hc5 h
    refine lv_iconst (v := 0) hx hb dX6_growth_38 (by decide) ?_
    cases h
    exact kr_iret hC hr hlocks hW dX6_growth_39
set_option maxHeartbeats 4000000 in
set_option maxRecDepth 100000 in
theorem t_vs_Rounds_growth {l : Launch} {g : Gx} {A : Nat → Prop} {μ : Mm} {a1 : Int32} {a2 : Int32} {a3 : Int32} {v : Int32} {u : Mm} (h : vs_Rounds_growth μ a1 a2 a3 = some (v, u)) : Cti l g A wx yX6_growth cX6_growth 7 (some .int) 4 [.ref (ad g 8), .int a1, .int a2, .int a3] μ v u := by
  refine ent (lv := [(0, .ref (ad g 8)), (1, .int a1), (2, .int a2), (3, .int a3)]) (by decide) (Nat.le_of_ble_eq_true rfl) rfl ?_
  intro p e s m args below meth c hC hr hlocks hnm hW ls hl
  replace hC : Cx g RX6 cX6_growth 7 p s m args c := hC
  obtain ⟨hx, hb, hml, hown, hts, hK, hN⟩ := id hC
  unfold vs_Rounds_growth at h
  refine lv_iload_n hx hb dX6_growth_0 rfl (lv_at hl 1 rfl) ?_
  obtain ⟨x1, hx1, h⟩ := mbv_some h
  refine kr_ci hC hW (kr_runS hC hW hl.1 (t_vs_Integer_bitCount_0f7a4 hx1) cw_X6_32 rfl rfl (Nat.le_of_ble_eq_true rfl) dX6_growth_1 (by decide)) (fun H locs hW => ?_)
  refine lv_istore (lv' := [(4, .int x1), (0, .ref (ad g 8)), (1, .int a1), (2, .int a2), (3, .int a3)]) hx hb dX6_growth_4 hl (by decide) rfl (fun ls hl => ?_)
  refine lv_iload hx hb dX6_growth_6 (lv_at hl 0 rfl) ?_
  refine lv_bipush (v := 8) hx hb dX6_growth_8 (by decide) ?_
  refine lv_icmp_gt (tgt := 28) hx hb dX6_growth_10 (by decide) (fun hc2 => ?_) (fun hc2 => ?_)
  · replace h := if_p hc2 h
    refine lv_iconst (v := (-1)) hx hb dX6_growth_28 (by decide) ?_
    cases h
    exact kr_iret hC hr hlocks hW dX6_growth_29
  · replace h := if_n hc2 h
    refine lv_iload hx hb dX6_growth_13 (lv_at hl 0 rfl) ?_
    refine lv_bipush (v := 8) hx hb dX6_growth_15 (by decide) ?_
    refine lv_icmp_ne (tgt := 30) hx hb dX6_growth_17 (by decide) (fun hc3 => ?_) (fun hc3 => ?_)
    · replace h := if_n hc3 h
      exact tj_vs_Rounds_growth_30 a1 a2 a3 hC hr hlocks (lv_sub hl [1, 2, 3, 4] rfl) hW h
    · replace h := if_p hc3 h
      refine lv_iload_n hx hb dX6_growth_20 rfl (lv_at hl 2 rfl) ?_
      refine lv_iload_n hx hb dX6_growth_21 rfl (lv_at hl 3 rfl) ?_
      obtain ⟨x12, hx12, h⟩ := mbv_some h
      refine kr_ci hC hW (kr_runN hC hW hl.1 (t_vs_hasBit hx12) cw_X6_41 rfl rfl (Nat.le_of_ble_eq_true rfl) dX6_growth_22 (by decide)) (fun H locs hW => ?_)
      refine lv_if_ne (tgt := 30) hx hb dX6_growth_25 (by decide) (fun hc13 => ?_) (fun hc13 => ?_)
      · replace h := if_n hc13 h
        exact tj_vs_Rounds_growth_30 a1 a2 a3 hC hr hlocks (lv_sub hl [1, 2, 3, 4] rfl) hW h
      · replace h := if_p hc13 h
        refine lv_iconst (v := (-1)) hx hb dX6_growth_28 (by decide) ?_
        cases h
        exact kr_iret hC hr hlocks hW dX6_growth_29
set_option maxHeartbeats 4000000 in
set_option maxRecDepth 100000 in
theorem t_vs_Stops_forgetPut {l : Launch} {g : Gx} {A : Nat → Prop} {μ : Mm} {a1 : Int32} {u : Mm} (h : vs_Stops_forgetPut μ a1 = some u) : Ctv l g A wx yX8_forgetPut cX8_forgetPut 2 none 0 [.ref (ad g 4), .int a1] μ u := by
  refine ent (lv := [(0, .ref (ad g 4)), (1, .int a1)]) (by decide) (Nat.le_of_ble_eq_true rfl) rfl ?_
  intro p e s m args below meth c hC hr hlocks hnm hW ls hl
  replace hC : Cx g RX8 cX8_forgetPut 2 p s m args c := hC
  obtain ⟨hx, hb, hml, hown, hts, hK, hN⟩ := id hC
  unfold vs_Stops_forgetPut at h
  refine lv_aload_n hx hb dX8_forgetPut_0 rfl (lv_at hl 0 rfl) ?_
  refine gf_X8_27_x4 hC hW dX8_forgetPut_1 ?_
  refine lv_iload_n hx hb dX8_forgetPut_4 rfl (lv_at hl 1 rfl) ?_
  refine lv_iconst (v := (-1)) hx hb dX8_forgetPut_5 (by decide) ?_
  obtain ⟨μ1, eμ1, hin, h⟩ := mwr_ex h
  refine kr_iast hC hW (wx_37 g μ) (wxs_37 eμ1) hin dX8_forgetPut_6 (fun H locs hW => ?_)
  refine lv_aload_n hx hb dX8_forgetPut_7 rfl (lv_at hl 0 rfl) ?_
  refine gf_X8_30_x4 hC hW dX8_forgetPut_8 ?_
  refine lv_iload_n hx hb dX8_forgetPut_11 rfl (lv_at hl 1 rfl) ?_
  refine lv_iconst (v := (-1)) hx hb dX8_forgetPut_12 (by decide) ?_
  obtain ⟨μ2, eμ2, hin, h⟩ := mwr_ex h
  refine kr_iast hC hW (wx_38 g μ1) (wxs_38 eμ2) hin dX8_forgetPut_13 (fun H locs hW => ?_)
  cases h
  exact kr_vret hC hr hlocks hW dX8_forgetPut_14
set_option maxHeartbeats 4000000 in
set_option maxRecDepth 100000 in
theorem t_vs_Stops_keepPut {l : Launch} {g : Gx} {A : Nat → Prop} {μ : Mm} {a1 : Int32} {a2 : Int32} {a3 : Int32} {u : Mm} (h : vs_Stops_keepPut μ a1 a2 a3 = some u) : Ctv l g A wx yX8_keepPut cX8_keepPut 4 none 0 [.ref (ad g 4), .int a1, .int a2, .int a3] μ u := by
  refine ent (lv := [(0, .ref (ad g 4)), (1, .int a1), (2, .int a2), (3, .int a3)]) (by decide) (Nat.le_of_ble_eq_true rfl) rfl ?_
  intro p e s m args below meth c hC hr hlocks hnm hW ls hl
  replace hC : Cx g RX8 cX8_keepPut 4 p s m args c := hC
  obtain ⟨hx, hb, hml, hown, hts, hK, hN⟩ := id hC
  unfold vs_Stops_keepPut at h
  refine lv_aload_n hx hb dX8_keepPut_0 rfl (lv_at hl 0 rfl) ?_
  refine gf_X8_27_x4 hC hW dX8_keepPut_1 ?_
  refine lv_iload_n hx hb dX8_keepPut_4 rfl (lv_at hl 1 rfl) ?_
  refine lv_iload_n hx hb dX8_keepPut_5 rfl (lv_at hl 3 rfl) ?_
  obtain ⟨μ1, eμ1, hin, h⟩ := mwr_ex h
  refine kr_iast hC hW (wx_37 g μ) (wxs_37 eμ1) hin dX8_keepPut_6 (fun H locs hW => ?_)
  refine lv_aload_n hx hb dX8_keepPut_7 rfl (lv_at hl 0 rfl) ?_
  refine gf_X8_30_x4 hC hW dX8_keepPut_8 ?_
  refine lv_iload_n hx hb dX8_keepPut_11 rfl (lv_at hl 1 rfl) ?_
  refine lv_iload_n hx hb dX8_keepPut_12 rfl (lv_at hl 2 rfl) ?_
  obtain ⟨μ2, eμ2, hin, h⟩ := mwr_ex h
  refine kr_iast hC hW (wx_38 g μ1) (wxs_38 eμ2) hin dX8_keepPut_13 (fun H locs hW => ?_)
  refine lv_aload_n hx hb dX8_keepPut_14 rfl (lv_at hl 0 rfl) ?_
  refine gf_X8_42_x4 hC hW dX8_keepPut_15 ?_
  refine lv_iload_n hx hb dX8_keepPut_18 rfl (lv_at hl 2 rfl) ?_
  refine lv_sipush (v := 200) hx hb dX8_keepPut_19 (by decide) ?_
  refine lv_imul hx hb dX8_keepPut_22 ?_
  refine lv_iload_n hx hb dX8_keepPut_23 rfl (lv_at hl 3 rfl) ?_
  refine lv_iadd hx hb dX8_keepPut_24 ?_
  refine lv_dup2_11 hx hb dX8_keepPut_25 rfl rfl ?_
  obtain ⟨x3, ex3, hin, h⟩ := mrd_ex h
  refine kr_iald hC hW (wx_42 g μ2) hin ex3 dX8_keepPut_26 ?_
  refine lv_iconst (v := 1) hx hb dX8_keepPut_27 (by decide) ?_
  refine lv_iload_n hx hb dX8_keepPut_28 rfl (lv_at hl 1 rfl) ?_
  refine lv_ishl hx hb dX8_keepPut_29 ?_
  refine lv_ior hx hb dX8_keepPut_30 ?_
  obtain ⟨μ4, eμ4, hin, h⟩ := mwr_ex h
  refine kr_iast hC hW (wx_42 g μ2) (wxs_42 eμ4) hin dX8_keepPut_31 (fun H locs hW => ?_)
  cases h
  exact kr_vret hC hr hlocks hW dX8_keepPut_32
set_option maxHeartbeats 4000000 in
set_option maxRecDepth 100000 in
theorem tj_vs_putElsewhere_66 {μ : Mm} (a1 : Int32) (a3 : Int32) (a4 : Int32) (a5 : Int32) (a6 : Int32) (a7 : Int32) (a8 : Int32) (a9 : Int32) (y0 : Int32) (hC : Cx g RX11 cX11_putElsewhere 11 p s m args c) {e0 : (Int32 × Int32 × Int32 × Mm)} {r : (Int32 × Int32 × Int32 × Int32 × Mm) ⊕ (Int32 × Int32 × Int32 × Mm)} (k1 : ∀ q, r = .inl q → ∀ (ls : Array Slot) (H : Heap) (locs : List Loc), lv_has ls 11 [(0, .ref (ad g 0)), (1, .int a1), (3, .int a3), (4, .int a4), (5, .int q.1), (6, .int q.2.1), (7, .int q.2.2.1), (8, .int a8), (9, .int q.2.2.2.1)] → wP g wx A s.heap q.2.2.2.2 H locs → W p l e (rmD 5) s m args below meth c H locs 0 0 Q (F0 m 21 ls [])) (k2 : ∀ e', r = .inr e' → e' = e0) (kx0 : ∀ (ls : Array Slot) (H : Heap) (locs : List Loc), lv_has ls 11 [(0, .ref (ad g 0)), (1, .int a1), (3, .int a3), (4, .int a4), (5, .int e0.1), (6, .int e0.2.1), (7, .int e0.2.2.1), (8, .int a8)] → wP g wx A s.heap e0.2.2.2 H locs → W p l e (rmD 5) s m args below meth c H locs 0 0 Q (F0 m 105 ls []))  (hl : lv_has ls 11 [(0, .ref (ad g 0)), (1, .int a1), (3, .int a3), (4, .int a4), (5, .int a5), (6, .int a6), (7, .int a7), (8, .int a8), (9, .int a9)]) (hW : wP g wx A s.heap μ H locs) (h : vs_putElsewhere_j66 μ a1 a3 a4 a5 a6 a7 a8 a9 y0 = some r) : W p l e (rmD 5) s m args below meth c H locs 0 0 Q (F0 m 66 ls [.int y0]) := by
  obtain ⟨hx, hb, hml, hown, hts, hK, hN⟩ := id hC
  unfold vs_putElsewhere_j66 at h
  refine lv_istore (lv' := [(10, .int y0), (0, .ref (ad g 0)), (1, .int a1), (3, .int a3), (4, .int a4), (5, .int a5), (6, .int a6), (7, .int a7), (8, .int a8), (9, .int a9)]) hx hb dX11_putElsewhere_66 hl (by decide) rfl (fun ls hl => ?_)
  refine lv_iload hx hb dX11_putElsewhere_68 (lv_at hl 0 rfl) ?_
  refine lv_iconst (v := (-1)) hx hb dX11_putElsewhere_70 (by decide) ?_
  refine lv_icmp_eq (tgt := 99) hx hb dX11_putElsewhere_71 (by decide) (fun hc8 => ?_) (fun hc8 => ?_)
  · replace h := if_p hc8 h
    refine lv_iinc (v := (a9 + 1)) (lv' := [(9, .int (a9 + 1)), (10, .int y0), (0, .ref (ad g 0)), (1, .int a1), (3, .int a3), (4, .int a4), (5, .int a5), (6, .int a6), (7, .int a7), (8, .int a8)]) hx hb dX11_putElsewhere_99 hl (k := 9) rfl (by rw [oi_1]) (by decide) rfl (fun ls hl => ?_)
    refine lv_goto (tgt := 21) hx hb dX11_putElsewhere_102 (by decide) ?_
    exact k1 (a5, a6, a7, (a9 + 1), μ) (Option.some.inj h).symm _ _ _ (lv_sub hl [2, 3, 4, 5, 6, 7, 8, 9, 0] rfl) hW
  · replace h := if_n hc8 h
    refine lv_iload hx hb dX11_putElsewhere_74 (lv_at hl 5 rfl) ?_
    refine lv_iconst (v := (-1)) hx hb dX11_putElsewhere_76 (by decide) ?_
    refine lv_icmp_eq (tgt := 87) hx hb dX11_putElsewhere_77 (by decide) (fun hc9 => ?_) (fun hc9 => ?_)
    · replace h := if_p hc9 h
      refine lv_iload hx hb dX11_putElsewhere_87 (lv_at hl 0 rfl) ?_
      refine lv_istore (lv' := [(5, .int y0), (10, .int y0), (0, .ref (ad g 0)), (1, .int a1), (3, .int a3), (4, .int a4), (6, .int a6), (7, .int a7), (8, .int a8), (9, .int a9)]) hx hb dX11_putElsewhere_89 hl (by decide) rfl (fun ls hl => ?_)
      refine lv_iload hx hb dX11_putElsewhere_91 (lv_at hl 8 rfl) ?_
      refine lv_istore (lv' := [(6, .int a8), (5, .int y0), (10, .int y0), (0, .ref (ad g 0)), (1, .int a1), (3, .int a3), (4, .int a4), (7, .int a7), (8, .int a8), (9, .int a9)]) hx hb dX11_putElsewhere_93 hl (by decide) rfl (fun ls hl => ?_)
      refine lv_iload hx hb dX11_putElsewhere_95 (lv_at hl 9 rfl) ?_
      refine lv_istore (lv' := [(7, .int a9), (6, .int a8), (5, .int y0), (10, .int y0), (0, .ref (ad g 0)), (1, .int a1), (3, .int a3), (4, .int a4), (8, .int a8), (9, .int a9)]) hx hb dX11_putElsewhere_97 hl (by decide) rfl (fun ls hl => ?_)
      refine lv_iinc (v := (a9 + 1)) (lv' := [(9, .int (a9 + 1)), (7, .int a9), (6, .int a8), (5, .int y0), (10, .int y0), (0, .ref (ad g 0)), (1, .int a1), (3, .int a3), (4, .int a4), (8, .int a8)]) hx hb dX11_putElsewhere_99 hl (k := 9) rfl (by rw [oi_1]) (by decide) rfl (fun ls hl => ?_)
      refine lv_goto (tgt := 21) hx hb dX11_putElsewhere_102 (by decide) ?_
      exact k1 (y0, a8, a9, (a9 + 1), μ) (Option.some.inj h).symm _ _ _ (lv_sub hl [5, 6, 7, 8, 3, 2, 1, 9, 0] rfl) hW
    · replace h := if_n hc9 h
      refine lv_iload hx hb dX11_putElsewhere_80 (lv_at hl 0 rfl) ?_
      refine lv_iload hx hb dX11_putElsewhere_82 (lv_at hl 5 rfl) ?_
      refine lv_icmp_ge (tgt := 99) hx hb dX11_putElsewhere_84 (by decide) (fun hc10 => ?_) (fun hc10 => ?_)
      · replace h := if_p hc10 h
        refine lv_iinc (v := (a9 + 1)) (lv' := [(9, .int (a9 + 1)), (10, .int y0), (0, .ref (ad g 0)), (1, .int a1), (3, .int a3), (4, .int a4), (5, .int a5), (6, .int a6), (7, .int a7), (8, .int a8)]) hx hb dX11_putElsewhere_99 hl (k := 9) rfl (by rw [oi_1]) (by decide) rfl (fun ls hl => ?_)
        refine lv_goto (tgt := 21) hx hb dX11_putElsewhere_102 (by decide) ?_
        exact k1 (a5, a6, a7, (a9 + 1), μ) (Option.some.inj h).symm _ _ _ (lv_sub hl [2, 3, 4, 5, 6, 7, 8, 9, 0] rfl) hW
      · replace h := if_n hc10 h
        refine lv_iload hx hb dX11_putElsewhere_87 (lv_at hl 0 rfl) ?_
        refine lv_istore (lv' := [(5, .int y0), (10, .int y0), (0, .ref (ad g 0)), (1, .int a1), (3, .int a3), (4, .int a4), (6, .int a6), (7, .int a7), (8, .int a8), (9, .int a9)]) hx hb dX11_putElsewhere_89 hl (by decide) rfl (fun ls hl => ?_)
        refine lv_iload hx hb dX11_putElsewhere_91 (lv_at hl 8 rfl) ?_
        refine lv_istore (lv' := [(6, .int a8), (5, .int y0), (10, .int y0), (0, .ref (ad g 0)), (1, .int a1), (3, .int a3), (4, .int a4), (7, .int a7), (8, .int a8), (9, .int a9)]) hx hb dX11_putElsewhere_93 hl (by decide) rfl (fun ls hl => ?_)
        refine lv_iload hx hb dX11_putElsewhere_95 (lv_at hl 9 rfl) ?_
        refine lv_istore (lv' := [(7, .int a9), (6, .int a8), (5, .int y0), (10, .int y0), (0, .ref (ad g 0)), (1, .int a1), (3, .int a3), (4, .int a4), (8, .int a8), (9, .int a9)]) hx hb dX11_putElsewhere_97 hl (by decide) rfl (fun ls hl => ?_)
        refine lv_iinc (v := (a9 + 1)) (lv' := [(9, .int (a9 + 1)), (7, .int a9), (6, .int a8), (5, .int y0), (10, .int y0), (0, .ref (ad g 0)), (1, .int a1), (3, .int a3), (4, .int a4), (8, .int a8)]) hx hb dX11_putElsewhere_99 hl (k := 9) rfl (by rw [oi_1]) (by decide) rfl (fun ls hl => ?_)
        refine lv_goto (tgt := 21) hx hb dX11_putElsewhere_102 (by decide) ?_
        exact k1 (y0, a8, a9, (a9 + 1), μ) (Option.some.inj h).symm _ _ _ (lv_sub hl [5, 6, 7, 8, 3, 2, 1, 9, 0] rfl) hW
set_option maxHeartbeats 4000000 in
set_option maxRecDepth 100000 in
theorem tl_vs_putElsewhere_21 (a1 : Int32) (a3 : Int32) (a4 : Int32) (a8 : Int32) (hC : Cx g RX11 cX11_putElsewhere 11 p s m args c) {e0 : (Int32 × Int32 × Int32 × Mm)} (kx0 : ∀ (ls : Array Slot) (H : Heap) (locs : List Loc), lv_has ls 11 [(0, .ref (ad g 0)), (1, .int a1), (3, .int a3), (4, .int a4), (5, .int e0.1), (6, .int e0.2.1), (7, .int e0.2.2.1), (8, .int a8)] → wP g wx A s.heap e0.2.2.2 H locs → W p l e (rmD 5) s m args below meth c H locs 0 0 Q (F0 m 105 ls [])) : ∀ (n : Nat) (q : Int32 × Int32 × Int32 × Int32 × Mm), miter (fun q => vs_putElsewhere_b21 q.2.2.2.2 a1 a3 a4 a8 q.1 q.2.1 q.2.2.1 q.2.2.2.1) n q = some e0 → ∀ (ls : Array Slot) (H : Heap) (locs : List Loc), lv_has ls 11 [(0, .ref (ad g 0)), (1, .int a1), (3, .int a3), (4, .int a4), (5, .int q.1), (6, .int q.2.1), (7, .int q.2.2.1), (8, .int a8), (9, .int q.2.2.2.1)] → wP g wx A s.heap q.2.2.2.2 H locs → W p l e (rmD 5) s m args below meth c H locs 0 0 Q (F0 m 21 ls []) := by
  obtain ⟨hx, hb, hml, hown, hts, hK, hN⟩ := id hC
  refine miter_ind (fun q r hf k1 k2 => ?_)
  obtain ⟨xs5, xs6, xs7, xs9, μ⟩ := q
  intro ls H locs hl hW
  have h : vs_putElsewhere_b21 μ a1 a3 a4 a8 xs5 xs6 xs7 xs9 = some r := hf
  unfold vs_putElsewhere_b21 at h
  refine lv_iload hx hb dX11_putElsewhere_21 (lv_at hl 8 rfl) ?_
  refine lv_iconst (v := 3) hx hb dX11_putElsewhere_23 (by decide) ?_
  refine lv_icmp_ge (tgt := 105) hx hb dX11_putElsewhere_24 (by decide) (fun hc2 => ?_) (fun hc2 => ?_)
  · replace h := if_p hc2 h
    obtain rfl := k2 _ (Option.some.inj h).symm
    exact kx0 _ _ _ (lv_sub hl [0, 1, 2, 3, 4, 5, 6, 7] rfl) hW
  · replace h := if_n hc2 h
    refine lv_aload_n hx hb dX11_putElsewhere_27 rfl (lv_at hl 0 rfl) ?_
    refine gf_X11_33_x0 hC hW dX11_putElsewhere_28 ?_
    refine lv_iload hx hb dX11_putElsewhere_31 (lv_at hl 8 rfl) ?_
    refine lv_iload hx hb dX11_putElsewhere_33 (lv_at hl 7 rfl) ?_
    obtain ⟨x3, hx3, h⟩ := mbv_some h
    refine kr_ci hC hW (kr_runV hC hW hl.1 (t_vs_Stops_isLost hx3) cw_X11_368 (wx_4 g μ) rfl rfl rfl (Nat.le_of_ble_eq_true rfl) dX11_putElsewhere_35 (by decide)) (fun H locs hW => ?_)
    refine lv_if_eq (tgt := 45) hx hb dX11_putElsewhere_38 (by decide) (fun hc4 => ?_) (fun hc4 => ?_)
    · replace h := if_p hc4 h
      refine lv_aload_n hx hb dX11_putElsewhere_45 rfl (lv_at hl 0 rfl) ?_
      refine gf_X11_65_x0 hC hW dX11_putElsewhere_46 ?_
      refine lv_aload_n hx hb dX11_putElsewhere_49 rfl (lv_at hl 0 rfl) ?_
      refine gf_X11_33_x0 hC hW dX11_putElsewhere_50 ?_
      refine lv_iload hx hb dX11_putElsewhere_53 (lv_at hl 8 rfl) ?_
      refine lv_iload hx hb dX11_putElsewhere_55 (lv_at hl 7 rfl) ?_
      obtain ⟨x5, hx5, h⟩ := mbv_some h
      refine kr_ci hC hW (kr_runV hC hW hl.1 (t_vs_Stops_stopsOn hx5) cw_X11_350 (wx_4 g μ) rfl rfl rfl (Nat.le_of_ble_eq_true rfl) dX11_putElsewhere_57 (by decide)) (fun H locs hW => ?_)
      refine lv_iload_n hx hb dX11_putElsewhere_60 rfl (lv_at hl 1 rfl) ?_
      refine lv_iload hx hb dX11_putElsewhere_61 (lv_at hl 3 rfl) ?_
      obtain ⟨x6, μ7, hx6, h⟩ := mbm_some h
      refine kr_ci hC hW (kr_runV hC hW hl.1 (t_vs_Rounds_growth hx6) cw_X11_442 (wx_8 g μ) rfl rfl rfl (Nat.le_of_ble_eq_true rfl) dX11_putElsewhere_63 (by decide)) (fun H locs hW => ?_)
      exact tj_vs_putElsewhere_66 a1 a3 a4 xs5 xs6 xs7 a8 xs9 x6 hC k1 k2 kx0 (lv_sub hl [0, 1, 2, 3, 4, 5, 6, 7, 8] rfl) hW h
    · replace h := if_n hc4 h
      refine lv_iconst (v := (-1)) hx hb dX11_putElsewhere_41 (by decide) ?_
      refine lv_goto (tgt := 66) hx hb dX11_putElsewhere_42 (by decide) ?_
      exact tj_vs_putElsewhere_66 a1 a3 a4 xs5 xs6 xs7 a8 xs9 (-1) hC k1 k2 kx0 (lv_sub hl [0, 1, 2, 3, 4, 5, 6, 7, 8] rfl) hW h
set_option maxHeartbeats 4000000 in
set_option maxRecDepth 100000 in
theorem tl_vs_putElsewhere_12 (a1 : Int32) (a3 : Int32) (a4 : Int32) (hC : Cx g RX11 cX11_putElsewhere 11 p s m args c) {e0 : (Int32 × Int32 × Int32 × Mm)} (kx0 : ∀ (ls : Array Slot) (H : Heap) (locs : List Loc), lv_has ls 11 [(0, .ref (ad g 0)), (1, .int a1), (5, .int e0.1), (6, .int e0.2.1), (7, .int e0.2.2.1)] → wP g wx A s.heap e0.2.2.2 H locs → W p l e (rmD 5) s m args below meth c H locs 0 0 Q (F0 m 111 ls [])) : ∀ (n : Nat) (q : Int32 × Int32 × Int32 × Int32 × Mm), miter (fun q => vs_putElsewhere_b12 q.2.2.2.2 a1 a3 a4 q.1 q.2.1 q.2.2.1 q.2.2.2.1) n q = some e0 → ∀ (ls : Array Slot) (H : Heap) (locs : List Loc), lv_has ls 11 [(0, .ref (ad g 0)), (1, .int a1), (3, .int a3), (4, .int a4), (5, .int q.1), (6, .int q.2.1), (7, .int q.2.2.1), (8, .int q.2.2.2.1)] → wP g wx A s.heap q.2.2.2.2 H locs → W p l e (rmD 5) s m args below meth c H locs 0 0 Q (F0 m 12 ls []) := by
  obtain ⟨hx, hb, hml, hown, hts, hK, hN⟩ := id hC
  refine miter_ind (fun q r hf k1 k2 => ?_)
  obtain ⟨xs5, xs6, xs7, xs8, μ⟩ := q
  intro ls H locs hl hW
  have h : vs_putElsewhere_b12 μ a1 a3 a4 xs5 xs6 xs7 xs8 = some r := hf
  unfold vs_putElsewhere_b12 at h
  refine lv_iload hx hb dX11_putElsewhere_12 (lv_at hl 7 rfl) ?_
  refine lv_iload_n hx hb dX11_putElsewhere_14 rfl (lv_at hl 2 rfl) ?_
  refine lv_icmp_gt (tgt := 111) hx hb dX11_putElsewhere_15 (by decide) (fun hc1 => ?_) (fun hc1 => ?_)
  · replace h := if_p hc1 h
    obtain rfl := k2 _ (Option.some.inj h).symm
    exact kx0 _ _ _ (lv_sub hl [0, 1, 4, 5, 6] rfl) hW
  · replace h := if_n hc1 h
    refine lv_iconst (v := 0) hx hb dX11_putElsewhere_18 (by decide) ?_
    refine lv_istore (lv' := [(9, .int 0), (0, .ref (ad g 0)), (1, .int a1), (3, .int a3), (4, .int a4), (5, .int xs5), (6, .int xs6), (7, .int xs7), (8, .int xs8)]) hx hb dX11_putElsewhere_19 hl (by decide) rfl (fun ls hl => ?_)
    obtain ⟨e0, he15, h⟩ := mbv_some h
    obtain ⟨x11, x12, x13, μ14, ee, h9⟩ := un4_ex h
    clear h
    subst ee
    have h := h9
    clear h9
    refine tl_vs_putElsewhere_21 a1 a3 a4 xs8 hC (fun ls H locs hl hW => ?_) FU (xs5, xs6, xs7, 0, μ) he15 _ _ _ (lv_sub hl [1, 2, 3, 4, 5, 6, 7, 8, 0] rfl) hW
    refine lv_iinc (v := (xs8 + 1)) (lv' := [(8, .int (xs8 + 1)), (0, .ref (ad g 0)), (1, .int a1), (3, .int a3), (4, .int a4), (5, .int x11), (6, .int x12), (7, .int x13)]) hx hb dX11_putElsewhere_105 hl (k := 7) rfl (by rw [oi_1]) (by decide) rfl (fun ls hl => ?_)
    refine lv_goto (tgt := 12) hx hb dX11_putElsewhere_108 (by decide) ?_
    exact k1 (x11, x12, x13, (xs8 + 1), μ14) (Option.some.inj h).symm _ _ _ (lv_sub hl [1, 2, 3, 4, 5, 6, 7, 0] rfl) hW
set_option maxHeartbeats 4000000 in
set_option maxRecDepth 100000 in
theorem t_vs_putElsewhere {l : Launch} {g : Gx} {A : Nat → Prop} {μ : Mm} {a1 : Int32} {a2 : Int32} {a3 : Int32} {a4 : Int32} {v : Bool} {u : Mm} (h : vs_putElsewhere μ a1 a2 a3 a4 = some (v, u)) : Cti l g A wx yX11_putElsewhere cX11_putElsewhere 11 (some .boolean) 5 [.ref (ad g 0), .int a1, .int a2, .int a3, .int a4] μ (bI v) u := by
  refine ent (lv := [(0, .ref (ad g 0)), (1, .int a1), (2, .int a2), (3, .int a3), (4, .int a4)]) (by decide) (Nat.le_of_ble_eq_true rfl) rfl ?_
  intro p e s m args below meth c hC hr hlocks hnm hW ls hl
  replace hC : Cx g RX11 cX11_putElsewhere 11 p s m args c := hC
  obtain ⟨hx, hb, hml, hown, hts, hK, hN⟩ := id hC
  unfold vs_putElsewhere at h
  refine lv_iconst (v := (-1)) hx hb dX11_putElsewhere_0 (by decide) ?_
  refine lv_istore (lv' := [(5, .int (-1)), (0, .ref (ad g 0)), (1, .int a1), (2, .int a2), (3, .int a3), (4, .int a4)]) hx hb dX11_putElsewhere_1 hl (by decide) rfl (fun ls hl => ?_)
  refine lv_iconst (v := (-1)) hx hb dX11_putElsewhere_3 (by decide) ?_
  refine lv_istore (lv' := [(6, .int (-1)), (5, .int (-1)), (0, .ref (ad g 0)), (1, .int a1), (2, .int a2), (3, .int a3), (4, .int a4)]) hx hb dX11_putElsewhere_4 hl (by decide) rfl (fun ls hl => ?_)
  refine lv_iconst (v := (-1)) hx hb dX11_putElsewhere_6 (by decide) ?_
  refine lv_istore (lv' := [(7, .int (-1)), (6, .int (-1)), (5, .int (-1)), (0, .ref (ad g 0)), (1, .int a1), (2, .int a2), (3, .int a3), (4, .int a4)]) hx hb dX11_putElsewhere_7 hl (by decide) rfl (fun ls hl => ?_)
  refine lv_iload_n hx hb dX11_putElsewhere_9 rfl (lv_at hl 5 rfl) ?_
  refine lv_istore (lv' := [(8, .int a2), (7, .int (-1)), (6, .int (-1)), (5, .int (-1)), (0, .ref (ad g 0)), (1, .int a1), (2, .int a2), (3, .int a3), (4, .int a4)]) hx hb dX11_putElsewhere_10 hl (by decide) rfl (fun ls hl => ?_)
  obtain ⟨e0, he25, h⟩ := mbv_some h
  obtain ⟨x16, x17, x18, μ19, ee, h9⟩ := un4_ex h
  clear h
  subst ee
  have h := h9
  clear h9
  refine tl_vs_putElsewhere_12 a1 a3 a4 hC (fun ls H locs hl hW => ?_) FU ((-1), (-1), (-1), a2, μ) he25 _ _ _ (lv_sub hl [4, 5, 7, 8, 3, 2, 1, 0] rfl) hW
  refine lv_iload hx hb dX11_putElsewhere_111 (lv_at hl 2 rfl) ?_
  refine lv_iconst (v := (-1)) hx hb dX11_putElsewhere_113 (by decide) ?_
  refine lv_icmp_ne (tgt := 127) hx hb dX11_putElsewhere_114 (by decide) (fun hc20 => ?_) (fun hc20 => ?_)
  · replace h := if_n hc20 h
    refine lv_aload_n hx hb dX11_putElsewhere_127 rfl (lv_at hl 0 rfl) ?_
    refine gf_X11_33_x0 hC hW dX11_putElsewhere_128 ?_
    refine lv_iload_n hx hb dX11_putElsewhere_131 rfl (lv_at hl 1 rfl) ?_
    refine lv_iload hx hb dX11_putElsewhere_132 (lv_at hl 4 rfl) ?_
    refine lv_iload hx hb dX11_putElsewhere_134 (lv_at hl 3 rfl) ?_
    obtain ⟨μ22, hxμ22, h⟩ := mbv_some h
    refine kr_cv hC hW (kr_runV hC hW hl.1 (t_vs_Stops_keepPut hxμ22) cw_X11_448 (wx_4 g μ19) rfl rfl rfl (Nat.le_of_ble_eq_true rfl) dX11_putElsewhere_136 (by decide)) (fun H locs hW => ?_)
    refine lv_iconst (v := 1) hx hb dX11_putElsewhere_139 (by decide) ?_
    cases h
    exact kr_zret hC hr hlocks _ rfl hW dX11_putElsewhere_140
  · replace h := if_p hc20 h
    refine lv_aload_n hx hb dX11_putElsewhere_117 rfl (lv_at hl 0 rfl) ?_
    refine gf_X11_33_x0 hC hW dX11_putElsewhere_118 ?_
    refine lv_iload_n hx hb dX11_putElsewhere_121 rfl (lv_at hl 1 rfl) ?_
    obtain ⟨μ24, hxμ24, h⟩ := mbv_some h
    refine kr_cv hC hW (kr_runV hC hW hl.1 (t_vs_Stops_forgetPut hxμ24) cw_X11_445 (wx_4 g μ19) rfl rfl rfl (Nat.le_of_ble_eq_true rfl) dX11_putElsewhere_122 (by decide)) (fun H locs hW => ?_)
    refine lv_iconst (v := 0) hx hb dX11_putElsewhere_125 (by decide) ?_
    cases h
    exact kr_zret hC hr hlocks _ rfl hW dX11_putElsewhere_126
set_option maxHeartbeats 4000000 in
set_option maxRecDepth 100000 in
theorem tl_vs_lostDay_106 (a2 : Int32) (a4 : Int32) (a6 : Int32) (a7 : Int32) (hC : Cx g RX11 cX11_lostDay 10 p s m args c) {e0 : (Int32 × Mm)} (kx0 : ∀ (ls : Array Slot) (H : Heap) (locs : List Loc), lv_has ls 10 [(8, .int e0.1)] → wP g wx A s.heap e0.2 H locs → W p l e (rmD 6) s m args below meth c H locs 0 0 Q (F0 m 153 ls [])) : ∀ (n : Nat) (q : Int32 × Int32 × Mm), miter (fun q => vs_lostDay_b106 q.2.2 a2 a4 a6 a7 q.1 q.2.1) n q = some e0 → ∀ (ls : Array Slot) (H : Heap) (locs : List Loc), lv_has ls 10 [(0, .ref (ad g 0)), (2, .int a2), (4, .int a4), (6, .int a6), (7, .int a7), (8, .int q.1), (9, .int q.2.1)] → wP g wx A s.heap q.2.2 H locs → W p l e (rmD 6) s m args below meth c H locs 0 0 Q (F0 m 106 ls []) := by
  obtain ⟨hx, hb, hml, hown, hts, hK, hN⟩ := id hC
  refine miter_ind (fun q r hf k1 k2 => ?_)
  obtain ⟨xs8, xs9, μ⟩ := q
  intro ls H locs hl hW
  have h : vs_lostDay_b106 μ a2 a4 a6 a7 xs8 xs9 = some r := hf
  unfold vs_lostDay_b106 at h
  refine lv_iload hx hb dX11_lostDay_106 (lv_at hl 6 rfl) ?_
  refine lv_aload_n hx hb dX11_lostDay_108 rfl (lv_at hl 0 rfl) ?_
  refine gf_X11_33_x0 hC hW dX11_lostDay_109 ?_
  refine gf_X11_374_x4 hC hW dX11_lostDay_112 ?_
  refine lv_icmp_ge (tgt := 153) hx hb dX11_lostDay_115 (by decide) (fun hc9 => ?_) (fun hc9 => ?_)
  · replace h := if_p hc9 h
    obtain rfl := k2 _ (Option.some.inj h).symm
    exact kx0 _ _ _ (lv_sub hl [5] rfl) hW
  · replace h := if_n hc9 h
    refine lv_iload hx hb dX11_lostDay_118 (lv_at hl 3 rfl) ?_
    refine lv_iload hx hb dX11_lostDay_120 (lv_at hl 6 rfl) ?_
    obtain ⟨x10, hx10, h⟩ := mbv_some h
    refine kr_ci hC hW (kr_runS hC hW hl.1 (t_vs_hasBit hx10) cw_X11_320 rfl rfl (Nat.le_of_ble_eq_true rfl) dX11_lostDay_122 (by decide)) (fun H locs hW => ?_)
    refine lv_if_eq (tgt := 147) hx hb dX11_lostDay_125 (by decide) (fun hc11 => ?_) (fun hc11 => ?_)
    · replace h := if_p hc11 h
      refine lv_iinc (v := (xs9 + 1)) (lv' := [(9, .int (xs9 + 1)), (0, .ref (ad g 0)), (2, .int a2), (4, .int a4), (6, .int a6), (7, .int a7), (8, .int xs8)]) hx hb dX11_lostDay_147 hl (k := 6) rfl (by rw [oi_1]) (by decide) rfl (fun ls hl => ?_)
      refine lv_goto (tgt := 106) hx hb dX11_lostDay_150 (by decide) ?_
      exact k1 (xs8, (xs9 + 1), μ) (Option.some.inj h).symm _ _ _ (lv_sub hl [1, 2, 3, 4, 5, 6, 0] rfl) hW
    · replace h := if_n hc11 h
      refine lv_aload_n hx hb dX11_lostDay_128 rfl (lv_at hl 0 rfl) ?_
      refine lv_iload hx hb dX11_lostDay_129 (lv_at hl 6 rfl) ?_
      refine lv_iload_n hx hb dX11_lostDay_131 rfl (lv_at hl 1 rfl) ?_
      refine lv_iconst (v := 1) hx hb dX11_lostDay_132 (by decide) ?_
      refine lv_iadd hx hb dX11_lostDay_133 ?_
      refine lv_iload hx hb dX11_lostDay_134 (lv_at hl 4 rfl) ?_
      refine lv_iload hx hb dX11_lostDay_136 (lv_at hl 2 rfl) ?_
      obtain ⟨x12, μ13, hx12, h⟩ := mbm_some h
      refine kr_ci hC hW (kr_runV hC hW hl.1 (t_vs_putElsewhere hx12) cw_X11_375 (wx_0 g μ) rfl rfl rfl (Nat.le_of_ble_eq_true rfl) dX11_lostDay_138 (by decide)) (fun H locs hW => ?_)
      refine lv_if_eq (tgt := 147) hx hb dX11_lostDay_141 (by decide) (fun hc14 => ?_) (fun hc14 => ?_)
      · replace h := if_p hc14 h
        refine lv_iinc (v := (xs9 + 1)) (lv' := [(9, .int (xs9 + 1)), (0, .ref (ad g 0)), (2, .int a2), (4, .int a4), (6, .int a6), (7, .int a7), (8, .int xs8)]) hx hb dX11_lostDay_147 hl (k := 6) rfl (by rw [oi_1]) (by decide) rfl (fun ls hl => ?_)
        refine lv_goto (tgt := 106) hx hb dX11_lostDay_150 (by decide) ?_
        exact k1 (xs8, (xs9 + 1), μ13) (Option.some.inj h).symm _ _ _ (lv_sub hl [1, 2, 3, 4, 5, 6, 0] rfl) hW
      · replace h := if_n hc14 h
        refine lv_iinc (v := (xs8 + 1)) (lv' := [(8, .int (xs8 + 1)), (0, .ref (ad g 0)), (2, .int a2), (4, .int a4), (6, .int a6), (7, .int a7), (9, .int xs9)]) hx hb dX11_lostDay_144 hl (k := 5) rfl (by rw [oi_1]) (by decide) rfl (fun ls hl => ?_)
        refine lv_iinc (v := (xs9 + 1)) (lv' := [(9, .int (xs9 + 1)), (8, .int (xs8 + 1)), (0, .ref (ad g 0)), (2, .int a2), (4, .int a4), (6, .int a6), (7, .int a7)]) hx hb dX11_lostDay_147 hl (k := 6) rfl (by rw [oi_1]) (by decide) rfl (fun ls hl => ?_)
        refine lv_goto (tgt := 106) hx hb dX11_lostDay_150 (by decide) ?_
        exact k1 ((xs8 + 1), (xs9 + 1), μ13) (Option.some.inj h).symm _ _ _ (lv_sub hl [2, 3, 4, 5, 6, 1, 0] rfl) hW
set_option maxHeartbeats 4000000 in
set_option maxRecDepth 100000 in
theorem tj_vs_lostDay_48 {μ : Mm} (a1 : Int32) (a2 : Int32) (a3 : Int32) (a4 : Int32) (y0 : Int32) (hC : Cx g RX11 cX11_lostDay 10 p s m args c) (hr : meth.sig.returnType = some .int) (hlocks : meth.locks = false) {v : Int32} {u : Mm} (hl : lv_has ls 10 [(0, .ref (ad g 0)), (1, .int a1), (2, .int a2), (3, .int a3), (4, .int a4)]) (hW : wP g wx A s.heap μ H locs) (h : vs_lostDay_j48 μ a1 a2 a3 a4 y0 = some (v, u)) : W p l e (rmD 6) s m args below meth c H locs 0 0 (MQ below (Qi g A wx v u) args s 0 0 A) (F0 m 48 ls [.int y0]) := by
  obtain ⟨hx, hb, hml, hown, hts, hK, hN⟩ := id hC
  unfold vs_lostDay_j48 at h
  refine lv_istore (lv' := [(5, .int y0), (0, .ref (ad g 0)), (1, .int a1), (2, .int a2), (3, .int a3), (4, .int a4)]) hx hb dX11_lostDay_48 hl (by decide) rfl (fun ls hl => ?_)
  refine lv_iload hx hb dX11_lostDay_50 (lv_at hl 0 rfl) ?_
  refine lv_if_eq (tgt := 67) hx hb dX11_lostDay_52 (by decide) (fun hc3 => ?_) (fun hc3 => ?_)
  · replace h := if_p hc3 h
    refine lv_iconst (v := (-1)) hx hb dX11_lostDay_67 (by decide) ?_
    cases h
    exact kr_iret hC hr hlocks hW dX11_lostDay_68
  · replace h := if_n hc3 h
    refine lv_aload_n hx hb dX11_lostDay_55 rfl (lv_at hl 1 rfl) ?_
    refine gf_X11_33_x0 hC hW dX11_lostDay_56 ?_
    refine lv_iload_n hx hb dX11_lostDay_59 rfl (lv_at hl 2 rfl) ?_
    refine lv_iload_n hx hb dX11_lostDay_60 rfl (lv_at hl 3 rfl) ?_
    obtain ⟨x4, hx4, h⟩ := mbv_some h
    refine kr_ci hC hW (kr_runV hC hW hl.1 (t_vs_Stops_isLost hx4) cw_X11_368 (wx_4 g μ) rfl rfl rfl (Nat.le_of_ble_eq_true rfl) dX11_lostDay_61 (by decide)) (fun H locs hW => ?_)
    refine lv_if_eq (tgt := 69) hx hb dX11_lostDay_64 (by decide) (fun hc5 => ?_) (fun hc5 => ?_)
    · replace h := if_p hc5 h
      refine lv_aload_n hx hb dX11_lostDay_69 rfl (lv_at hl 1 rfl) ?_
      refine gf_X11_33_x0 hC hW dX11_lostDay_70 ?_
      refine lv_iload_n hx hb dX11_lostDay_73 rfl (lv_at hl 2 rfl) ?_
      refine lv_iload_n hx hb dX11_lostDay_74 rfl (lv_at hl 3 rfl) ?_
      obtain ⟨x6, hx6, h⟩ := mbv_some h
      refine kr_ci hC hW (kr_runV hC hW hl.1 (t_vs_Stops_stopsOn hx6) cw_X11_350 (wx_4 g μ) rfl rfl rfl (Nat.le_of_ble_eq_true rfl) dX11_lostDay_75 (by decide)) (fun H locs hW => ?_)
      refine lv_istore (lv' := [(6, .int x6), (5, .int y0), (0, .ref (ad g 0)), (1, .int a1), (2, .int a2), (3, .int a3), (4, .int a4)]) hx hb dX11_lostDay_78 hl (by decide) rfl (fun ls hl => ?_)
      refine lv_aload_n hx hb dX11_lostDay_80 rfl (lv_at hl 2 rfl) ?_
      refine gf_X11_33_x0 hC hW dX11_lostDay_81 ?_
      refine lv_iload_n hx hb dX11_lostDay_84 rfl (lv_at hl 3 rfl) ?_
      refine lv_iload_n hx hb dX11_lostDay_85 rfl (lv_at hl 4 rfl) ?_
      obtain ⟨μ8, hxμ8, h⟩ := mbv_some h
      refine kr_cv hC hW (kr_runV hC hW hl.1 (t_vs_Stops_lose hxμ8) cw_X11_371 (wx_4 g μ) rfl rfl rfl (Nat.le_of_ble_eq_true rfl) dX11_lostDay_86 (by decide)) (fun H locs hW => ?_)
      refine lv_iload_n hx hb dX11_lostDay_89 rfl (lv_at hl 4 rfl) ?_
      refine lv_iload_n hx hb dX11_lostDay_90 rfl (lv_at hl 5 rfl) ?_
      refine lv_iadd hx hb dX11_lostDay_91 ?_
      refine lv_sipush (v := 199) hx hb dX11_lostDay_92 (by decide) ?_
      refine va_mmin hx hb (hml.trans hl.1.symm) hown (hts _ tw_1008) (hts _ tw_571) (hts _ tw_15) (hts _ mth_min) (by decide) (Nat.le_of_ble_eq_true rfl) (Nat.le_refl 0) (Nat.le_refl 0) dX11_lostDay_95 ?_
      refine W.eq (g2 := F0 m 98 ls [.int (jmin (a2 + a3) 199)]) rfl ?_
      refine lv_istore (lv' := [(7, .int (jmin (a2 + a3) 199)), (6, .int x6), (5, .int y0), (0, .ref (ad g 0)), (1, .int a1), (2, .int a2), (3, .int a3), (4, .int a4)]) hx hb dX11_lostDay_98 hl (by decide) rfl (fun ls hl => ?_)
      refine lv_iconst (v := 0) hx hb dX11_lostDay_100 (by decide) ?_
      refine lv_istore (lv' := [(8, .int 0), (7, .int (jmin (a2 + a3) 199)), (6, .int x6), (5, .int y0), (0, .ref (ad g 0)), (1, .int a1), (2, .int a2), (3, .int a3), (4, .int a4)]) hx hb dX11_lostDay_101 hl (by decide) rfl (fun ls hl => ?_)
      refine lv_iconst (v := 0) hx hb dX11_lostDay_103 (by decide) ?_
      refine lv_istore (lv' := [(9, .int 0), (8, .int 0), (7, .int (jmin (a2 + a3) 199)), (6, .int x6), (5, .int y0), (0, .ref (ad g 0)), (1, .int a1), (2, .int a2), (3, .int a3), (4, .int a4)]) hx hb dX11_lostDay_104 hl (by decide) rfl (fun ls hl => ?_)
      obtain ⟨e0, he17, h⟩ := mbv_some h
      obtain ⟨x15, μ16, ee, h9⟩ := un2_ex h
      clear h
      subst ee
      have h := h9
      clear h9
      refine tl_vs_lostDay_106 a2 a4 x6 (jmin (a2 + a3) 199) hC (fun ls H locs hl hW => ?_) FU (0, 0, μ8) he17 _ _ _ (lv_sub hl [5, 7, 9, 3, 2, 1, 0] rfl) hW
      refine lv_iload hx hb dX11_lostDay_153 (lv_at hl 0 rfl) ?_
      cases h
      exact kr_iret hC hr hlocks hW dX11_lostDay_155
    · replace h := if_n hc5 h
      refine lv_iconst (v := (-1)) hx hb dX11_lostDay_67 (by decide) ?_
      cases h
      exact kr_iret hC hr hlocks hW dX11_lostDay_68
set_option maxHeartbeats 4000000 in
set_option maxRecDepth 100000 in
theorem tj_vs_lostDay_47 {μ : Mm} (a1 : Int32) (a2 : Int32) (a3 : Int32) (a4 : Int32) (hC : Cx g RX11 cX11_lostDay 10 p s m args c) (hr : meth.sig.returnType = some .int) (hlocks : meth.locks = false) {v : Int32} {u : Mm} (hl : lv_has ls 10 [(0, .ref (ad g 0)), (1, .int a1), (2, .int a2), (3, .int a3), (4, .int a4)]) (hW : wP g wx A s.heap μ H locs) (h : vs_lostDay_j47 μ a1 a2 a3 a4 = some (v, u)) : W p l e (rmD 6) s m args below meth c H locs 0 0 (MQ below (Qi g A wx v u) args s 0 0 A) (F0 m 47 ls []) := by
  obtain ⟨hx, hb, hml, hown, hts, hK, hN⟩ := id hC
  unfold vs_lostDay_j47 at h
  refine lv_iconst (v := 0) hx hb dX11_lostDay_47 (by decide) ?_
  exact tj_vs_lostDay_48 a1 a2 a3 a4 0 hC hr hlocks (lv_sub hl [0, 1, 2, 3, 4] rfl) hW h
set_option maxHeartbeats 4000000 in
set_option maxRecDepth 100000 in
theorem t_vs_lostDay {l : Launch} {g : Gx} {A : Nat → Prop} {μ : Mm} {a1 : Int32} {a2 : Int32} {a3 : Int32} {a4 : Int32} {v : Int32} {u : Mm} (h : vs_lostDay μ a1 a2 a3 a4 = some (v, u)) : Cti l g A wx yX11_lostDay cX11_lostDay 10 (some .int) 6 [.ref (ad g 0), .int a1, .int a2, .int a3, .int a4] μ v u := by
  refine ent (lv := [(0, .ref (ad g 0)), (1, .int a1), (2, .int a2), (3, .int a3), (4, .int a4)]) (by decide) (Nat.le_of_ble_eq_true rfl) rfl ?_
  intro p e s m args below meth c hC hr hlocks hnm hW ls hl
  replace hC : Cx g RX11 cX11_lostDay 10 p s m args c := hC
  obtain ⟨hx, hb, hml, hown, hts, hK, hN⟩ := id hC
  unfold vs_lostDay at h
  refine lv_iload_n hx hb dX11_lostDay_0 rfl (lv_at hl 1 rfl) ?_
  obtain ⟨x1, hx1, h⟩ := mbv_some h
  refine kr_ci hC hW (kr_runS hC hW hl.1 (t_vs_isVan hx1) cw_X11_108 rfl rfl (Nat.le_of_ble_eq_true rfl) dX11_lostDay_1 (by decide)) (fun H locs hW => ?_)
  refine lv_if_eq (tgt := 47) hx hb dX11_lostDay_4 (by decide) (fun hc2 => ?_) (fun hc2 => ?_)
  · replace h := if_p hc2 h
    exact tj_vs_lostDay_47 a1 a2 a3 a4 hC hr hlocks (lv_sub hl [0, 1, 2, 3, 4] rfl) hW h
  · replace h := if_n hc2 h
    refine lv_iload_n hx hb dX11_lostDay_7 rfl (lv_at hl 2 rfl) ?_
    refine lv_aload_n hx hb dX11_lostDay_8 rfl (lv_at hl 0 rfl) ?_
    refine gf_X11_96_x0 hC hW dX11_lostDay_9 ?_
    refine lv_sipush (v := 199) hx hb dX11_lostDay_12 (by decide) ?_
    obtain ⟨x18, hx18, h⟩ := mbv_some h
    refine kr_ci hC hW (kr_runS hC hW hl.1 (t_vs_within hx18) cw_X11_100 rfl rfl (Nat.le_of_ble_eq_true rfl) dX11_lostDay_15 (by decide)) (fun H locs hW => ?_)
    refine lv_if_eq (tgt := 47) hx hb dX11_lostDay_18 (by decide) (fun hc19 => ?_) (fun hc19 => ?_)
    · replace h := if_p hc19 h
      exact tj_vs_lostDay_47 a1 a2 a3 a4 hC hr hlocks (lv_sub hl [0, 1, 2, 3, 4] rfl) hW h
    · replace h := if_n hc19 h
      refine lv_iload_n hx hb dX11_lostDay_21 rfl (lv_at hl 3 rfl) ?_
      refine lv_iconst (v := 1) hx hb dX11_lostDay_22 (by decide) ?_
      refine lv_bipush (v := 28) hx hb dX11_lostDay_23 (by decide) ?_
      obtain ⟨x20, hx20, h⟩ := mbv_some h
      refine kr_ci hC hW (kr_runS hC hW hl.1 (t_vs_within hx20) cw_X11_100 rfl rfl (Nat.le_of_ble_eq_true rfl) dX11_lostDay_25 (by decide)) (fun H locs hW => ?_)
      refine lv_if_eq (tgt := 47) hx hb dX11_lostDay_28 (by decide) (fun hc21 => ?_) (fun hc21 => ?_)
      · replace h := if_p hc21 h
        exact tj_vs_lostDay_47 a1 a2 a3 a4 hC hr hlocks (lv_sub hl [0, 1, 2, 3, 4] rfl) hW h
      · replace h := if_n hc21 h
        refine lv_iload hx hb dX11_lostDay_31 (lv_at hl 4 rfl) ?_
        refine lv_iconst (v := 1) hx hb dX11_lostDay_33 (by decide) ?_
        refine lv_sipush (v := 1000) hx hb dX11_lostDay_34 (by decide) ?_
        obtain ⟨x22, hx22, h⟩ := mbv_some h
        refine kr_ci hC hW (kr_runS hC hW hl.1 (t_vs_within hx22) cw_X11_100 rfl rfl (Nat.le_of_ble_eq_true rfl) dX11_lostDay_37 (by decide)) (fun H locs hW => ?_)
        refine lv_if_eq (tgt := 47) hx hb dX11_lostDay_40 (by decide) (fun hc23 => ?_) (fun hc23 => ?_)
        · replace h := if_p hc23 h
          exact tj_vs_lostDay_47 a1 a2 a3 a4 hC hr hlocks (lv_sub hl [0, 1, 2, 3, 4] rfl) hW h
        · replace h := if_n hc23 h
          refine lv_iconst (v := 1) hx hb dX11_lostDay_43 (by decide) ?_
          refine lv_goto (tgt := 48) hx hb dX11_lostDay_44 (by decide) ?_
          exact tj_vs_lostDay_48 a1 a2 a3 a4 1 hC hr hlocks (lv_sub hl [0, 1, 2, 3, 4] rfl) hW h
end
