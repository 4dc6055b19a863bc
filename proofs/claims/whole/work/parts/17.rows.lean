section
variable {p : Program} {l : Launch} {e : Env} {s : State} {m : MethodId} {args : Array Value} {below : List Frame} {meth : Method} {c : Code} {H : Heap} {locs : List Loc} {Q : State → Prop} {g : Gx} {A : Nat → Prop} {ls : Array Slot} {Wd : Gx → Mm → va_W}
set_option maxHeartbeats 4000000 in
set_option maxRecDepth 100000 in
theorem tj_md_apart_44 {μ : Mm} (a1 : Int32) (a2 : Int32) (y0 : Int32) (hC : Cx g RX12 cX12_apart 5 p s m args c) (hr : meth.sig.returnType = some .int) (hlocks : meth.locks = false) {v : Int32} (hl : lv_has ls 5 [(0, .ref (ad g 0)), (1, .int a1), (2, .int a2)]) (hW : wP g wm A s.heap μ H locs) (h : md_apart_j44 μ a1 a2 y0 = some v) : W p l e (rmD 0) s m args below meth c H locs 0 0 (MQ below (Qi g A wm v μ) args s 0 0 A) (F0 m 44 ls [.int y0]) := by
  obtain ⟨hx, hb, hml, hown, hts, hK, hN⟩ := id hC
  unfold md_apart_j44 at h
  refine lv_istore_n (lv' := [(3, .int y0), (0, .ref (ad g 0)), (1, .int a1), (2, .int a2)]) hx hb dX12_apart_44 rfl hl (by decide) rfl (fun ls hl => ?_)
  refine lv_aload_n hx hb dX12_apart_45 rfl (lv_at hl 1 rfl) ?_
  refine gf_X12_40_m0 hC hW dX12_apart_46 ?_
  refine lv_iload_n hx hb dX12_apart_49 rfl (lv_at hl 2 rfl) ?_
  obtain ⟨x6, ex6, hin, h⟩ := mrd_ex h
  refine kr_iald hC hW (wm_11 g μ) hin ex6 dX12_apart_50 ?_
  refine lv_aload_n hx hb dX12_apart_51 rfl (lv_at hl 1 rfl) ?_
  refine gf_X12_40_m0 hC hW dX12_apart_52 ?_
  refine lv_iload_n hx hb dX12_apart_55 rfl (lv_at hl 3 rfl) ?_
  obtain ⟨x7, ex7, hin, h⟩ := mrd_ex h
  refine kr_iald hC hW (wm_11 g μ) hin ex7 dX12_apart_56 ?_
  refine lv_icmp_ge (tgt := 76) hx hb dX12_apart_57 (by decide) (fun hc8 => ?_) (fun hc8 => ?_)
  · replace h := if_p hc8 h
    refine lv_aload_n hx hb dX12_apart_76 rfl (lv_at hl 1 rfl) ?_
    refine gf_X12_40_m0 hC hW dX12_apart_77 ?_
    refine lv_iload_n hx hb dX12_apart_80 rfl (lv_at hl 2 rfl) ?_
    obtain ⟨x9, ex9, hin, h⟩ := mrd_ex h
    refine kr_iald hC hW (wm_11 g μ) hin ex9 dX12_apart_81 ?_
    refine lv_aload_n hx hb dX12_apart_82 rfl (lv_at hl 1 rfl) ?_
    refine gf_X12_40_m0 hC hW dX12_apart_83 ?_
    refine lv_iload_n hx hb dX12_apart_86 rfl (lv_at hl 3 rfl) ?_
    obtain ⟨x10, ex10, hin, h⟩ := mrd_ex h
    refine kr_iald hC hW (wm_11 g μ) hin ex10 dX12_apart_87 ?_
    refine lv_isub hx hb dX12_apart_88 ?_
    refine lv_istore (lv' := [(4, .int (x9 - x10)), (3, .int y0), (0, .ref (ad g 0)), (1, .int a1), (2, .int a2)]) hx hb dX12_apart_89 hl (by decide) rfl (fun ls hl => ?_)
    refine lv_iload_n hx hb dX12_apart_91 rfl (lv_at hl 1 rfl) ?_
    refine lv_iload hx hb dX12_apart_92 (lv_at hl 0 rfl) ?_
    refine lv_iadd hx hb dX12_apart_94 ?_
    cases h
    exact kr_iret hC hr hlocks hW dX12_apart_95
  · replace h := if_n hc8 h
    refine lv_aload_n hx hb dX12_apart_60 rfl (lv_at hl 1 rfl) ?_
    refine gf_X12_40_m0 hC hW dX12_apart_61 ?_
    refine lv_iload_n hx hb dX12_apart_64 rfl (lv_at hl 3 rfl) ?_
    obtain ⟨x11, ex11, hin, h⟩ := mrd_ex h
    refine kr_iald hC hW (wm_11 g μ) hin ex11 dX12_apart_65 ?_
    refine lv_aload_n hx hb dX12_apart_66 rfl (lv_at hl 1 rfl) ?_
    refine gf_X12_40_m0 hC hW dX12_apart_67 ?_
    refine lv_iload_n hx hb dX12_apart_70 rfl (lv_at hl 2 rfl) ?_
    obtain ⟨x12, ex12, hin, h⟩ := mrd_ex h
    refine kr_iald hC hW (wm_11 g μ) hin ex12 dX12_apart_71 ?_
    refine lv_isub hx hb dX12_apart_72 ?_
    refine lv_goto (tgt := 89) hx hb dX12_apart_73 (by decide) ?_
    refine lv_istore (lv' := [(4, .int (x11 - x12)), (3, .int y0), (0, .ref (ad g 0)), (1, .int a1), (2, .int a2)]) hx hb dX12_apart_89 hl (by decide) rfl (fun ls hl => ?_)
    refine lv_iload_n hx hb dX12_apart_91 rfl (lv_at hl 1 rfl) ?_
    refine lv_iload hx hb dX12_apart_92 (lv_at hl 0 rfl) ?_
    refine lv_iadd hx hb dX12_apart_94 ?_
    cases h
    exact kr_iret hC hr hlocks hW dX12_apart_95
set_option maxHeartbeats 4000000 in
set_option maxRecDepth 100000 in
theorem t_md_apart {l : Launch} {g : Gx} {A : Nat → Prop} {μ : Mm} {a1 : Int32} {a2 : Int32} {v : Int32} (h : md_apart μ a1 a2 = some v) : Cti l g A wm yX12_apart cX12_apart 5 (some .int) 0 [.ref (ad g 0), .int a1, .int a2] μ v μ := by
  refine ent (lv := [(0, .ref (ad g 0)), (1, .int a1), (2, .int a2)]) (by decide) (Nat.le_of_ble_eq_true rfl) rfl ?_
  intro p e s m args below meth c hC hr hlocks hnm hW ls hl
  replace hC : Cx g RX12 cX12_apart 5 p s m args c := hC
  obtain ⟨hx, hb, hml, hown, hts, hK, hN⟩ := id hC
  unfold md_apart at h
  refine lv_aload_n hx hb dX12_apart_0 rfl (lv_at hl 0 rfl) ?_
  refine gf_X12_37_m0 hC hW dX12_apart_1 ?_
  refine lv_iload_n hx hb dX12_apart_4 rfl (lv_at hl 1 rfl) ?_
  obtain ⟨x1, ex1, hin, h⟩ := mrd_ex h
  refine kr_iald hC hW (wm_10 g μ) hin ex1 dX12_apart_5 ?_
  refine lv_aload_n hx hb dX12_apart_6 rfl (lv_at hl 0 rfl) ?_
  refine gf_X12_37_m0 hC hW dX12_apart_7 ?_
  refine lv_iload_n hx hb dX12_apart_10 rfl (lv_at hl 2 rfl) ?_
  obtain ⟨x2, ex2, hin, h⟩ := mrd_ex h
  refine kr_iald hC hW (wm_10 g μ) hin ex2 dX12_apart_11 ?_
  refine lv_icmp_ge (tgt := 31) hx hb dX12_apart_12 (by decide) (fun hc3 => ?_) (fun hc3 => ?_)
  · replace h := if_p hc3 h
    refine lv_aload_n hx hb dX12_apart_31 rfl (lv_at hl 0 rfl) ?_
    refine gf_X12_37_m0 hC hW dX12_apart_32 ?_
    refine lv_iload_n hx hb dX12_apart_35 rfl (lv_at hl 1 rfl) ?_
    obtain ⟨x4, ex4, hin, h⟩ := mrd_ex h
    refine kr_iald hC hW (wm_10 g μ) hin ex4 dX12_apart_36 ?_
    refine lv_aload_n hx hb dX12_apart_37 rfl (lv_at hl 0 rfl) ?_
    refine gf_X12_37_m0 hC hW dX12_apart_38 ?_
    refine lv_iload_n hx hb dX12_apart_41 rfl (lv_at hl 2 rfl) ?_
    obtain ⟨x5, ex5, hin, h⟩ := mrd_ex h
    refine kr_iald hC hW (wm_10 g μ) hin ex5 dX12_apart_42 ?_
    refine lv_isub hx hb dX12_apart_43 ?_
    exact tj_md_apart_44 a1 a2 (x4 - x5) hC hr hlocks (lv_sub hl [0, 1, 2] rfl) hW h
  · replace h := if_n hc3 h
    refine lv_aload_n hx hb dX12_apart_15 rfl (lv_at hl 0 rfl) ?_
    refine gf_X12_37_m0 hC hW dX12_apart_16 ?_
    refine lv_iload_n hx hb dX12_apart_19 rfl (lv_at hl 2 rfl) ?_
    obtain ⟨x13, ex13, hin, h⟩ := mrd_ex h
    refine kr_iald hC hW (wm_10 g μ) hin ex13 dX12_apart_20 ?_
    refine lv_aload_n hx hb dX12_apart_21 rfl (lv_at hl 0 rfl) ?_
    refine gf_X12_37_m0 hC hW dX12_apart_22 ?_
    refine lv_iload_n hx hb dX12_apart_25 rfl (lv_at hl 1 rfl) ?_
    obtain ⟨x14, ex14, hin, h⟩ := mrd_ex h
    refine kr_iald hC hW (wm_10 g μ) hin ex14 dX12_apart_26 ?_
    refine lv_isub hx hb dX12_apart_27 ?_
    refine lv_goto (tgt := 44) hx hb dX12_apart_28 (by decide) ?_
    exact tj_md_apart_44 a1 a2 (x13 - x14) hC hr hlocks (lv_sub hl [0, 1, 2] rfl) hW h
set_option maxHeartbeats 4000000 in
set_option maxRecDepth 100000 in
theorem t_md_toDepot {l : Launch} {g : Gx} {A : Nat → Prop} {μ : Mm} {a1 : Int32} {v : Int32} (h : md_toDepot μ a1 = some v) : Cti l g A wm yX12_toDepot cX12_toDepot 2 (some .int) 0 [.ref (ad g 0), .int a1] μ v μ := by
  refine ent (lv := [(0, .ref (ad g 0)), (1, .int a1)]) (by decide) (Nat.le_of_ble_eq_true rfl) rfl ?_
  intro p e s m args below meth c hC hr hlocks hnm hW ls hl
  replace hC : Cx g RX12 cX12_toDepot 2 p s m args c := hC
  obtain ⟨hx, hb, hml, hown, hts, hK, hN⟩ := id hC
  unfold md_toDepot at h
  refine lv_aload_n hx hb dX12_toDepot_0 rfl (lv_at hl 0 rfl) ?_
  refine gf_X12_37_m0 hC hW dX12_toDepot_1 ?_
  refine lv_iload_n hx hb dX12_toDepot_4 rfl (lv_at hl 1 rfl) ?_
  obtain ⟨x1, ex1, hin, h⟩ := mrd_ex h
  refine kr_iald hC hW (wm_10 g μ) hin ex1 dX12_toDepot_5 ?_
  refine lv_aload_n hx hb dX12_toDepot_6 rfl (lv_at hl 0 rfl) ?_
  refine gf_X12_40_m0 hC hW dX12_toDepot_7 ?_
  refine lv_iload_n hx hb dX12_toDepot_10 rfl (lv_at hl 1 rfl) ?_
  obtain ⟨x2, ex2, hin, h⟩ := mrd_ex h
  refine kr_iald hC hW (wm_11 g μ) hin ex2 dX12_toDepot_11 ?_
  refine lv_iadd hx hb dX12_toDepot_12 ?_
  cases h
  exact kr_iret hC hr hlocks hW dX12_toDepot_13
set_option maxHeartbeats 4000000 in
set_option maxRecDepth 100000 in
theorem tl_md_laysVisits_7 (a1 : Int32) (a2 : Int32) (hC : Cx g RX12 cX12_laysVisits 4 p s m args c) {e0 : (Mm)} (kx0 : ∀ (ls : Array Slot) (H : Heap) (locs : List Loc), lv_has ls 4 [] → wP g wm A s.heap e0 H locs → W p l e (rmD 2) s m args below meth c H locs 0 0 Q (F0 m 54 ls [])) : ∀ (n : Nat) (q : Int32 × Mm), miter (fun q => md_laysVisits_b7 q.2 a1 a2 q.1) n q = some e0 → ∀ (ls : Array Slot) (H : Heap) (locs : List Loc), lv_has ls 4 [(0, .ref (ad g 0)), (1, .int a1), (2, .int a2), (3, .int q.1)] → wP g wm A s.heap q.2 H locs → W p l e (rmD 2) s m args below meth c H locs 0 0 Q (F0 m 7 ls []) := by
  obtain ⟨hx, hb, hml, hown, hts, hK, hN⟩ := id hC
  refine miter_ind (fun q r hf k1 k2 => ?_)
  obtain ⟨xs3, μ⟩ := q
  intro ls H locs hl hW
  have h : md_laysVisits_b7 μ a1 a2 xs3 = some r := hf
  unfold md_laysVisits_b7 at h
  refine lv_iload_n hx hb dX12_laysVisits_7 rfl (lv_at hl 3 rfl) ?_
  refine lv_aload_n hx hb dX12_laysVisits_8 rfl (lv_at hl 0 rfl) ?_
  refine gf_X12_190_m0 hC hW dX12_laysVisits_9 ?_
  refine lv_icmp_ge (tgt := 54) hx hb dX12_laysVisits_12 (by decide) (fun hc2 => ?_) (fun hc2 => ?_)
  · replace h := if_p hc2 h
    obtain rfl := k2 _ (Option.some.inj h).symm
    exact kx0 _ _ _ (lv_sub hl [] rfl) hW
  · replace h := if_n hc2 h
    refine lv_aload_n hx hb dX12_laysVisits_15 rfl (lv_at hl 0 rfl) ?_
    refine lv_iload_n hx hb dX12_laysVisits_16 rfl (lv_at hl 1 rfl) ?_
    refine lv_iload_n hx hb dX12_laysVisits_17 rfl (lv_at hl 3 rfl) ?_
    refine lv_iload_n hx hb dX12_laysVisits_18 rfl (lv_at hl 2 rfl) ?_
    obtain ⟨x3, hx3, h⟩ := mbv_some h
    refine kr_ci hC hW (kr_runV hC hW hl.1 (t_md_isVisited hx3) cw_X12_346 (wm_0 g μ) rfl rfl rfl (Nat.le_of_ble_eq_true rfl) dX12_laysVisits_19 (by decide)) (fun H locs hW => ?_)
    refine lv_if_ne (tgt := 28) hx hb dX12_laysVisits_22 (by decide) (fun hc4 => ?_) (fun hc4 => ?_)
    · replace h := if_n hc4 h
      refine lv_aload_n hx hb dX12_laysVisits_28 rfl (lv_at hl 0 rfl) ?_
      refine gf_X12_177_m0 hC hW dX12_laysVisits_29 ?_
      refine lv_aload_n hx hb dX12_laysVisits_32 rfl (lv_at hl 0 rfl) ?_
      refine gf_X12_442_m0 hC hW dX12_laysVisits_33 ?_
      refine lv_iload_n hx hb dX12_laysVisits_36 rfl (lv_at hl 3 rfl) ?_
      obtain ⟨μ5, eμ5, hin, h⟩ := mwr_ex h
      refine kr_iast hC hW (wm_56 g μ) (wms_56 eμ5) hin dX12_laysVisits_37 (fun H locs hW => ?_)
      refine lv_aload_n hx hb dX12_laysVisits_38 rfl (lv_at hl 0 rfl) ?_
      refine lv_aload_n hx hb dX12_laysVisits_39 rfl (lv_at hl 0 rfl) ?_
      refine gf_X12_442_m0 hC hW dX12_laysVisits_40 ?_
      refine lv_iconst (v := 1) hx hb dX12_laysVisits_43 (by decide) ?_
      refine lv_iadd hx hb dX12_laysVisits_44 ?_
      obtain ⟨μ6, eμ6, h⟩ := mst_some h
      refine pf_X12_442_m0 hC hW eμ6 dX12_laysVisits_45 (fun H locs hW => ?_)
      refine lv_iinc (v := (xs3 + 1)) (lv' := [(3, .int (xs3 + 1)), (0, .ref (ad g 0)), (1, .int a1), (2, .int a2)]) hx hb dX12_laysVisits_48 hl (k := 3) rfl (by rw [oi_1]) (by decide) rfl (fun ls hl => ?_)
      refine lv_goto (tgt := 7) hx hb dX12_laysVisits_51 (by decide) ?_
      exact k1 ((xs3 + 1), μ6) (Option.some.inj h).symm _ _ _ (lv_sub hl [1, 2, 3, 0] rfl) hW
    · replace h := if_p hc4 h
      refine lv_goto (tgt := 48) hx hb dX12_laysVisits_25 (by decide) ?_
      refine lv_iinc (v := (xs3 + 1)) (lv' := [(3, .int (xs3 + 1)), (0, .ref (ad g 0)), (1, .int a1), (2, .int a2)]) hx hb dX12_laysVisits_48 hl (k := 3) rfl (by rw [oi_1]) (by decide) rfl (fun ls hl => ?_)
      refine lv_goto (tgt := 7) hx hb dX12_laysVisits_51 (by decide) ?_
      exact k1 ((xs3 + 1), μ) (Option.some.inj h).symm _ _ _ (lv_sub hl [1, 2, 3, 0] rfl) hW
set_option maxHeartbeats 4000000 in
set_option maxRecDepth 100000 in
theorem t_md_laysVisits {l : Launch} {g : Gx} {A : Nat → Prop} {μ : Mm} {a1 : Int32} {a2 : Int32} {u : Mm} (h : md_laysVisits μ a1 a2 = some u) : Ctv l g A wm yX12_laysVisits cX12_laysVisits 4 none 2 [.ref (ad g 0), .int a1, .int a2] μ u := by
  refine ent (lv := [(0, .ref (ad g 0)), (1, .int a1), (2, .int a2)]) (by decide) (Nat.le_of_ble_eq_true rfl) rfl ?_
  intro p e s m args below meth c hC hr hlocks hnm hW ls hl
  replace hC : Cx g RX12 cX12_laysVisits 4 p s m args c := hC
  obtain ⟨hx, hb, hml, hown, hts, hK, hN⟩ := id hC
  unfold md_laysVisits at h
  refine lv_aload_n hx hb dX12_laysVisits_0 rfl (lv_at hl 0 rfl) ?_
  refine lv_iconst (v := 0) hx hb dX12_laysVisits_1 (by decide) ?_
  obtain ⟨μ1, eμ1, h⟩ := mst_some h
  refine pf_X12_442_m0 hC hW eμ1 dX12_laysVisits_2 (fun H locs hW => ?_)
  refine lv_iconst (v := 0) hx hb dX12_laysVisits_5 (by decide) ?_
  refine lv_istore_n (lv' := [(3, .int 0), (0, .ref (ad g 0)), (1, .int a1), (2, .int a2)]) hx hb dX12_laysVisits_6 rfl hl (by decide) rfl (fun ls hl => ?_)
  obtain ⟨μ7, he8, h⟩ := mbv_some h
  refine tl_md_laysVisits_7 a1 a2 hC (fun ls H locs hl hW => ?_) FU (0, μ1) he8 _ _ _ (lv_sub hl [1, 2, 3, 0] rfl) hW
  cases h
  exact kr_vret hC hr hlocks hW dX12_laysVisits_54
set_option maxHeartbeats 4000000 in
set_option maxRecDepth 100000 in
theorem tl_md_laysTold_8 (a1 : Int32) (a2 : Int32) (a3 : Int32) (hC : Cx g RX12 cX12_laysTold 5 p s m args c) {e0 : (Mm)} (kx0 : ∀ (ls : Array Slot) (H : Heap) (locs : List Loc), lv_has ls 5 [] → wP g wm A s.heap e0 H locs → W p l e (rmD 0) s m args below meth c H locs 0 0 Q (F0 m 75 ls [])) : ∀ (n : Nat) (q : Int32 × Mm), miter (fun q => md_laysTold_b8 q.2 a1 a2 a3 q.1) n q = some e0 → ∀ (ls : Array Slot) (H : Heap) (locs : List Loc), lv_has ls 5 [(0, .ref (ad g 0)), (1, .int a1), (2, .int a2), (3, .int a3), (4, .int q.1)] → wP g wm A s.heap q.2 H locs → W p l e (rmD 0) s m args below meth c H locs 0 0 Q (F0 m 8 ls []) := by
  obtain ⟨hx, hb, hml, hown, hts, hK, hN⟩ := id hC
  refine miter_ind (fun q r hf k1 k2 => ?_)
  obtain ⟨xs4, μ⟩ := q
  intro ls H locs hl hW
  have h : md_laysTold_b8 μ a1 a2 a3 xs4 = some r := hf
  unfold md_laysTold_b8 at h
  refine lv_iload hx hb dX12_laysTold_8 (lv_at hl 4 rfl) ?_
  refine lv_aload_n hx hb dX12_laysTold_10 rfl (lv_at hl 0 rfl) ?_
  refine gf_X12_190_m0 hC hW dX12_laysTold_11 ?_
  refine lv_icmp_ge (tgt := 75) hx hb dX12_laysTold_14 (by decide) (fun hc2 => ?_) (fun hc2 => ?_)
  · replace h := if_p hc2 h
    obtain rfl := k2 _ (Option.some.inj h).symm
    exact kx0 _ _ _ (lv_sub hl [] rfl) hW
  · replace h := if_n hc2 h
    refine lv_aload_n hx hb dX12_laysTold_17 rfl (lv_at hl 0 rfl) ?_
    refine gf_X12_46_m0 hC hW dX12_laysTold_18 ?_
    refine lv_iload hx hb dX12_laysTold_21 (lv_at hl 4 rfl) ?_
    obtain ⟨x3, ex3, hin, h⟩ := mrd_ex h
    refine kr_iald hC hW (wm_13 g μ) hin ex3 dX12_laysTold_23 ?_
    refine lv_iload_n hx hb dX12_laysTold_24 rfl (lv_at hl 1 rfl) ?_
    refine lv_icmp_ne (tgt := 69) hx hb dX12_laysTold_25 (by decide) (fun hc4 => ?_) (fun hc4 => ?_)
    · replace h := if_n hc4 h
      refine lv_iinc (v := (xs4 + 1)) (lv' := [(4, .int (xs4 + 1)), (0, .ref (ad g 0)), (1, .int a1), (2, .int a2), (3, .int a3)]) hx hb dX12_laysTold_69 hl (k := 4) rfl (by rw [oi_1]) (by decide) rfl (fun ls hl => ?_)
      refine lv_goto (tgt := 8) hx hb dX12_laysTold_72 (by decide) ?_
      exact k1 ((xs4 + 1), μ) (Option.some.inj h).symm _ _ _ (lv_sub hl [1, 2, 3, 4, 0] rfl) hW
    · replace h := if_p hc4 h
      refine lv_aload_n hx hb dX12_laysTold_28 rfl (lv_at hl 0 rfl) ?_
      refine gf_X12_49_m0 hC hW dX12_laysTold_29 ?_
      refine lv_iload hx hb dX12_laysTold_32 (lv_at hl 4 rfl) ?_
      obtain ⟨x5, ex5, hin, h⟩ := mrd_ex h
      refine kr_iald hC hW (wm_14 g μ) hin ex5 dX12_laysTold_34 ?_
      refine lv_iload_n hx hb dX12_laysTold_35 rfl (lv_at hl 2 rfl) ?_
      refine lv_icmp_ne (tgt := 69) hx hb dX12_laysTold_36 (by decide) (fun hc6 => ?_) (fun hc6 => ?_)
      · replace h := if_n hc6 h
        refine lv_iinc (v := (xs4 + 1)) (lv' := [(4, .int (xs4 + 1)), (0, .ref (ad g 0)), (1, .int a1), (2, .int a2), (3, .int a3)]) hx hb dX12_laysTold_69 hl (k := 4) rfl (by rw [oi_1]) (by decide) rfl (fun ls hl => ?_)
        refine lv_goto (tgt := 8) hx hb dX12_laysTold_72 (by decide) ?_
        exact k1 ((xs4 + 1), μ) (Option.some.inj h).symm _ _ _ (lv_sub hl [1, 2, 3, 4, 0] rfl) hW
      · replace h := if_p hc6 h
        refine lv_iload hx hb dX12_laysTold_39 (lv_at hl 4 rfl) ?_
        refine lv_iload_n hx hb dX12_laysTold_41 rfl (lv_at hl 3 rfl) ?_
        refine lv_icmp_ne (tgt := 48) hx hb dX12_laysTold_42 (by decide) (fun hc7 => ?_) (fun hc7 => ?_)
        · replace h := if_n hc7 h
          refine lv_aload_n hx hb dX12_laysTold_48 rfl (lv_at hl 0 rfl) ?_
          refine gf_X12_177_m0 hC hW dX12_laysTold_49 ?_
          refine lv_aload_n hx hb dX12_laysTold_52 rfl (lv_at hl 0 rfl) ?_
          refine gf_X12_442_m0 hC hW dX12_laysTold_53 ?_
          refine lv_iload hx hb dX12_laysTold_56 (lv_at hl 4 rfl) ?_
          obtain ⟨μ8, eμ8, hin, h⟩ := mwr_ex h
          refine kr_iast hC hW (wm_56 g μ) (wms_56 eμ8) hin dX12_laysTold_58 (fun H locs hW => ?_)
          refine lv_aload_n hx hb dX12_laysTold_59 rfl (lv_at hl 0 rfl) ?_
          refine lv_aload_n hx hb dX12_laysTold_60 rfl (lv_at hl 0 rfl) ?_
          refine gf_X12_442_m0 hC hW dX12_laysTold_61 ?_
          refine lv_iconst (v := 1) hx hb dX12_laysTold_64 (by decide) ?_
          refine lv_iadd hx hb dX12_laysTold_65 ?_
          obtain ⟨μ9, eμ9, h⟩ := mst_some h
          refine pf_X12_442_m0 hC hW eμ9 dX12_laysTold_66 (fun H locs hW => ?_)
          refine lv_iinc (v := (xs4 + 1)) (lv' := [(4, .int (xs4 + 1)), (0, .ref (ad g 0)), (1, .int a1), (2, .int a2), (3, .int a3)]) hx hb dX12_laysTold_69 hl (k := 4) rfl (by rw [oi_1]) (by decide) rfl (fun ls hl => ?_)
          refine lv_goto (tgt := 8) hx hb dX12_laysTold_72 (by decide) ?_
          exact k1 ((xs4 + 1), μ9) (Option.some.inj h).symm _ _ _ (lv_sub hl [1, 2, 3, 4, 0] rfl) hW
        · replace h := if_p hc7 h
          refine lv_goto (tgt := 69) hx hb dX12_laysTold_45 (by decide) ?_
          refine lv_iinc (v := (xs4 + 1)) (lv' := [(4, .int (xs4 + 1)), (0, .ref (ad g 0)), (1, .int a1), (2, .int a2), (3, .int a3)]) hx hb dX12_laysTold_69 hl (k := 4) rfl (by rw [oi_1]) (by decide) rfl (fun ls hl => ?_)
          refine lv_goto (tgt := 8) hx hb dX12_laysTold_72 (by decide) ?_
          exact k1 ((xs4 + 1), μ) (Option.some.inj h).symm _ _ _ (lv_sub hl [1, 2, 3, 4, 0] rfl) hW
set_option maxHeartbeats 4000000 in
set_option maxRecDepth 100000 in
theorem t_md_laysTold {l : Launch} {g : Gx} {A : Nat → Prop} {μ : Mm} {a1 : Int32} {a2 : Int32} {a3 : Int32} {u : Mm} (h : md_laysTold μ a1 a2 a3 = some u) : Ctv l g A wm yX12_laysTold cX12_laysTold 5 none 0 [.ref (ad g 0), .int a1, .int a2, .int a3] μ u := by
  refine ent (lv := [(0, .ref (ad g 0)), (1, .int a1), (2, .int a2), (3, .int a3)]) (by decide) (Nat.le_of_ble_eq_true rfl) rfl ?_
  intro p e s m args below meth c hC hr hlocks hnm hW ls hl
  replace hC : Cx g RX12 cX12_laysTold 5 p s m args c := hC
  obtain ⟨hx, hb, hml, hown, hts, hK, hN⟩ := id hC
  unfold md_laysTold at h
  refine lv_aload_n hx hb dX12_laysTold_0 rfl (lv_at hl 0 rfl) ?_
  refine lv_iconst (v := 0) hx hb dX12_laysTold_1 (by decide) ?_
  obtain ⟨μ1, eμ1, h⟩ := mst_some h
  refine pf_X12_442_m0 hC hW eμ1 dX12_laysTold_2 (fun H locs hW => ?_)
  refine lv_iconst (v := 0) hx hb dX12_laysTold_5 (by decide) ?_
  refine lv_istore (lv' := [(4, .int 0), (0, .ref (ad g 0)), (1, .int a1), (2, .int a2), (3, .int a3)]) hx hb dX12_laysTold_6 hl (by decide) rfl (fun ls hl => ?_)
  obtain ⟨μ10, he11, h⟩ := mbv_some h
  refine tl_md_laysTold_8 a1 a2 a3 hC (fun ls H locs hl hW => ?_) FU (0, μ1) he11 _ _ _ (lv_sub hl [1, 2, 3, 4, 0] rfl) hW
  cases h
  exact kr_vret hC hr hlocks hW dX12_laysTold_75
set_option maxHeartbeats 4000000 in
set_option maxRecDepth 100000 in
theorem tl_md_miles_51 (μ : Mm) (a1 : Int32) (a2 : Int32) (a3 : Int32) (hC : Cx g RX12 cX12_miles 7 p s m args c) {e0 : (Int32)} (kx0 : ∀ (ls : Array Slot) (H : Heap) (locs : List Loc), lv_has ls 7 [(0, .ref (ad g 0)), (1, .int a1), (2, .int a2), (3, .int a3), (4, .int e0)] → wP g wm A s.heap μ H locs → W p l e (rmD 1) s m args below meth c H locs 0 0 Q (F0 m 133 ls [])) : ∀ (n : Nat) (q : Int32 × Int32), miter (fun q => md_miles_b51 μ a1 a2 a3 q.1 q.2) n q = some e0 → ∀ (ls : Array Slot) (H : Heap) (locs : List Loc), lv_has ls 7 [(0, .ref (ad g 0)), (1, .int a1), (2, .int a2), (3, .int a3), (4, .int q.1), (5, .int q.2)] → wP g wm A s.heap μ H locs → W p l e (rmD 1) s m args below meth c H locs 0 0 Q (F0 m 51 ls []) := by
  obtain ⟨hx, hb, hml, hown, hts, hK, hN⟩ := id hC
  refine miter_ind (fun q r hf k1 k2 => ?_)
  obtain ⟨xs4, xs5⟩ := q
  intro ls H locs hl hW
  have h : md_miles_b51 μ a1 a2 a3 xs4 xs5 = some r := hf
  unfold md_miles_b51 at h
  refine lv_iload hx hb dX12_miles_51 (lv_at hl 5 rfl) ?_
  refine lv_aload_n hx hb dX12_miles_53 rfl (lv_at hl 0 rfl) ?_
  refine gf_X12_442_m0 hC hW dX12_miles_54 ?_
  refine lv_icmp_ge (tgt := 133) hx hb dX12_miles_57 (by decide) (fun hc4 => ?_) (fun hc4 => ?_)
  · replace h := if_p hc4 h
    obtain rfl := k2 _ (Option.some.inj h).symm
    exact kx0 _ _ _ (lv_sub hl [0, 1, 2, 3, 4] rfl) hW
  · replace h := if_n hc4 h
    refine lv_iload_n hx hb dX12_miles_60 rfl (lv_at hl 2 rfl) ?_
    refine lv_iload hx hb dX12_miles_61 (lv_at hl 5 rfl) ?_
    refine lv_ishr hx hb dX12_miles_63 ?_
    refine lv_iconst (v := 1) hx hb dX12_miles_64 (by decide) ?_
    refine lv_iand hx hb dX12_miles_65 ?_
    refine lv_if_ne (tgt := 72) hx hb dX12_miles_66 (by decide) (fun hc5 => ?_) (fun hc5 => ?_)
    · replace h := if_n hc5 h
      refine lv_aload_n hx hb dX12_miles_72 rfl (lv_at hl 0 rfl) ?_
      refine lv_aload_n hx hb dX12_miles_73 rfl (lv_at hl 0 rfl) ?_
      refine gf_X12_177_m0 hC hW dX12_miles_74 ?_
      refine lv_iload_n hx hb dX12_miles_77 rfl (lv_at hl 3 rfl) ?_
      obtain ⟨x6, ex6, hin, h⟩ := mrd_ex h
      refine kr_iald hC hW (wm_56 g μ) hin ex6 dX12_miles_78 ?_
      refine lv_aload_n hx hb dX12_miles_79 rfl (lv_at hl 0 rfl) ?_
      refine gf_X12_177_m0 hC hW dX12_miles_80 ?_
      refine lv_iload hx hb dX12_miles_83 (lv_at hl 5 rfl) ?_
      obtain ⟨x7, ex7, hin, h⟩ := mrd_ex h
      refine kr_iald hC hW (wm_56 g μ) hin ex7 dX12_miles_85 ?_
      obtain ⟨x8, hx8, h⟩ := mbv_some h
      refine kr_ci hC hW (kr_runV hC hW hl.1 (t_md_apart hx8) cw_X12_449 (wm_0 g μ) rfl rfl rfl (Nat.le_of_ble_eq_true rfl) dX12_miles_86 (by decide)) (fun H locs hW => ?_)
      refine lv_aload_n hx hb dX12_miles_89 rfl (lv_at hl 0 rfl) ?_
      refine gf_X12_180_m0 hC hW dX12_miles_90 ?_
      refine lv_bipush (v := 8) hx hb dX12_miles_93 (by decide) ?_
      refine lv_iload_n hx hb dX12_miles_95 rfl (lv_at hl 2 rfl) ?_
      refine lv_iconst (v := 1) hx hb dX12_miles_96 (by decide) ?_
      refine lv_iload hx hb dX12_miles_97 (lv_at hl 5 rfl) ?_
      refine lv_ishl hx hb dX12_miles_99 ?_
      refine lv_iconst (v := (-1)) hx hb dX12_miles_100 (by decide) ?_
      refine lv_ixor hx hb dX12_miles_101 ?_
      refine lv_iand hx hb dX12_miles_102 ?_
      refine lv_imul hx hb dX12_miles_103 ?_
      refine lv_iload hx hb dX12_miles_104 (lv_at hl 5 rfl) ?_
      refine lv_iadd hx hb dX12_miles_106 ?_
      obtain ⟨x9, ex9, hin, h⟩ := mrd_ex h
      refine kr_iald hC hW (wm_57 g μ) hin ex9 dX12_miles_107 ?_
      refine lv_iadd hx hb dX12_miles_108 ?_
      refine lv_istore (lv' := [(6, .int (x8 + x9)), (0, .ref (ad g 0)), (1, .int a1), (2, .int a2), (3, .int a3), (4, .int xs4), (5, .int xs5)]) hx hb dX12_miles_109 hl (by decide) rfl (fun ls hl => ?_)
      refine lv_iload hx hb dX12_miles_111 (lv_at hl 0 rfl) ?_
      refine lv_iload hx hb dX12_miles_113 (lv_at hl 5 rfl) ?_
      refine lv_icmp_ge (tgt := 123) hx hb dX12_miles_115 (by decide) (fun hc10 => ?_) (fun hc10 => ?_)
      · replace h := if_p hc10 h
        refine lv_iload hx hb dX12_miles_123 (lv_at hl 5 rfl) ?_
        refine lv_istore (lv' := [(4, .int xs4), (6, .int (x8 + x9)), (0, .ref (ad g 0)), (1, .int a1), (2, .int a2), (3, .int a3), (5, .int xs5)]) hx hb dX12_miles_125 hl (by decide) rfl (fun ls hl => ?_)
        refine lv_iinc (v := (xs5 + 1)) (lv' := [(5, .int (xs5 + 1)), (4, .int xs4), (6, .int (x8 + x9)), (0, .ref (ad g 0)), (1, .int a1), (2, .int a2), (3, .int a3)]) hx hb dX12_miles_127 hl (k := 6) rfl (by rw [oi_1]) (by decide) rfl (fun ls hl => ?_)
        refine lv_goto (tgt := 51) hx hb dX12_miles_130 (by decide) ?_
        exact k1 (xs4, (xs5 + 1)) (Option.some.inj h).symm _ _ _ (lv_sub hl [3, 4, 5, 6, 1, 0] rfl) hW
      · replace h := if_n hc10 h
        refine lv_iload hx hb dX12_miles_118 (lv_at hl 0 rfl) ?_
        refine lv_goto (tgt := 125) hx hb dX12_miles_120 (by decide) ?_
        refine lv_istore (lv' := [(4, .int (x8 + x9)), (6, .int (x8 + x9)), (0, .ref (ad g 0)), (1, .int a1), (2, .int a2), (3, .int a3), (5, .int xs5)]) hx hb dX12_miles_125 hl (by decide) rfl (fun ls hl => ?_)
        refine lv_iinc (v := (xs5 + 1)) (lv' := [(5, .int (xs5 + 1)), (4, .int (x8 + x9)), (6, .int (x8 + x9)), (0, .ref (ad g 0)), (1, .int a1), (2, .int a2), (3, .int a3)]) hx hb dX12_miles_127 hl (k := 6) rfl (by rw [oi_1]) (by decide) rfl (fun ls hl => ?_)
        refine lv_goto (tgt := 51) hx hb dX12_miles_130 (by decide) ?_
        exact k1 ((x8 + x9), (xs5 + 1)) (Option.some.inj h).symm _ _ _ (lv_sub hl [3, 4, 5, 6, 1, 0] rfl) hW
    · replace h := if_p hc5 h
      refine lv_goto (tgt := 127) hx hb dX12_miles_69 (by decide) ?_
      refine lv_iinc (v := (xs5 + 1)) (lv' := [(5, .int (xs5 + 1)), (0, .ref (ad g 0)), (1, .int a1), (2, .int a2), (3, .int a3), (4, .int xs4)]) hx hb dX12_miles_127 hl (k := 5) rfl (by rw [oi_1]) (by decide) rfl (fun ls hl => ?_)
      refine lv_goto (tgt := 51) hx hb dX12_miles_130 (by decide) ?_
      exact k1 (xs4, (xs5 + 1)) (Option.some.inj h).symm _ _ _ (lv_sub hl [1, 2, 3, 4, 5, 0] rfl) hW
set_option maxHeartbeats 4000000 in
set_option maxRecDepth 100000 in
theorem tj_md_miles_46 {μ : Mm} (a1 : Int32) (a2 : Int32) (a3 : Int32) (y0 : Int32) (hC : Cx g RX12 cX12_miles 7 p s m args c) {e0 : (Mm)} {r : (Int32 × Mm) ⊕ (Mm)} (k1 : ∀ q, r = .inl q → ∀ (ls : Array Slot) (H : Heap) (locs : List Loc), lv_has ls 7 [(0, .ref (ad g 0)), (1, .int a1), (2, .int a2), (3, .int q.1)] → wP g wm A s.heap q.2 H locs → W p l e (rmD 1) s m args below meth c H locs 0 0 Q (F0 m 18 ls [])) (k2 : ∀ e', r = .inr e' → e' = e0) (kx0 : ∀ (ls : Array Slot) (H : Heap) (locs : List Loc), lv_has ls 7 [(0, .ref (ad g 0)), (1, .int a1), (2, .int a2)] → wP g wm A s.heap e0 H locs → W p l e (rmD 1) s m args below meth c H locs 0 0 Q (F0 m 152 ls []))  (hl : lv_has ls 7 [(0, .ref (ad g 0)), (1, .int a1), (2, .int a2), (3, .int a3)]) (hW : wP g wm A s.heap μ H locs) (h : md_miles_j46 μ a1 a2 a3 y0 = some r) : W p l e (rmD 1) s m args below meth c H locs 0 0 Q (F0 m 46 ls [.int y0]) := by
  obtain ⟨hx, hb, hml, hown, hts, hK, hN⟩ := id hC
  unfold md_miles_j46 at h
  refine lv_istore (lv' := [(4, .int y0), (0, .ref (ad g 0)), (1, .int a1), (2, .int a2), (3, .int a3)]) hx hb dX12_miles_46 hl (by decide) rfl (fun ls hl => ?_)
  refine lv_iconst (v := 0) hx hb dX12_miles_48 (by decide) ?_
  refine lv_istore (lv' := [(5, .int 0), (4, .int y0), (0, .ref (ad g 0)), (1, .int a1), (2, .int a2), (3, .int a3)]) hx hb dX12_miles_49 hl (by decide) rfl (fun ls hl => ?_)
  obtain ⟨x11, he13, h⟩ := mbv_some h
  refine tl_md_miles_51 μ a1 a2 a3 hC (fun ls H locs hl hW => ?_) FU (y0, 0) he13 _ _ _ (lv_sub hl [2, 3, 4, 5, 1, 0] rfl) hW
  refine lv_aload_n hx hb dX12_miles_133 rfl (lv_at hl 0 rfl) ?_
  refine gf_X12_180_m0 hC hW dX12_miles_134 ?_
  refine lv_bipush (v := 8) hx hb dX12_miles_137 (by decide) ?_
  refine lv_iload_n hx hb dX12_miles_139 rfl (lv_at hl 2 rfl) ?_
  refine lv_imul hx hb dX12_miles_140 ?_
  refine lv_iload_n hx hb dX12_miles_141 rfl (lv_at hl 3 rfl) ?_
  refine lv_iadd hx hb dX12_miles_142 ?_
  refine lv_iload hx hb dX12_miles_143 (lv_at hl 4 rfl) ?_
  obtain ⟨μ12, eμ12, hin, h⟩ := mwr_ex h
  refine kr_iast hC hW (wm_57 g μ) (wms_57 eμ12) hin dX12_miles_145 (fun H locs hW => ?_)
  refine lv_iinc (v := (a3 + 1)) (lv' := [(3, .int (a3 + 1)), (0, .ref (ad g 0)), (1, .int a1), (2, .int a2), (4, .int x11)]) hx hb dX12_miles_146 hl (k := 3) rfl (by rw [oi_1]) (by decide) rfl (fun ls hl => ?_)
  refine lv_goto (tgt := 18) hx hb dX12_miles_149 (by decide) ?_
  exact k1 ((a3 + 1), μ12) (Option.some.inj h).symm _ _ _ (lv_sub hl [1, 2, 3, 0] rfl) hW
set_option maxHeartbeats 4000000 in
set_option maxRecDepth 100000 in
theorem tl_md_miles_18 (a1 : Int32) (a2 : Int32) (hC : Cx g RX12 cX12_miles 7 p s m args c) {e0 : (Mm)} (kx0 : ∀ (ls : Array Slot) (H : Heap) (locs : List Loc), lv_has ls 7 [(0, .ref (ad g 0)), (1, .int a1), (2, .int a2)] → wP g wm A s.heap e0 H locs → W p l e (rmD 1) s m args below meth c H locs 0 0 Q (F0 m 152 ls [])) : ∀ (n : Nat) (q : Int32 × Mm), miter (fun q => md_miles_b18 q.2 a1 a2 q.1) n q = some e0 → ∀ (ls : Array Slot) (H : Heap) (locs : List Loc), lv_has ls 7 [(0, .ref (ad g 0)), (1, .int a1), (2, .int a2), (3, .int q.1)] → wP g wm A s.heap q.2 H locs → W p l e (rmD 1) s m args below meth c H locs 0 0 Q (F0 m 18 ls []) := by
  obtain ⟨hx, hb, hml, hown, hts, hK, hN⟩ := id hC
  refine miter_ind (fun q r hf k1 k2 => ?_)
  obtain ⟨xs3, μ⟩ := q
  intro ls H locs hl hW
  have h : md_miles_b18 μ a1 a2 xs3 = some r := hf
  unfold md_miles_b18 at h
  refine lv_iload_n hx hb dX12_miles_18 rfl (lv_at hl 3 rfl) ?_
  refine lv_aload_n hx hb dX12_miles_19 rfl (lv_at hl 0 rfl) ?_
  refine gf_X12_442_m0 hC hW dX12_miles_20 ?_
  refine lv_icmp_ge (tgt := 152) hx hb dX12_miles_23 (by decide) (fun hc2 => ?_) (fun hc2 => ?_)
  · replace h := if_p hc2 h
    obtain rfl := k2 _ (Option.some.inj h).symm
    exact kx0 _ _ _ (lv_sub hl [0, 1, 2] rfl) hW
  · replace h := if_n hc2 h
    refine lv_iload_n hx hb dX12_miles_26 rfl (lv_at hl 2 rfl) ?_
    refine lv_if_ne (tgt := 43) hx hb dX12_miles_27 (by decide) (fun hc3 => ?_) (fun hc3 => ?_)
    · replace h := if_n hc3 h
      refine lv_ldcw hx hb hown (hts _ tw_1776) dX12_miles_43 ?_
      exact tj_md_miles_46 a1 a2 xs3 1000000 hC k1 k2 kx0 (lv_sub hl [0, 1, 2, 3] rfl) hW h
    · replace h := if_p hc3 h
      refine lv_aload_n hx hb dX12_miles_30 rfl (lv_at hl 0 rfl) ?_
      refine lv_aload_n hx hb dX12_miles_31 rfl (lv_at hl 0 rfl) ?_
      refine gf_X12_177_m0 hC hW dX12_miles_32 ?_
      refine lv_iload_n hx hb dX12_miles_35 rfl (lv_at hl 3 rfl) ?_
      obtain ⟨x14, ex14, hin, h⟩ := mrd_ex h
      refine kr_iald hC hW (wm_56 g μ) hin ex14 dX12_miles_36 ?_
      obtain ⟨x15, hx15, h⟩ := mbv_some h
      refine kr_ci hC hW (kr_runV hC hW hl.1 (t_md_toDepot hx15) cw_X12_445 (wm_0 g μ) rfl rfl rfl (Nat.le_of_ble_eq_true rfl) dX12_miles_37 (by decide)) (fun H locs hW => ?_)
      refine lv_goto (tgt := 46) hx hb dX12_miles_40 (by decide) ?_
      exact tj_md_miles_46 a1 a2 xs3 x15 hC k1 k2 kx0 (lv_sub hl [0, 1, 2, 3] rfl) hW h
set_option maxHeartbeats 4000000 in
set_option maxRecDepth 100000 in
theorem tl_md_miles_11 (a1 : Int32) (hC : Cx g RX12 cX12_miles 7 p s m args c) {e0 : (Mm)} (kx0 : ∀ (ls : Array Slot) (H : Heap) (locs : List Loc), lv_has ls 7 [(0, .ref (ad g 0)), (1, .int a1)] → wP g wm A s.heap e0 H locs → W p l e (rmD 1) s m args below meth c H locs 0 0 Q (F0 m 158 ls [])) : ∀ (n : Nat) (q : Int32 × Mm), miter (fun q => md_miles_b11 q.2 a1 q.1) n q = some e0 → ∀ (ls : Array Slot) (H : Heap) (locs : List Loc), lv_has ls 7 [(0, .ref (ad g 0)), (1, .int a1), (2, .int q.1)] → wP g wm A s.heap q.2 H locs → W p l e (rmD 1) s m args below meth c H locs 0 0 Q (F0 m 11 ls []) := by
  obtain ⟨hx, hb, hml, hown, hts, hK, hN⟩ := id hC
  refine miter_ind (fun q r hf k1 k2 => ?_)
  obtain ⟨xs2, μ⟩ := q
  intro ls H locs hl hW
  have h : md_miles_b11 μ a1 xs2 = some r := hf
  unfold md_miles_b11 at h
  refine lv_iload_n hx hb dX12_miles_11 rfl (lv_at hl 2 rfl) ?_
  refine lv_iload_n hx hb dX12_miles_12 rfl (lv_at hl 1 rfl) ?_
  refine lv_icmp_gt (tgt := 158) hx hb dX12_miles_13 (by decide) (fun hc1 => ?_) (fun hc1 => ?_)
  · replace h := if_p hc1 h
    obtain rfl := k2 _ (Option.some.inj h).symm
    exact kx0 _ _ _ (lv_sub hl [0, 1] rfl) hW
  · replace h := if_n hc1 h
    refine lv_iconst (v := 0) hx hb dX12_miles_16 (by decide) ?_
    refine lv_istore_n (lv' := [(3, .int 0), (0, .ref (ad g 0)), (1, .int a1), (2, .int xs2)]) hx hb dX12_miles_17 rfl hl (by decide) rfl (fun ls hl => ?_)
    obtain ⟨μ16, he17, h⟩ := mbv_some h
    refine tl_md_miles_18 a1 xs2 hC (fun ls H locs hl hW => ?_) FU (0, μ) he17 _ _ _ (lv_sub hl [1, 2, 3, 0] rfl) hW
    refine lv_iinc (v := (xs2 + 1)) (lv' := [(2, .int (xs2 + 1)), (0, .ref (ad g 0)), (1, .int a1)]) hx hb dX12_miles_152 hl (k := 2) rfl (by rw [oi_1]) (by decide) rfl (fun ls hl => ?_)
    refine lv_goto (tgt := 11) hx hb dX12_miles_155 (by decide) ?_
    exact k1 ((xs2 + 1), μ16) (Option.some.inj h).symm _ _ _ (lv_sub hl [1, 2, 0] rfl) hW
set_option maxHeartbeats 4000000 in
set_option maxRecDepth 100000 in
theorem tl_md_miles_175 (μ : Mm) (a1 : Int32) (hC : Cx g RX12 cX12_miles 7 p s m args c) {e0 : (Int32)} (kx0 : ∀ (ls : Array Slot) (H : Heap) (locs : List Loc), lv_has ls 7 [(2, .int e0)] → wP g wm A s.heap μ H locs → W p l e (rmD 1) s m args below meth c H locs 0 0 Q (F0 m 232 ls [])) : ∀ (n : Nat) (q : Int32 × Int32), miter (fun q => md_miles_b175 μ a1 q.1 q.2) n q = some e0 → ∀ (ls : Array Slot) (H : Heap) (locs : List Loc), lv_has ls 7 [(0, .ref (ad g 0)), (1, .int a1), (2, .int q.1), (3, .int q.2)] → wP g wm A s.heap μ H locs → W p l e (rmD 1) s m args below meth c H locs 0 0 Q (F0 m 175 ls []) := by
  obtain ⟨hx, hb, hml, hown, hts, hK, hN⟩ := id hC
  refine miter_ind (fun q r hf k1 k2 => ?_)
  obtain ⟨xs2, xs3⟩ := q
  intro ls H locs hl hW
  have h : md_miles_b175 μ a1 xs2 xs3 = some r := hf
  unfold md_miles_b175 at h
  refine lv_iload_n hx hb dX12_miles_175 rfl (lv_at hl 3 rfl) ?_
  refine lv_aload_n hx hb dX12_miles_176 rfl (lv_at hl 0 rfl) ?_
  refine gf_X12_442_m0 hC hW dX12_miles_177 ?_
  refine lv_icmp_ge (tgt := 232) hx hb dX12_miles_180 (by decide) (fun hc20 => ?_) (fun hc20 => ?_)
  · replace h := if_p hc20 h
    obtain rfl := k2 _ (Option.some.inj h).symm
    exact kx0 _ _ _ (lv_sub hl [2] rfl) hW
  · replace h := if_n hc20 h
    refine lv_aload_n hx hb dX12_miles_183 rfl (lv_at hl 0 rfl) ?_
    refine lv_aload_n hx hb dX12_miles_184 rfl (lv_at hl 0 rfl) ?_
    refine gf_X12_177_m0 hC hW dX12_miles_185 ?_
    refine lv_iload_n hx hb dX12_miles_188 rfl (lv_at hl 3 rfl) ?_
    obtain ⟨x21, ex21, hin, h⟩ := mrd_ex h
    refine kr_iald hC hW (wm_56 g μ) hin ex21 dX12_miles_189 ?_
    obtain ⟨x22, hx22, h⟩ := mbv_some h
    refine kr_ci hC hW (kr_runV hC hW hl.1 (t_md_toDepot hx22) cw_X12_445 (wm_0 g μ) rfl rfl rfl (Nat.le_of_ble_eq_true rfl) dX12_miles_190 (by decide)) (fun H locs hW => ?_)
    refine lv_aload_n hx hb dX12_miles_193 rfl (lv_at hl 0 rfl) ?_
    refine gf_X12_180_m0 hC hW dX12_miles_194 ?_
    refine lv_bipush (v := 8) hx hb dX12_miles_197 (by decide) ?_
    refine lv_iload_n hx hb dX12_miles_199 rfl (lv_at hl 1 rfl) ?_
    refine lv_iconst (v := 1) hx hb dX12_miles_200 (by decide) ?_
    refine lv_iload_n hx hb dX12_miles_201 rfl (lv_at hl 3 rfl) ?_
    refine lv_ishl hx hb dX12_miles_202 ?_
    refine lv_iconst (v := (-1)) hx hb dX12_miles_203 (by decide) ?_
    refine lv_ixor hx hb dX12_miles_204 ?_
    refine lv_iand hx hb dX12_miles_205 ?_
    refine lv_imul hx hb dX12_miles_206 ?_
    refine lv_iload_n hx hb dX12_miles_207 rfl (lv_at hl 3 rfl) ?_
    refine lv_iadd hx hb dX12_miles_208 ?_
    obtain ⟨x23, ex23, hin, h⟩ := mrd_ex h
    refine kr_iald hC hW (wm_57 g μ) hin ex23 dX12_miles_209 ?_
    refine lv_iadd hx hb dX12_miles_210 ?_
    refine lv_istore (lv' := [(4, .int (x22 + x23)), (0, .ref (ad g 0)), (1, .int a1), (2, .int xs2), (3, .int xs3)]) hx hb dX12_miles_211 hl (by decide) rfl (fun ls hl => ?_)
    refine lv_iload hx hb dX12_miles_213 (lv_at hl 0 rfl) ?_
    refine lv_iload_n hx hb dX12_miles_215 rfl (lv_at hl 3 rfl) ?_
    refine lv_icmp_ge (tgt := 224) hx hb dX12_miles_216 (by decide) (fun hc24 => ?_) (fun hc24 => ?_)
    · replace h := if_p hc24 h
      refine lv_iload_n hx hb dX12_miles_224 rfl (lv_at hl 3 rfl) ?_
      refine lv_istore_n (lv' := [(2, .int xs2), (4, .int (x22 + x23)), (0, .ref (ad g 0)), (1, .int a1), (3, .int xs3)]) hx hb dX12_miles_225 rfl hl (by decide) rfl (fun ls hl => ?_)
      refine lv_iinc (v := (xs3 + 1)) (lv' := [(3, .int (xs3 + 1)), (2, .int xs2), (4, .int (x22 + x23)), (0, .ref (ad g 0)), (1, .int a1)]) hx hb dX12_miles_226 hl (k := 4) rfl (by rw [oi_1]) (by decide) rfl (fun ls hl => ?_)
      refine lv_goto (tgt := 175) hx hb dX12_miles_229 (by decide) ?_
      exact k1 (xs2, (xs3 + 1)) (Option.some.inj h).symm _ _ _ (lv_sub hl [3, 4, 1, 0] rfl) hW
    · replace h := if_n hc24 h
      refine lv_iload hx hb dX12_miles_219 (lv_at hl 0 rfl) ?_
      refine lv_goto (tgt := 225) hx hb dX12_miles_221 (by decide) ?_
      refine lv_istore_n (lv' := [(2, .int (x22 + x23)), (4, .int (x22 + x23)), (0, .ref (ad g 0)), (1, .int a1), (3, .int xs3)]) hx hb dX12_miles_225 rfl hl (by decide) rfl (fun ls hl => ?_)
      refine lv_iinc (v := (xs3 + 1)) (lv' := [(3, .int (xs3 + 1)), (2, .int (x22 + x23)), (4, .int (x22 + x23)), (0, .ref (ad g 0)), (1, .int a1)]) hx hb dX12_miles_226 hl (k := 4) rfl (by rw [oi_1]) (by decide) rfl (fun ls hl => ?_)
      refine lv_goto (tgt := 175) hx hb dX12_miles_229 (by decide) ?_
      exact k1 ((x22 + x23), (xs3 + 1)) (Option.some.inj h).symm _ _ _ (lv_sub hl [3, 4, 1, 0] rfl) hW
set_option maxHeartbeats 4000000 in
set_option maxRecDepth 100000 in
theorem tj_md_miles_172 {μ : Mm} (a1 : Int32) (y0 : Int32) (hC : Cx g RX12 cX12_miles 7 p s m args c) (hr : meth.sig.returnType = some .int) (hlocks : meth.locks = false) {v : Int32} {u : Mm} (hl : lv_has ls 7 [(0, .ref (ad g 0)), (1, .int a1)]) (hW : wP g wm A s.heap μ H locs) (h : md_miles_j172 μ a1 y0 = some (v, u)) : W p l e (rmD 1) s m args below meth c H locs 0 0 (MQ below (Qi g A wm v u) args s 0 0 A) (F0 m 172 ls [.int y0]) := by
  obtain ⟨hx, hb, hml, hown, hts, hK, hN⟩ := id hC
  unfold md_miles_j172 at h
  refine lv_istore_n (lv' := [(2, .int y0), (0, .ref (ad g 0)), (1, .int a1)]) hx hb dX12_miles_172 rfl hl (by decide) rfl (fun ls hl => ?_)
  refine lv_iconst (v := 0) hx hb dX12_miles_173 (by decide) ?_
  refine lv_istore_n (lv' := [(3, .int 0), (2, .int y0), (0, .ref (ad g 0)), (1, .int a1)]) hx hb dX12_miles_174 rfl hl (by decide) rfl (fun ls hl => ?_)
  obtain ⟨x25, he26, h⟩ := mbv_some h
  refine tl_md_miles_175 μ a1 hC (fun ls H locs hl hW => ?_) FU (y0, 0) he26 _ _ _ (lv_sub hl [2, 3, 1, 0] rfl) hW
  refine lv_iload_n hx hb dX12_miles_232 rfl (lv_at hl 0 rfl) ?_
  cases h
  exact kr_iret hC hr hlocks hW dX12_miles_233
set_option maxHeartbeats 4000000 in
set_option maxRecDepth 100000 in
theorem t_md_miles {l : Launch} {g : Gx} {A : Nat → Prop} {μ : Mm} {v : Int32} {u : Mm} (h : md_miles μ = some (v, u)) : Cti l g A wm yX12_miles cX12_miles 7 (some .int) 1 [.ref (ad g 0)] μ v u := by
  refine ent (lv := [(0, .ref (ad g 0))]) (by decide) (Nat.le_of_ble_eq_true rfl) rfl ?_
  intro p e s m args below meth c hC hr hlocks hnm hW ls hl
  replace hC : Cx g RX12 cX12_miles 7 p s m args c := hC
  obtain ⟨hx, hb, hml, hown, hts, hK, hN⟩ := id hC
  unfold md_miles at h
  refine lv_iconst (v := 1) hx hb dX12_miles_0 (by decide) ?_
  refine lv_aload_n hx hb dX12_miles_1 rfl (lv_at hl 0 rfl) ?_
  refine gf_X12_442_m0 hC hW dX12_miles_2 ?_
  refine lv_ishl hx hb dX12_miles_5 ?_
  refine lv_iconst (v := 1) hx hb dX12_miles_6 (by decide) ?_
  refine lv_isub hx hb dX12_miles_7 ?_
  refine lv_istore_n (lv' := [(1, .int (((1 : Int32) <<< ((μ 0 77) &&& 31)) - 1)), (0, .ref (ad g 0))]) hx hb dX12_miles_8 rfl hl (by decide) rfl (fun ls hl => ?_)
  refine lv_iconst (v := 0) hx hb dX12_miles_9 (by decide) ?_
  refine lv_istore_n (lv' := [(2, .int 0), (1, .int (((1 : Int32) <<< ((μ 0 77) &&& 31)) - 1)), (0, .ref (ad g 0))]) hx hb dX12_miles_10 rfl hl (by decide) rfl (fun ls hl => ?_)
  obtain ⟨μ18, he27, h⟩ := mbv_some h
  refine tl_md_miles_11 (((1 : Int32) <<< ((μ 0 77) &&& 31)) - 1) hC (fun ls H locs hl hW => ?_) FU (0, μ) he27 _ _ _ (lv_sub hl [2, 1, 0] rfl) hW
  refine lv_aload_n hx hb dX12_miles_158 rfl (lv_at hl 0 rfl) ?_
  refine gf_X12_442_m0 hC hW dX12_miles_159 ?_
  refine lv_if_ne (tgt := 169) hx hb dX12_miles_162 (by decide) (fun hc19 => ?_) (fun hc19 => ?_)
  · replace h := if_n hc19 h
    refine lv_ldcw hx hb hown (hts _ tw_1776) dX12_miles_169 ?_
    exact tj_md_miles_172 (((1 : Int32) <<< ((μ 0 77) &&& 31)) - 1) 1000000 hC hr hlocks (lv_sub hl [0, 1] rfl) hW h
  · replace h := if_p hc19 h
    refine lv_iconst (v := 0) hx hb dX12_miles_165 (by decide) ?_
    refine lv_goto (tgt := 172) hx hb dX12_miles_166 (by decide) ?_
    exact tj_md_miles_172 (((1 : Int32) <<< ((μ 0 77) &&& 31)) - 1) 0 hC hr hlocks (lv_sub hl [0, 1] rfl) hW h
set_option maxHeartbeats 4000000 in
set_option maxRecDepth 100000 in
theorem tl_md_halts_4 (μ : Mm) (hC : Cx g RX12 cX12_halts 3 p s m args c) {e0 : (Int32)} (kx0 : ∀ (ls : Array Slot) (H : Heap) (locs : List Loc), lv_has ls 3 [(1, .int e0)] → wP g wm A s.heap μ H locs → W p l e (rmD 0) s m args below meth c H locs 0 0 Q (F0 m 32 ls [])) : ∀ (n : Nat) (q : Int32 × Int32), miter (fun q => md_halts_b4 μ q.1 q.2) n q = some e0 → ∀ (ls : Array Slot) (H : Heap) (locs : List Loc), lv_has ls 3 [(0, .ref (ad g 0)), (1, .int q.1), (2, .int q.2)] → wP g wm A s.heap μ H locs → W p l e (rmD 0) s m args below meth c H locs 0 0 Q (F0 m 4 ls []) := by
  obtain ⟨hx, hb, hml, hown, hts, hK, hN⟩ := id hC
  refine miter_ind (fun q r hf k1 k2 => ?_)
  obtain ⟨xs1, xs2⟩ := q
  intro ls H locs hl hW
  have h : md_halts_b4 μ xs1 xs2 = some r := hf
  unfold md_halts_b4 at h
  refine lv_iload_n hx hb dX12_halts_4 rfl (lv_at hl 2 rfl) ?_
  refine lv_aload_n hx hb dX12_halts_5 rfl (lv_at hl 0 rfl) ?_
  refine gf_X12_442_m0 hC hW dX12_halts_6 ?_
  refine lv_icmp_ge (tgt := 32) hx hb dX12_halts_9 (by decide) (fun hc1 => ?_) (fun hc1 => ?_)
  · replace h := if_p hc1 h
    obtain rfl := k2 _ (Option.some.inj h).symm
    exact kx0 _ _ _ (lv_sub hl [1] rfl) hW
  · replace h := if_n hc1 h
    refine lv_iload_n hx hb dX12_halts_12 rfl (lv_at hl 1 rfl) ?_
    refine lv_aload_n hx hb dX12_halts_13 rfl (lv_at hl 0 rfl) ?_
    refine gf_X12_43_m0 hC hW dX12_halts_14 ?_
    refine lv_aload_n hx hb dX12_halts_17 rfl (lv_at hl 0 rfl) ?_
    refine gf_X12_177_m0 hC hW dX12_halts_18 ?_
    refine lv_iload_n hx hb dX12_halts_21 rfl (lv_at hl 2 rfl) ?_
    obtain ⟨x2, ex2, hin, h⟩ := mrd_ex h
    refine kr_iald hC hW (wm_56 g μ) hin ex2 dX12_halts_22 ?_
    obtain ⟨x3, ex3, hin, h⟩ := mrd_ex h
    refine kr_iald hC hW (wm_12 g μ) hin ex3 dX12_halts_23 ?_
    refine lv_iadd hx hb dX12_halts_24 ?_
    refine lv_istore_n (lv' := [(1, .int (xs1 + x3)), (0, .ref (ad g 0)), (2, .int xs2)]) hx hb dX12_halts_25 rfl hl (by decide) rfl (fun ls hl => ?_)
    refine lv_iinc (v := (xs2 + 1)) (lv' := [(2, .int (xs2 + 1)), (1, .int (xs1 + x3)), (0, .ref (ad g 0))]) hx hb dX12_halts_26 hl (k := 2) rfl (by rw [oi_1]) (by decide) rfl (fun ls hl => ?_)
    refine lv_goto (tgt := 4) hx hb dX12_halts_29 (by decide) ?_
    exact k1 ((xs1 + x3), (xs2 + 1)) (Option.some.inj h).symm _ _ _ (lv_sub hl [2, 1, 0] rfl) hW
set_option maxHeartbeats 4000000 in
set_option maxRecDepth 100000 in
theorem t_md_halts {l : Launch} {g : Gx} {A : Nat → Prop} {μ : Mm} {v : Int32} (h : md_halts μ = some v) : Cti l g A wm yX12_halts cX12_halts 3 (some .int) 0 [.ref (ad g 0)] μ v μ := by
  refine ent (lv := [(0, .ref (ad g 0))]) (by decide) (Nat.le_of_ble_eq_true rfl) rfl ?_
  intro p e s m args below meth c hC hr hlocks hnm hW ls hl
  replace hC : Cx g RX12 cX12_halts 3 p s m args c := hC
  obtain ⟨hx, hb, hml, hown, hts, hK, hN⟩ := id hC
  unfold md_halts at h
  refine lv_iconst (v := 0) hx hb dX12_halts_0 (by decide) ?_
  refine lv_istore_n (lv' := [(1, .int 0), (0, .ref (ad g 0))]) hx hb dX12_halts_1 rfl hl (by decide) rfl (fun ls hl => ?_)
  refine lv_iconst (v := 0) hx hb dX12_halts_2 (by decide) ?_
  refine lv_istore_n (lv' := [(2, .int 0), (1, .int 0), (0, .ref (ad g 0))]) hx hb dX12_halts_3 rfl hl (by decide) rfl (fun ls hl => ?_)
  obtain ⟨x4, he5, h⟩ := mbv_some h
  refine tl_md_halts_4 μ hC (fun ls H locs hl hW => ?_) FU (0, 0) he5 _ _ _ (lv_sub hl [2, 1, 0] rfl) hW
  refine lv_iload_n hx hb dX12_halts_32 rfl (lv_at hl 0 rfl) ?_
  cases h
  exact kr_iret hC hr hlocks hW dX12_halts_33
set_option maxHeartbeats 4000000 in
set_option maxRecDepth 100000 in
theorem tj_md_stopAt_86 (μ : Mm) (a1 : Int32) (a2 : Int32) (a3 : Int32) (a4 : Int32) (a5 : Int32) (a6 : Int32) (a7 : Int32) (y0 : Int32) (hC : Cx g RX12 cX12_stopAt 9 p s m args c) {e0 : (Int32)} {r : (Int32 × Int32 × Int32) ⊕ (Int32)} (k1 : ∀ q, r = .inl q → ∀ (ls : Array Slot) (H : Heap) (locs : List Loc), lv_has ls 9 [(0, .ref (ad g 0)), (1, .int a1), (2, .int a2), (3, .int a3), (4, .int a4), (5, .int q.1), (6, .int q.2.1), (7, .int q.2.2)] → wP g wm A s.heap μ H locs → W p l e (rmD 1) s m args below meth c H locs 0 0 Q (F0 m 29 ls [])) (k2 : ∀ e', r = .inr e' → e' = e0) (kx0 : ∀ (ls : Array Slot) (H : Heap) (locs : List Loc), lv_has ls 9 [(0, .ref (ad g 0)), (1, .int a1), (2, .int a2), (4, .int a4), (5, .int e0)] → wP g wm A s.heap μ H locs → W p l e (rmD 1) s m args below meth c H locs 0 0 Q (F0 m 138 ls []))  (hl : lv_has ls 9 [(0, .ref (ad g 0)), (1, .int a1), (2, .int a2), (3, .int a3), (4, .int a4), (5, .int a5), (6, .int a6), (7, .int a7)]) (hW : wP g wm A s.heap μ H locs) (h : md_stopAt_j86 μ a1 a2 a3 a4 a5 a6 a7 y0 = some r) : W p l e (rmD 1) s m args below meth c H locs 0 0 Q (F0 m 86 ls [.int y0]) := by
  obtain ⟨hx, hb, hml, hown, hts, hK, hN⟩ := id hC
  unfold md_stopAt_j86 at h
  refine lv_aload_n hx hb dX12_stopAt_86 rfl (lv_at hl 0 rfl) ?_
  refine gf_X12_180_m0 hC hW dX12_stopAt_87 ?_
  refine lv_bipush (v := 8) hx hb dX12_stopAt_90 (by decide) ?_
  refine lv_iload_n hx hb dX12_stopAt_92 rfl (lv_at hl 2 rfl) ?_
  refine lv_iconst (v := 1) hx hb dX12_stopAt_93 (by decide) ?_
  refine lv_iload hx hb dX12_stopAt_94 (lv_at hl 7 rfl) ?_
  refine lv_ishl hx hb dX12_stopAt_96 ?_
  refine lv_iconst (v := (-1)) hx hb dX12_stopAt_97 (by decide) ?_
  refine lv_ixor hx hb dX12_stopAt_98 ?_
  refine lv_iand hx hb dX12_stopAt_99 ?_
  refine lv_imul hx hb dX12_stopAt_100 ?_
  refine lv_iload hx hb dX12_stopAt_101 (lv_at hl 7 rfl) ?_
  refine lv_iadd hx hb dX12_stopAt_103 ?_
  obtain ⟨x8, ex8, hin, h⟩ := mrd_ex h
  refine kr_iald hC hW (wm_57 g μ) hin ex8 dX12_stopAt_104 ?_
  refine lv_iadd hx hb dX12_stopAt_105 ?_
  refine lv_istore (lv' := [(8, .int (y0 + x8)), (0, .ref (ad g 0)), (1, .int a1), (2, .int a2), (3, .int a3), (4, .int a4), (5, .int a5), (6, .int a6), (7, .int a7)]) hx hb dX12_stopAt_106 hl (by decide) rfl (fun ls hl => ?_)
  refine lv_iload hx hb dX12_stopAt_108 (lv_at hl 6 rfl) ?_
  refine lv_iconst (v := (-1)) hx hb dX12_stopAt_110 (by decide) ?_
  refine lv_icmp_eq (tgt := 124) hx hb dX12_stopAt_111 (by decide) (fun hc9 => ?_) (fun hc9 => ?_)
  · replace h := if_p hc9 h
    refine lv_iload hx hb dX12_stopAt_124 (lv_at hl 8 rfl) ?_
    refine lv_istore (lv' := [(5, .int a7), (8, .int (y0 + x8)), (0, .ref (ad g 0)), (1, .int a1), (2, .int a2), (3, .int a3), (4, .int a4), (6, .int a6), (7, .int a7)]) hx hb dX12_stopAt_126 hl (by decide) rfl (fun ls hl => ?_)
    refine lv_iload hx hb dX12_stopAt_128 (lv_at hl 1 rfl) ?_
    refine lv_istore (lv' := [(6, .int (y0 + x8)), (5, .int a7), (8, .int (y0 + x8)), (0, .ref (ad g 0)), (1, .int a1), (2, .int a2), (3, .int a3), (4, .int a4), (7, .int a7)]) hx hb dX12_stopAt_130 hl (by decide) rfl (fun ls hl => ?_)
    refine lv_iinc (v := (a7 + 1)) (lv' := [(7, .int (a7 + 1)), (6, .int (y0 + x8)), (5, .int a7), (8, .int (y0 + x8)), (0, .ref (ad g 0)), (1, .int a1), (2, .int a2), (3, .int a3), (4, .int a4)]) hx hb dX12_stopAt_132 hl (k := 8) rfl (by rw [oi_1]) (by decide) rfl (fun ls hl => ?_)
    refine lv_goto (tgt := 29) hx hb dX12_stopAt_135 (by decide) ?_
    exact k1 (a7, (y0 + x8), (a7 + 1)) (Option.some.inj h).symm _ _ _ (lv_sub hl [4, 5, 6, 7, 8, 2, 1, 0] rfl) hW
  · replace h := if_n hc9 h
    refine lv_iload hx hb dX12_stopAt_114 (lv_at hl 0 rfl) ?_
    refine lv_iload hx hb dX12_stopAt_116 (lv_at hl 7 rfl) ?_
    refine lv_icmp_lt (tgt := 124) hx hb dX12_stopAt_118 (by decide) (fun hc10 => ?_) (fun hc10 => ?_)
    · replace h := if_p hc10 h
      refine lv_iload hx hb dX12_stopAt_124 (lv_at hl 8 rfl) ?_
      refine lv_istore (lv' := [(5, .int a7), (8, .int (y0 + x8)), (0, .ref (ad g 0)), (1, .int a1), (2, .int a2), (3, .int a3), (4, .int a4), (6, .int a6), (7, .int a7)]) hx hb dX12_stopAt_126 hl (by decide) rfl (fun ls hl => ?_)
      refine lv_iload hx hb dX12_stopAt_128 (lv_at hl 1 rfl) ?_
      refine lv_istore (lv' := [(6, .int (y0 + x8)), (5, .int a7), (8, .int (y0 + x8)), (0, .ref (ad g 0)), (1, .int a1), (2, .int a2), (3, .int a3), (4, .int a4), (7, .int a7)]) hx hb dX12_stopAt_130 hl (by decide) rfl (fun ls hl => ?_)
      refine lv_iinc (v := (a7 + 1)) (lv' := [(7, .int (a7 + 1)), (6, .int (y0 + x8)), (5, .int a7), (8, .int (y0 + x8)), (0, .ref (ad g 0)), (1, .int a1), (2, .int a2), (3, .int a3), (4, .int a4)]) hx hb dX12_stopAt_132 hl (k := 8) rfl (by rw [oi_1]) (by decide) rfl (fun ls hl => ?_)
      refine lv_goto (tgt := 29) hx hb dX12_stopAt_135 (by decide) ?_
      exact k1 (a7, (y0 + x8), (a7 + 1)) (Option.some.inj h).symm _ _ _ (lv_sub hl [4, 5, 6, 7, 8, 2, 1, 0] rfl) hW
    · replace h := if_n hc10 h
      refine lv_goto (tgt := 132) hx hb dX12_stopAt_121 (by decide) ?_
      refine lv_iinc (v := (a7 + 1)) (lv' := [(7, .int (a7 + 1)), (8, .int (y0 + x8)), (0, .ref (ad g 0)), (1, .int a1), (2, .int a2), (3, .int a3), (4, .int a4), (5, .int a5), (6, .int a6)]) hx hb dX12_stopAt_132 hl (k := 8) rfl (by rw [oi_1]) (by decide) rfl (fun ls hl => ?_)
      refine lv_goto (tgt := 29) hx hb dX12_stopAt_135 (by decide) ?_
      exact k1 (a5, a6, (a7 + 1)) (Option.some.inj h).symm _ _ _ (lv_sub hl [2, 3, 4, 5, 6, 7, 8, 0] rfl) hW
set_option maxHeartbeats 4000000 in
set_option maxRecDepth 100000 in
theorem tl_md_stopAt_29 (μ : Mm) (a1 : Int32) (a2 : Int32) (a3 : Int32) (a4 : Int32) (hC : Cx g RX12 cX12_stopAt 9 p s m args c) {e0 : (Int32)} (kx0 : ∀ (ls : Array Slot) (H : Heap) (locs : List Loc), lv_has ls 9 [(0, .ref (ad g 0)), (1, .int a1), (2, .int a2), (4, .int a4), (5, .int e0)] → wP g wm A s.heap μ H locs → W p l e (rmD 1) s m args below meth c H locs 0 0 Q (F0 m 138 ls [])) : ∀ (n : Nat) (q : Int32 × Int32 × Int32), miter (fun q => md_stopAt_b29 μ a1 a2 a3 a4 q.1 q.2.1 q.2.2) n q = some e0 → ∀ (ls : Array Slot) (H : Heap) (locs : List Loc), lv_has ls 9 [(0, .ref (ad g 0)), (1, .int a1), (2, .int a2), (3, .int a3), (4, .int a4), (5, .int q.1), (6, .int q.2.1), (7, .int q.2.2)] → wP g wm A s.heap μ H locs → W p l e (rmD 1) s m args below meth c H locs 0 0 Q (F0 m 29 ls []) := by
  obtain ⟨hx, hb, hml, hown, hts, hK, hN⟩ := id hC
  refine miter_ind (fun q r hf k1 k2 => ?_)
  obtain ⟨xs5, xs6, xs7⟩ := q
  intro ls H locs hl hW
  have h : md_stopAt_b29 μ a1 a2 a3 a4 xs5 xs6 xs7 = some r := hf
  unfold md_stopAt_b29 at h
  refine lv_iload hx hb dX12_stopAt_29 (lv_at hl 7 rfl) ?_
  refine lv_aload_n hx hb dX12_stopAt_31 rfl (lv_at hl 0 rfl) ?_
  refine gf_X12_442_m0 hC hW dX12_stopAt_32 ?_
  refine lv_icmp_ge (tgt := 138) hx hb dX12_stopAt_35 (by decide) (fun hc2 => ?_) (fun hc2 => ?_)
  · replace h := if_p hc2 h
    obtain rfl := k2 _ (Option.some.inj h).symm
    exact kx0 _ _ _ (lv_sub hl [0, 1, 2, 4, 5] rfl) hW
  · replace h := if_n hc2 h
    refine lv_iload_n hx hb dX12_stopAt_38 rfl (lv_at hl 2 rfl) ?_
    refine lv_iload hx hb dX12_stopAt_39 (lv_at hl 7 rfl) ?_
    refine lv_ishr hx hb dX12_stopAt_41 ?_
    refine lv_iconst (v := 1) hx hb dX12_stopAt_42 (by decide) ?_
    refine lv_iand hx hb dX12_stopAt_43 ?_
    refine lv_if_ne (tgt := 50) hx hb dX12_stopAt_44 (by decide) (fun hc3 => ?_) (fun hc3 => ?_)
    · replace h := if_n hc3 h
      refine lv_iload_n hx hb dX12_stopAt_50 rfl (lv_at hl 3 rfl) ?_
      refine lv_iconst (v := (-1)) hx hb dX12_stopAt_51 (by decide) ?_
      refine lv_icmp_ne (tgt := 69) hx hb dX12_stopAt_52 (by decide) (fun hc4 => ?_) (fun hc4 => ?_)
      · replace h := if_n hc4 h
        refine lv_aload_n hx hb dX12_stopAt_69 rfl (lv_at hl 0 rfl) ?_
        refine lv_aload_n hx hb dX12_stopAt_70 rfl (lv_at hl 0 rfl) ?_
        refine gf_X12_177_m0 hC hW dX12_stopAt_71 ?_
        refine lv_iload_n hx hb dX12_stopAt_74 rfl (lv_at hl 3 rfl) ?_
        obtain ⟨x5, ex5, hin, h⟩ := mrd_ex h
        refine kr_iald hC hW (wm_56 g μ) hin ex5 dX12_stopAt_75 ?_
        refine lv_aload_n hx hb dX12_stopAt_76 rfl (lv_at hl 0 rfl) ?_
        refine gf_X12_177_m0 hC hW dX12_stopAt_77 ?_
        refine lv_iload hx hb dX12_stopAt_80 (lv_at hl 7 rfl) ?_
        obtain ⟨x6, ex6, hin, h⟩ := mrd_ex h
        refine kr_iald hC hW (wm_56 g μ) hin ex6 dX12_stopAt_82 ?_
        obtain ⟨x7, hx7, h⟩ := mbv_some h
        refine kr_ci hC hW (kr_runV hC hW hl.1 (t_md_apart hx7) cw_X12_449 (wm_0 g μ) rfl rfl rfl (Nat.le_of_ble_eq_true rfl) dX12_stopAt_83 (by decide)) (fun H locs hW => ?_)
        exact tj_md_stopAt_86 μ a1 a2 a3 a4 xs5 xs6 xs7 x7 hC k1 k2 kx0 (lv_sub hl [0, 1, 2, 3, 4, 5, 6, 7] rfl) hW h
      · replace h := if_p hc4 h
        refine lv_aload_n hx hb dX12_stopAt_55 rfl (lv_at hl 0 rfl) ?_
        refine lv_aload_n hx hb dX12_stopAt_56 rfl (lv_at hl 0 rfl) ?_
        refine gf_X12_177_m0 hC hW dX12_stopAt_57 ?_
        refine lv_iload hx hb dX12_stopAt_60 (lv_at hl 7 rfl) ?_
        obtain ⟨x11, ex11, hin, h⟩ := mrd_ex h
        refine kr_iald hC hW (wm_56 g μ) hin ex11 dX12_stopAt_62 ?_
        obtain ⟨x12, hx12, h⟩ := mbv_some h
        refine kr_ci hC hW (kr_runV hC hW hl.1 (t_md_toDepot hx12) cw_X12_445 (wm_0 g μ) rfl rfl rfl (Nat.le_of_ble_eq_true rfl) dX12_stopAt_63 (by decide)) (fun H locs hW => ?_)
        refine lv_goto (tgt := 86) hx hb dX12_stopAt_66 (by decide) ?_
        exact tj_md_stopAt_86 μ a1 a2 a3 a4 xs5 xs6 xs7 x12 hC k1 k2 kx0 (lv_sub hl [0, 1, 2, 3, 4, 5, 6, 7] rfl) hW h
    · replace h := if_p hc3 h
      refine lv_goto (tgt := 132) hx hb dX12_stopAt_47 (by decide) ?_
      refine lv_iinc (v := (xs7 + 1)) (lv' := [(7, .int (xs7 + 1)), (0, .ref (ad g 0)), (1, .int a1), (2, .int a2), (3, .int a3), (4, .int a4), (5, .int xs5), (6, .int xs6)]) hx hb dX12_stopAt_132 hl (k := 7) rfl (by rw [oi_1]) (by decide) rfl (fun ls hl => ?_)
      refine lv_goto (tgt := 29) hx hb dX12_stopAt_135 (by decide) ?_
      exact k1 (xs5, xs6, (xs7 + 1)) (Option.some.inj h).symm _ _ _ (lv_sub hl [1, 2, 3, 4, 5, 6, 7, 0] rfl) hW
set_option maxHeartbeats 4000000 in
set_option maxRecDepth 100000 in
theorem tl_md_stopAt_14 (μ : Mm) (a1 : Int32) (hC : Cx g RX12 cX12_stopAt 9 p s m args c) {e0 : (Int32)} (kx0 : ∀ (ls : Array Slot) (H : Heap) (locs : List Loc), lv_has ls 9 [(0, .ref (ad g 0)), (3, .int e0)] → wP g wm A s.heap μ H locs → W p l e (rmD 1) s m args below meth c H locs 0 0 Q (F0 m 156 ls [])) : ∀ (n : Nat) (q : Int32 × Int32 × Int32), miter (fun q => md_stopAt_b14 μ a1 q.1 q.2.1 q.2.2) n q = some e0 → ∀ (ls : Array Slot) (H : Heap) (locs : List Loc), lv_has ls 9 [(0, .ref (ad g 0)), (1, .int a1), (2, .int q.1), (3, .int q.2.1), (4, .int q.2.2)] → wP g wm A s.heap μ H locs → W p l e (rmD 1) s m args below meth c H locs 0 0 Q (F0 m 14 ls []) := by
  obtain ⟨hx, hb, hml, hown, hts, hK, hN⟩ := id hC
  refine miter_ind (fun q r hf k1 k2 => ?_)
  obtain ⟨xs2, xs3, xs4⟩ := q
  intro ls H locs hl hW
  have h : md_stopAt_b14 μ a1 xs2 xs3 xs4 = some r := hf
  unfold md_stopAt_b14 at h
  refine lv_iload hx hb dX12_stopAt_14 (lv_at hl 4 rfl) ?_
  refine lv_iload_n hx hb dX12_stopAt_16 rfl (lv_at hl 1 rfl) ?_
  refine lv_icmp_gt (tgt := 156) hx hb dX12_stopAt_17 (by decide) (fun hc1 => ?_) (fun hc1 => ?_)
  · replace h := if_p hc1 h
    obtain rfl := k2 _ (Option.some.inj h).symm
    exact kx0 _ _ _ (lv_sub hl [0, 3] rfl) hW
  · replace h := if_n hc1 h
    refine lv_iconst (v := (-1)) hx hb dX12_stopAt_20 (by decide) ?_
    refine lv_istore (lv' := [(5, .int (-1)), (0, .ref (ad g 0)), (1, .int a1), (2, .int xs2), (3, .int xs3), (4, .int xs4)]) hx hb dX12_stopAt_21 hl (by decide) rfl (fun ls hl => ?_)
    refine lv_iconst (v := 0) hx hb dX12_stopAt_23 (by decide) ?_
    refine lv_istore (lv' := [(6, .int 0), (5, .int (-1)), (0, .ref (ad g 0)), (1, .int a1), (2, .int xs2), (3, .int xs3), (4, .int xs4)]) hx hb dX12_stopAt_24 hl (by decide) rfl (fun ls hl => ?_)
    refine lv_iconst (v := 0) hx hb dX12_stopAt_26 (by decide) ?_
    refine lv_istore (lv' := [(7, .int 0), (6, .int 0), (5, .int (-1)), (0, .ref (ad g 0)), (1, .int a1), (2, .int xs2), (3, .int xs3), (4, .int xs4)]) hx hb dX12_stopAt_27 hl (by decide) rfl (fun ls hl => ?_)
    obtain ⟨x13, he14, h⟩ := mbv_some h
    refine tl_md_stopAt_29 μ a1 xs2 xs3 xs4 hC (fun ls H locs hl hW => ?_) FU ((-1), 0, 0) he14 _ _ _ (lv_sub hl [3, 4, 5, 6, 7, 2, 1, 0] rfl) hW
    refine lv_iload hx hb dX12_stopAt_138 (lv_at hl 4 rfl) ?_
    refine lv_istore_n (lv' := [(3, .int x13), (0, .ref (ad g 0)), (1, .int a1), (2, .int xs2), (4, .int xs4), (5, .int x13)]) hx hb dX12_stopAt_140 rfl hl (by decide) rfl (fun ls hl => ?_)
    refine lv_iload_n hx hb dX12_stopAt_141 rfl (lv_at hl 3 rfl) ?_
    refine lv_iconst (v := 1) hx hb dX12_stopAt_142 (by decide) ?_
    refine lv_iload hx hb dX12_stopAt_143 (lv_at hl 5 rfl) ?_
    refine lv_ishl hx hb dX12_stopAt_145 ?_
    refine lv_iconst (v := (-1)) hx hb dX12_stopAt_146 (by decide) ?_
    refine lv_ixor hx hb dX12_stopAt_147 ?_
    refine lv_iand hx hb dX12_stopAt_148 ?_
    refine lv_istore_n (lv' := [(2, .int (xs2 &&& (((1 : Int32) <<< (x13 &&& 31)) ^^^ (-1)))), (3, .int x13), (0, .ref (ad g 0)), (1, .int a1), (4, .int xs4), (5, .int x13)]) hx hb dX12_stopAt_149 rfl hl (by decide) rfl (fun ls hl => ?_)
    refine lv_iinc (v := (xs4 + 1)) (lv' := [(4, .int (xs4 + 1)), (2, .int (xs2 &&& (((1 : Int32) <<< (x13 &&& 31)) ^^^ (-1)))), (3, .int x13), (0, .ref (ad g 0)), (1, .int a1), (5, .int x13)]) hx hb dX12_stopAt_150 hl (k := 4) rfl (by rw [oi_1]) (by decide) rfl (fun ls hl => ?_)
    refine lv_goto (tgt := 14) hx hb dX12_stopAt_153 (by decide) ?_
    exact k1 ((xs2 &&& (((1 : Int32) <<< (x13 &&& 31)) ^^^ (-1))), x13, (xs4 + 1)) (Option.some.inj h).symm _ _ _ (lv_sub hl [3, 4, 1, 2, 0] rfl) hW
set_option maxHeartbeats 4000000 in
set_option maxRecDepth 100000 in
theorem t_md_stopAt {l : Launch} {g : Gx} {A : Nat → Prop} {μ : Mm} {a1 : Int32} {v : Int32} (h : md_stopAt μ a1 = some v) : Cti l g A wm yX12_stopAt cX12_stopAt 9 (some .int) 1 [.ref (ad g 0), .int a1] μ v μ := by
  refine ent (lv := [(0, .ref (ad g 0)), (1, .int a1)]) (by decide) (Nat.le_of_ble_eq_true rfl) rfl ?_
  intro p e s m args below meth c hC hr hlocks hnm hW ls hl
  replace hC : Cx g RX12 cX12_stopAt 9 p s m args c := hC
  obtain ⟨hx, hb, hml, hown, hts, hK, hN⟩ := id hC
  unfold md_stopAt at h
  refine lv_iconst (v := 1) hx hb dX12_stopAt_0 (by decide) ?_
  refine lv_aload_n hx hb dX12_stopAt_1 rfl (lv_at hl 0 rfl) ?_
  refine gf_X12_442_m0 hC hW dX12_stopAt_2 ?_
  refine lv_ishl hx hb dX12_stopAt_5 ?_
  refine lv_iconst (v := 1) hx hb dX12_stopAt_6 (by decide) ?_
  refine lv_isub hx hb dX12_stopAt_7 ?_
  refine lv_istore_n (lv' := [(2, .int (((1 : Int32) <<< ((μ 0 77) &&& 31)) - 1)), (0, .ref (ad g 0)), (1, .int a1)]) hx hb dX12_stopAt_8 rfl hl (by decide) rfl (fun ls hl => ?_)
  refine lv_iconst (v := (-1)) hx hb dX12_stopAt_9 (by decide) ?_
  refine lv_istore_n (lv' := [(3, .int (-1)), (2, .int (((1 : Int32) <<< ((μ 0 77) &&& 31)) - 1)), (0, .ref (ad g 0)), (1, .int a1)]) hx hb dX12_stopAt_10 rfl hl (by decide) rfl (fun ls hl => ?_)
  refine lv_iconst (v := 0) hx hb dX12_stopAt_11 (by decide) ?_
  refine lv_istore (lv' := [(4, .int 0), (3, .int (-1)), (2, .int (((1 : Int32) <<< ((μ 0 77) &&& 31)) - 1)), (0, .ref (ad g 0)), (1, .int a1)]) hx hb dX12_stopAt_12 hl (by decide) rfl (fun ls hl => ?_)
  obtain ⟨x15, he17, h⟩ := mbv_some h
  refine tl_md_stopAt_14 μ a1 hC (fun ls H locs hl hW => ?_) FU ((((1 : Int32) <<< ((μ 0 77) &&& 31)) - 1), (-1), 0) he17 _ _ _ (lv_sub hl [3, 4, 2, 1, 0] rfl) hW
  refine lv_aload_n hx hb dX12_stopAt_156 rfl (lv_at hl 0 rfl) ?_
  refine gf_X12_177_m0 hC hW dX12_stopAt_157 ?_
  refine lv_iload_n hx hb dX12_stopAt_160 rfl (lv_at hl 1 rfl) ?_
  obtain ⟨x16, ex16, hin, h⟩ := mrd_ex h
  refine kr_iald hC hW (wm_56 g μ) hin ex16 dX12_stopAt_161 ?_
  cases h
  exact kr_iret hC hr hlocks hW dX12_stopAt_162
set_option maxHeartbeats 4000000 in
set_option maxRecDepth 100000 in
theorem t_md_pace {l : Launch} {g : Gx} {A : Nat → Prop} {μ : Mm} {a1 : Int32} {v : Bool} {u : Mm} (h : md_pace μ a1 = some (v, u)) : Cti l g A wm yX12_pace cX12_pace 2 (some .boolean) 1 [.ref (ad g 0), .int a1] μ (bI v) u := by
  refine ent (lv := [(0, .ref (ad g 0)), (1, .int a1)]) (by decide) (Nat.le_of_ble_eq_true rfl) rfl ?_
  intro p e s m args below meth c hC hr hlocks hnm hW ls hl
  replace hC : Cx g RX12 cX12_pace 2 p s m args c := hC
  obtain ⟨hx, hb, hml, hown, hts, hK, hN⟩ := id hC
  unfold md_pace at h
  refine lv_iload_n hx hb dX12_pace_0 rfl (lv_at hl 1 rfl) ?_
  refine lv_iconst (v := 1) hx hb dX12_pace_1 (by decide) ?_
  refine lv_bipush (v := 9) hx hb dX12_pace_2 (by decide) ?_
  obtain ⟨x1, hx1, h⟩ := mbv_some h
  refine kr_ci hC hW (kr_runS hC hW hl.1 (t_md_in hx1) cw_X12_199 rfl rfl (Nat.le_of_ble_eq_true rfl) dX12_pace_4 (by decide)) (fun H locs hW => ?_)
  refine lv_if_ne (tgt := 12) hx hb dX12_pace_7 (by decide) (fun hc2 => ?_) (fun hc2 => ?_)
  · replace h := if_n hc2 h
    refine lv_aload_n hx hb dX12_pace_12 rfl (lv_at hl 0 rfl) ?_
    refine lv_iload_n hx hb dX12_pace_13 rfl (lv_at hl 1 rfl) ?_
    obtain ⟨μ3, eμ3, h⟩ := mst_some h
    refine pf_X12_183_m0 hC hW eμ3 dX12_pace_14 (fun H locs hW => ?_)
    refine lv_iconst (v := 1) hx hb dX12_pace_17 (by decide) ?_
    cases h
    exact kr_zret hC hr hlocks _ rfl hW dX12_pace_18
  · replace h := if_p hc2 h
    refine lv_iconst (v := 0) hx hb dX12_pace_10 (by decide) ?_
    cases h
    exact kr_zret hC hr hlocks _ rfl hW dX12_pace_11
set_option maxHeartbeats 4000000 in
set_option maxRecDepth 100000 in
theorem t_md_round {l : Launch} {g : Gx} {A : Nat → Prop} {μ : Mm} {a1 : Int32} {a2 : Int32} {a3 : Int32} {v : Int32} {u : Mm} (h : md_round μ a1 a2 a3 = some (v, u)) : Cti l g A wm yX12_round cX12_round 5 (some .int) 3 [.ref (ad g 0), .int a1, .int a2, .int a3] μ v u := by
  refine ent (lv := [(0, .ref (ad g 0)), (1, .int a1), (2, .int a2), (3, .int a3)]) (by decide) (Nat.le_of_ble_eq_true rfl) rfl ?_
  intro p e s m args below meth c hC hr hlocks hnm hW ls hl
  replace hC : Cx g RX12 cX12_round 5 p s m args c := hC
  obtain ⟨hx, hb, hml, hown, hts, hK, hN⟩ := id hC
  unfold md_round at h
  refine lv_iload_n hx hb dX12_round_0 rfl (lv_at hl 1 rfl) ?_
  obtain ⟨x1, hx1, h⟩ := mbv_some h
  refine kr_ci hC hW (kr_runS hC hW hl.1 (t_md_isVan hx1) cw_X12_203 rfl rfl (Nat.le_of_ble_eq_true rfl) dX12_round_1 (by decide)) (fun H locs hW => ?_)
  refine lv_if_eq (tgt := 24) hx hb dX12_round_4 (by decide) (fun hc2 => ?_) (fun hc2 => ?_)
  · replace h := if_p hc2 h
    refine lv_iconst (v := (-1)) hx hb dX12_round_24 (by decide) ?_
    cases h
    exact kr_iret hC hr hlocks hW dX12_round_25
  · replace h := if_n hc2 h
    refine lv_iload_n hx hb dX12_round_7 rfl (lv_at hl 2 rfl) ?_
    obtain ⟨x3, hx3, h⟩ := mbv_some h
    refine kr_ci hC hW (kr_runS hC hW hl.1 (t_md_isDay hx3) cw_X12_349 rfl rfl (Nat.le_of_ble_eq_true rfl) dX12_round_8 (by decide)) (fun H locs hW => ?_)
    refine lv_if_eq (tgt := 24) hx hb dX12_round_11 (by decide) (fun hc4 => ?_) (fun hc4 => ?_)
    · replace h := if_p hc4 h
      refine lv_iconst (v := (-1)) hx hb dX12_round_24 (by decide) ?_
      cases h
      exact kr_iret hC hr hlocks hW dX12_round_25
    · replace h := if_n hc4 h
      refine lv_iload_n hx hb dX12_round_14 rfl (lv_at hl 3 rfl) ?_
      refine lv_iconst (v := (-1)) hx hb dX12_round_15 (by decide) ?_
      refine lv_bipush (v := 8) hx hb dX12_round_16 (by decide) ?_
      obtain ⟨x5, hx5, h⟩ := mbv_some h
      refine kr_ci hC hW (kr_runS hC hW hl.1 (t_md_in hx5) cw_X12_199 rfl rfl (Nat.le_of_ble_eq_true rfl) dX12_round_18 (by decide)) (fun H locs hW => ?_)
      refine lv_if_ne (tgt := 26) hx hb dX12_round_21 (by decide) (fun hc6 => ?_) (fun hc6 => ?_)
      · replace h := if_n hc6 h
        refine lv_aload_n hx hb dX12_round_26 rfl (lv_at hl 0 rfl) ?_
        refine lv_iload_n hx hb dX12_round_27 rfl (lv_at hl 1 rfl) ?_
        refine lv_iload_n hx hb dX12_round_28 rfl (lv_at hl 2 rfl) ?_
        obtain ⟨μ8, hxμ8, h⟩ := mbv_some h
        refine kr_cv hC hW (kr_runV hC hW hl.1 (t_md_laysVisits hxμ8) cw_X12_452 (wm_0 g μ) rfl rfl rfl (Nat.le_of_ble_eq_true rfl) dX12_round_29 (by decide)) (fun H locs hW => ?_)
        refine lv_aload_n hx hb dX12_round_32 rfl (lv_at hl 0 rfl) ?_
        refine gf_X12_442_m0 hC hW dX12_round_33 ?_
        refine lv_bipush (v := 8) hx hb dX12_round_36 (by decide) ?_
        refine lv_icmp_le (tgt := 44) hx hb dX12_round_38 (by decide) (fun hc9 => ?_) (fun hc9 => ?_)
        · replace h := if_p hc9 h
          refine lv_aload_n hx hb dX12_round_44 rfl (lv_at hl 0 rfl) ?_
          obtain ⟨x10, μ11, hx10, h⟩ := mbm_some h
          refine kr_ci hC hW (kr_runV hC hW hl.1 (t_md_miles hx10) cw_X12_455 (wm_0 g μ8) rfl rfl rfl (Nat.le_of_ble_eq_true rfl) dX12_round_45 (by decide)) (fun H locs hW => ?_)
          refine lv_istore (lv' := [(4, .int x10), (0, .ref (ad g 0)), (1, .int a1), (2, .int a2), (3, .int a3)]) hx hb dX12_round_48 hl (by decide) rfl (fun ls hl => ?_)
          refine lv_iload_n hx hb dX12_round_50 rfl (lv_at hl 4 rfl) ?_
          refine lv_iconst (v := (-1)) hx hb dX12_round_51 (by decide) ?_
          refine lv_icmp_ne (tgt := 58) hx hb dX12_round_52 (by decide) (fun hc12 => ?_) (fun hc12 => ?_)
          · replace h := if_n hc12 h
            refine lv_iload_n hx hb dX12_round_58 rfl (lv_at hl 4 rfl) ?_
            refine lv_bipush (v := 8) hx hb dX12_round_59 (by decide) ?_
            refine lv_icmp_ne (tgt := 77) hx hb dX12_round_61 (by decide) (fun hc13 => ?_) (fun hc13 => ?_)
            · replace h := if_n hc13 h
              refine lv_iload_n hx hb dX12_round_77 rfl (lv_at hl 4 rfl) ?_
              refine lv_aload_n hx hb dX12_round_78 rfl (lv_at hl 1 rfl) ?_
              refine gf_X12_442_m0 hC hW dX12_round_79 ?_
              refine lv_icmp_lt (tgt := 89) hx hb dX12_round_82 (by decide) (fun hc14 => ?_) (fun hc14 => ?_)
              · replace h := if_p hc14 h
                refine lv_aload_n hx hb dX12_round_89 rfl (lv_at hl 1 rfl) ?_
                refine lv_iload_n hx hb dX12_round_90 rfl (lv_at hl 4 rfl) ?_
                obtain ⟨x15, hx15, h⟩ := mbv_some h
                refine kr_ci hC hW (kr_runV hC hW hl.1 (t_md_stopAt hx15) cw_X12_461 (wm_0 g μ11) rfl rfl rfl (Nat.le_of_ble_eq_true rfl) dX12_round_91 (by decide)) (fun H locs hW => ?_)
                cases h
                exact kr_iret hC hr hlocks hW dX12_round_94
              · replace h := if_n hc14 h
                refine lv_iconst (v := (-1)) hx hb dX12_round_85 (by decide) ?_
                refine lv_goto (tgt := 94) hx hb dX12_round_86 (by decide) ?_
                cases h
                exact kr_iret hC hr hlocks hW dX12_round_94
            · replace h := if_p hc13 h
              refine lv_iload hx hb dX12_round_64 (lv_at hl 0 rfl) ?_
              refine lv_aload_n hx hb dX12_round_66 rfl (lv_at hl 1 rfl) ?_
              refine gf_X12_183_m0 hC hW dX12_round_67 ?_
              refine lv_imul hx hb dX12_round_70 ?_
              refine lv_aload_n hx hb dX12_round_71 rfl (lv_at hl 1 rfl) ?_
              obtain ⟨x16, hx16, h⟩ := mbv_some h
              refine kr_ci hC hW (kr_runV hC hW hl.1 (t_md_halts hx16) cw_X12_458 (wm_0 g μ11) rfl rfl rfl (Nat.le_of_ble_eq_true rfl) dX12_round_72 (by decide)) (fun H locs hW => ?_)
              refine lv_iadd hx hb dX12_round_75 ?_
              cases h
              exact kr_iret hC hr hlocks hW dX12_round_76
          · replace h := if_p hc12 h
            refine lv_iload hx hb dX12_round_55 (lv_at hl 0 rfl) ?_
            cases h
            exact kr_iret hC hr hlocks hW dX12_round_57
        · replace h := if_n hc9 h
          refine lv_bipush (v := (-2)) hx hb dX12_round_41 (by decide) ?_
          cases h
          exact kr_iret hC hr hlocks hW dX12_round_43
      · replace h := if_p hc6 h
        refine lv_iconst (v := (-1)) hx hb dX12_round_24 (by decide) ?_
        cases h
        exact kr_iret hC hr hlocks hW dX12_round_25
set_option maxHeartbeats 4000000 in
set_option maxRecDepth 100000 in
theorem tl_md_readersOf_4 (μ : Mm) (a1 : Int32) (hC : Cx g RX12 cX12_readersOf 4 p s m args c) {e0 : (Int32)} (kx0 : ∀ (ls : Array Slot) (H : Heap) (locs : List Loc), lv_has ls 4 [(2, .int e0)] → wP g wm A s.heap μ H locs → W p l e (rmD 0) s m args below meth c H locs 0 0 Q (F0 m 36 ls [])) : ∀ (n : Nat) (q : Int32 × Int32), miter (fun q => md_readersOf_b4 μ a1 q.1 q.2) n q = some e0 → ∀ (ls : Array Slot) (H : Heap) (locs : List Loc), lv_has ls 4 [(0, .ref (ad g 0)), (1, .int a1), (2, .int q.1), (3, .int q.2)] → wP g wm A s.heap μ H locs → W p l e (rmD 0) s m args below meth c H locs 0 0 Q (F0 m 4 ls []) := by
  obtain ⟨hx, hb, hml, hown, hts, hK, hN⟩ := id hC
  refine miter_ind (fun q r hf k1 k2 => ?_)
  obtain ⟨xs2, xs3⟩ := q
  intro ls H locs hl hW
  have h : md_readersOf_b4 μ a1 xs2 xs3 = some r := hf
  unfold md_readersOf_b4 at h
  refine lv_iload_n hx hb dX12_readersOf_4 rfl (lv_at hl 3 rfl) ?_
  refine lv_aload_n hx hb dX12_readersOf_5 rfl (lv_at hl 0 rfl) ?_
  refine gf_X12_193_m0 hC hW dX12_readersOf_6 ?_
  refine lv_icmp_ge (tgt := 36) hx hb dX12_readersOf_9 (by decide) (fun hc1 => ?_) (fun hc1 => ?_)
  · replace h := if_p hc1 h
    obtain rfl := k2 _ (Option.some.inj h).symm
    exact kx0 _ _ _ (lv_sub hl [2] rfl) hW
  · replace h := if_n hc1 h
    refine lv_iload_n hx hb dX12_readersOf_12 rfl (lv_at hl 2 rfl) ?_
    refine lv_aload_n hx hb dX12_readersOf_13 rfl (lv_at hl 0 rfl) ?_
    refine gf_X12_52_m0 hC hW dX12_readersOf_14 ?_
    refine lv_iload_n hx hb dX12_readersOf_17 rfl (lv_at hl 3 rfl) ?_
    obtain ⟨x2, ex2, hin, h⟩ := mrd_ex h
    refine kr_iald hC hW (wm_15 g μ) hin ex2 dX12_readersOf_18 ?_
    refine lv_iload_n hx hb dX12_readersOf_19 rfl (lv_at hl 1 rfl) ?_
    refine lv_icmp_ne (tgt := 27) hx hb dX12_readersOf_20 (by decide) (fun hc3 => ?_) (fun hc3 => ?_)
    · replace h := if_n hc3 h
      refine lv_iconst (v := 0) hx hb dX12_readersOf_27 (by decide) ?_
      refine lv_iadd hx hb dX12_readersOf_28 ?_
      refine lv_istore_n (lv' := [(2, .int (xs2 + 0)), (0, .ref (ad g 0)), (1, .int a1), (3, .int xs3)]) hx hb dX12_readersOf_29 rfl hl (by decide) rfl (fun ls hl => ?_)
      refine lv_iinc (v := (xs3 + 1)) (lv' := [(3, .int (xs3 + 1)), (2, .int (xs2 + 0)), (0, .ref (ad g 0)), (1, .int a1)]) hx hb dX12_readersOf_30 hl (k := 3) rfl (by rw [oi_1]) (by decide) rfl (fun ls hl => ?_)
      refine lv_goto (tgt := 4) hx hb dX12_readersOf_33 (by decide) ?_
      exact k1 ((xs2 + 0), (xs3 + 1)) (Option.some.inj h).symm _ _ _ (lv_sub hl [2, 3, 1, 0] rfl) hW
    · replace h := if_p hc3 h
      refine lv_iconst (v := 1) hx hb dX12_readersOf_23 (by decide) ?_
      refine lv_goto (tgt := 28) hx hb dX12_readersOf_24 (by decide) ?_
      refine lv_iadd hx hb dX12_readersOf_28 ?_
      refine lv_istore_n (lv' := [(2, .int (xs2 + 1)), (0, .ref (ad g 0)), (1, .int a1), (3, .int xs3)]) hx hb dX12_readersOf_29 rfl hl (by decide) rfl (fun ls hl => ?_)
      refine lv_iinc (v := (xs3 + 1)) (lv' := [(3, .int (xs3 + 1)), (2, .int (xs2 + 1)), (0, .ref (ad g 0)), (1, .int a1)]) hx hb dX12_readersOf_30 hl (k := 3) rfl (by rw [oi_1]) (by decide) rfl (fun ls hl => ?_)
      refine lv_goto (tgt := 4) hx hb dX12_readersOf_33 (by decide) ?_
      exact k1 ((xs2 + 1), (xs3 + 1)) (Option.some.inj h).symm _ _ _ (lv_sub hl [2, 3, 1, 0] rfl) hW
set_option maxHeartbeats 4000000 in
set_option maxRecDepth 100000 in
theorem t_md_readersOf {l : Launch} {g : Gx} {A : Nat → Prop} {μ : Mm} {a1 : Int32} {v : Int32} (h : md_readersOf μ a1 = some v) : Cti l g A wm yX12_readersOf cX12_readersOf 4 (some .int) 0 [.ref (ad g 0), .int a1] μ v μ := by
  refine ent (lv := [(0, .ref (ad g 0)), (1, .int a1)]) (by decide) (Nat.le_of_ble_eq_true rfl) rfl ?_
  intro p e s m args below meth c hC hr hlocks hnm hW ls hl
  replace hC : Cx g RX12 cX12_readersOf 4 p s m args c := hC
  obtain ⟨hx, hb, hml, hown, hts, hK, hN⟩ := id hC
  unfold md_readersOf at h
  refine lv_iconst (v := 0) hx hb dX12_readersOf_0 (by decide) ?_
  refine lv_istore_n (lv' := [(2, .int 0), (0, .ref (ad g 0)), (1, .int a1)]) hx hb dX12_readersOf_1 rfl hl (by decide) rfl (fun ls hl => ?_)
  refine lv_iconst (v := 0) hx hb dX12_readersOf_2 (by decide) ?_
  refine lv_istore_n (lv' := [(3, .int 0), (2, .int 0), (0, .ref (ad g 0)), (1, .int a1)]) hx hb dX12_readersOf_3 rfl hl (by decide) rfl (fun ls hl => ?_)
  obtain ⟨x4, he5, h⟩ := mbv_some h
  refine tl_md_readersOf_4 μ a1 hC (fun ls H locs hl hW => ?_) FU (0, 0) he5 _ _ _ (lv_sub hl [2, 3, 1, 0] rfl) hW
  refine lv_iload_n hx hb dX12_readersOf_36 rfl (lv_at hl 0 rfl) ?_
  cases h
  exact kr_iret hC hr hlocks hW dX12_readersOf_37
set_option maxHeartbeats 4000000 in
set_option maxRecDepth 100000 in
theorem t_md_went {l : Launch} {g : Gx} {A : Nat → Prop} {μ : Mm} {a1 : Int32} {a2 : Int32} {v : Int32} {u : Mm} (h : md_went μ a1 a2 = some (v, u)) : Cti l g A wm yX12_went cX12_went 4 (some .int) 2 [.ref (ad g 0), .int a1, .int a2] μ v u := by
  refine ent (lv := [(0, .ref (ad g 0)), (1, .int a1), (2, .int a2)]) (by decide) (Nat.le_of_ble_eq_true rfl) rfl ?_
  intro p e s m args below meth c hC hr hlocks hnm hW ls hl
  replace hC : Cx g RX12 cX12_went 4 p s m args c := hC
  obtain ⟨hx, hb, hml, hown, hts, hK, hN⟩ := id hC
  unfold md_went at h
  refine lv_aload_n hx hb dX12_went_0 rfl (lv_at hl 0 rfl) ?_
  refine lv_iload_n hx hb dX12_went_1 rfl (lv_at hl 1 rfl) ?_
  obtain ⟨x1, hx1, h⟩ := mbv_some h
  refine kr_ci hC hW (kr_runV hC hW hl.1 (t_md_isStop hx1) cw_X12_211 (wm_0 g μ) rfl rfl rfl (Nat.le_of_ble_eq_true rfl) dX12_went_2 (by decide)) (fun H locs hW => ?_)
  refine lv_if_eq (tgt := 17) hx hb dX12_went_5 (by decide) (fun hc2 => ?_) (fun hc2 => ?_)
  · replace h := if_p hc2 h
    refine lv_iconst (v := (-1)) hx hb dX12_went_17 (by decide) ?_
    cases h
    exact kr_iret hC hr hlocks hW dX12_went_18
  · replace h := if_n hc2 h
    refine lv_iload_n hx hb dX12_went_8 rfl (lv_at hl 2 rfl) ?_
    refine lv_iconst (v := 0) hx hb dX12_went_9 (by decide) ?_
    refine lv_iconst (v := 2) hx hb dX12_went_10 (by decide) ?_
    obtain ⟨x3, hx3, h⟩ := mbv_some h
    refine kr_ci hC hW (kr_runS hC hW hl.1 (t_md_in hx3) cw_X12_199 rfl rfl (Nat.le_of_ble_eq_true rfl) dX12_went_11 (by decide)) (fun H locs hW => ?_)
    refine lv_if_ne (tgt := 19) hx hb dX12_went_14 (by decide) (fun hc4 => ?_) (fun hc4 => ?_)
    · replace h := if_n hc4 h
      refine lv_iload_n hx hb dX12_went_19 rfl (lv_at hl 2 rfl) ?_
      refine lv_iconst (v := 1) hx hb dX12_went_20 (by decide) ?_
      refine lv_icmp_ne (tgt := 30) hx hb dX12_went_21 (by decide) (fun hc5 => ?_) (fun hc5 => ?_)
      · replace h := if_n hc5 h
        refine lv_iload_n hx hb dX12_went_30 rfl (lv_at hl 2 rfl) ?_
        refine lv_iconst (v := 2) hx hb dX12_went_31 (by decide) ?_
        refine lv_icmp_ne (tgt := 42) hx hb dX12_went_32 (by decide) (fun hc6 => ?_) (fun hc6 => ?_)
        · replace h := if_n hc6 h
          refine lv_aload_n hx hb dX12_went_42 rfl (lv_at hl 0 rfl) ?_
          refine gf_X12_46_m0 hC hW dX12_went_43 ?_
          refine lv_iload_n hx hb dX12_went_46 rfl (lv_at hl 1 rfl) ?_
          obtain ⟨x7, ex7, hin, h⟩ := mrd_ex h
          refine kr_iald hC hW (wm_13 g μ) hin ex7 dX12_went_47 ?_
          refine lv_iconst (v := (-1)) hx hb dX12_went_48 (by decide) ?_
          refine lv_icmp_ne (tgt := 54) hx hb dX12_went_49 (by decide) (fun hc8 => ?_) (fun hc8 => ?_)
          · replace h := if_n hc8 h
            refine lv_aload_n hx hb dX12_went_54 rfl (lv_at hl 0 rfl) ?_
            refine lv_aload_n hx hb dX12_went_55 rfl (lv_at hl 0 rfl) ?_
            refine gf_X12_46_m0 hC hW dX12_went_56 ?_
            refine lv_iload_n hx hb dX12_went_59 rfl (lv_at hl 1 rfl) ?_
            obtain ⟨x9, ex9, hin, h⟩ := mrd_ex h
            refine kr_iald hC hW (wm_13 g μ) hin ex9 dX12_went_60 ?_
            refine lv_aload_n hx hb dX12_went_61 rfl (lv_at hl 0 rfl) ?_
            refine gf_X12_49_m0 hC hW dX12_went_62 ?_
            refine lv_iload_n hx hb dX12_went_65 rfl (lv_at hl 1 rfl) ?_
            obtain ⟨x10, ex10, hin, h⟩ := mrd_ex h
            refine kr_iald hC hW (wm_14 g μ) hin ex10 dX12_went_66 ?_
            refine lv_iconst (v := (-1)) hx hb dX12_went_67 (by decide) ?_
            obtain ⟨μ12, hxμ12, h⟩ := mbv_some h
            refine kr_cv hC hW (kr_runV hC hW hl.1 (t_md_laysTold hxμ12) cw_X12_467 (wm_0 g μ) rfl rfl rfl (Nat.le_of_ble_eq_true rfl) dX12_went_68 (by decide)) (fun H locs hW => ?_)
            refine lv_aload_n hx hb dX12_went_71 rfl (lv_at hl 0 rfl) ?_
            refine gf_X12_442_m0 hC hW dX12_went_72 ?_
            refine lv_bipush (v := 8) hx hb dX12_went_75 (by decide) ?_
            refine lv_icmp_le (tgt := 83) hx hb dX12_went_77 (by decide) (fun hc13 => ?_) (fun hc13 => ?_)
            · replace h := if_p hc13 h
              refine lv_aload_n hx hb dX12_went_83 rfl (lv_at hl 0 rfl) ?_
              obtain ⟨x14, μ15, hx14, h⟩ := mbm_some h
              refine kr_ci hC hW (kr_runV hC hW hl.1 (t_md_miles hx14) cw_X12_455 (wm_0 g μ12) rfl rfl rfl (Nat.le_of_ble_eq_true rfl) dX12_went_84 (by decide)) (fun H locs hW => ?_)
              refine lv_istore_n (lv' := [(3, .int x14), (0, .ref (ad g 0)), (1, .int a1), (2, .int a2)]) hx hb dX12_went_87 rfl hl (by decide) rfl (fun ls hl => ?_)
              refine lv_aload_n hx hb dX12_went_88 rfl (lv_at hl 1 rfl) ?_
              refine lv_aload_n hx hb dX12_went_89 rfl (lv_at hl 1 rfl) ?_
              refine gf_X12_46_m0 hC hW dX12_went_90 ?_
              refine lv_iload_n hx hb dX12_went_93 rfl (lv_at hl 2 rfl) ?_
              obtain ⟨x16, ex16, hin, h⟩ := mrd_ex h
              refine kr_iald hC hW (wm_13 g μ15) hin ex16 dX12_went_94 ?_
              refine lv_aload_n hx hb dX12_went_95 rfl (lv_at hl 1 rfl) ?_
              refine gf_X12_49_m0 hC hW dX12_went_96 ?_
              refine lv_iload_n hx hb dX12_went_99 rfl (lv_at hl 2 rfl) ?_
              obtain ⟨x17, ex17, hin, h⟩ := mrd_ex h
              refine kr_iald hC hW (wm_14 g μ15) hin ex17 dX12_went_100 ?_
              refine lv_iload_n hx hb dX12_went_101 rfl (lv_at hl 2 rfl) ?_
              obtain ⟨μ19, hxμ19, h⟩ := mbv_some h
              refine kr_cv hC hW (kr_runV hC hW hl.1 (t_md_laysTold hxμ19) cw_X12_467 (wm_0 g μ15) rfl rfl rfl (Nat.le_of_ble_eq_true rfl) dX12_went_102 (by decide)) (fun H locs hW => ?_)
              refine lv_iload_n hx hb dX12_went_105 rfl (lv_at hl 0 rfl) ?_
              refine lv_aload_n hx hb dX12_went_106 rfl (lv_at hl 1 rfl) ?_
              obtain ⟨x20, μ21, hx20, h⟩ := mbm_some h
              refine kr_ci hC hW (kr_runV hC hW hl.1 (t_md_miles hx20) cw_X12_455 (wm_0 g μ19) rfl rfl rfl (Nat.le_of_ble_eq_true rfl) dX12_went_107 (by decide)) (fun H locs hW => ?_)
              refine lv_isub hx hb dX12_went_110 ?_
              cases h
              exact kr_iret hC hr hlocks hW dX12_went_111
            · replace h := if_n hc13 h
              refine lv_bipush (v := (-2)) hx hb dX12_went_80 (by decide) ?_
              cases h
              exact kr_iret hC hr hlocks hW dX12_went_82
          · replace h := if_p hc8 h
            refine lv_iconst (v := 0) hx hb dX12_went_52 (by decide) ?_
            cases h
            exact kr_iret hC hr hlocks hW dX12_went_53
        · replace h := if_p hc6 h
          refine lv_aload_n hx hb dX12_went_35 rfl (lv_at hl 0 rfl) ?_
          refine gf_X12_86_m0 hC hW dX12_went_36 ?_
          refine lv_iload_n hx hb dX12_went_39 rfl (lv_at hl 1 rfl) ?_
          obtain ⟨x22, ex22, hin, h⟩ := mrd_ex h
          refine kr_iald hC hW (wm_26 g μ) hin ex22 dX12_went_40 ?_
          cases h
          exact kr_iret hC hr hlocks hW dX12_went_41
      · replace h := if_p hc5 h
        refine lv_aload_n hx hb dX12_went_24 rfl (lv_at hl 0 rfl) ?_
        refine lv_iload_n hx hb dX12_went_25 rfl (lv_at hl 1 rfl) ?_
        obtain ⟨x23, hx23, h⟩ := mbv_some h
        refine kr_ci hC hW (kr_runV hC hW hl.1 (t_md_readersOf hx23) cw_X12_464 (wm_0 g μ) rfl rfl rfl (Nat.le_of_ble_eq_true rfl) dX12_went_26 (by decide)) (fun H locs hW => ?_)
        cases h
        exact kr_iret hC hr hlocks hW dX12_went_29
    · replace h := if_p hc4 h
      refine lv_iconst (v := (-1)) hx hb dX12_went_17 (by decide) ?_
      cases h
      exact kr_iret hC hr hlocks hW dX12_went_18
set_option maxHeartbeats 4000000 in
set_option maxRecDepth 100000 in
theorem tl_md_growsBy_67 (a3 : Int32) (a4 : Int32) (a5 : Int32) (hC : Cx g RX12 cX12_growsBy 8 p s m args c) {e0 : (Int32 × Mm)} (kx0 : ∀ (ls : Array Slot) (H : Heap) (locs : List Loc), lv_has ls 8 [(0, .ref (ad g 0)), (3, .int a3), (4, .int a4), (5, .int a5), (6, .int e0.1)] → wP g wm A s.heap e0.2 H locs → W p l e (rmD 3) s m args below meth c H locs 0 0 Q (F0 m 110 ls [])) : ∀ (n : Nat) (q : Int32 × Mm), miter (fun q => md_growsBy_b67 q.2 a3 a4 a5 q.1) n q = some e0 → ∀ (ls : Array Slot) (H : Heap) (locs : List Loc), lv_has ls 8 [(0, .ref (ad g 0)), (3, .int a3), (4, .int a4), (5, .int a5), (6, .int q.1)] → wP g wm A s.heap q.2 H locs → W p l e (rmD 3) s m args below meth c H locs 0 0 Q (F0 m 67 ls []) := by
  obtain ⟨hx, hb, hml, hown, hts, hK, hN⟩ := id hC
  refine miter_ind (fun q r hf k1 k2 => ?_)
  obtain ⟨xs6, μ⟩ := q
  intro ls H locs hl hW
  have h : md_growsBy_b67 μ a3 a4 a5 xs6 = some r := hf
  unfold md_growsBy_b67 at h
  refine lv_iload hx hb dX12_growsBy_67 (lv_at hl 4 rfl) ?_
  refine lv_if_le (tgt := 110) hx hb dX12_growsBy_69 (by decide) (fun hc11 => ?_) (fun hc11 => ?_)
  · replace h := if_p hc11 h
    obtain rfl := k2 _ (Option.some.inj h).symm
    exact kx0 _ _ _ (lv_sub hl [0, 1, 2, 3, 4] rfl) hW
  · replace h := if_n hc11 h
    refine lv_aload_n hx hb dX12_growsBy_72 rfl (lv_at hl 0 rfl) ?_
    refine gf_X12_177_m0 hC hW dX12_growsBy_73 ?_
    refine lv_iload hx hb dX12_growsBy_76 (lv_at hl 4 rfl) ?_
    refine lv_iconst (v := 1) hx hb dX12_growsBy_78 (by decide) ?_
    refine lv_isub hx hb dX12_growsBy_79 ?_
    obtain ⟨x12, ex12, hin, h⟩ := mrd_ex h
    refine kr_iald hC hW (wm_56 g μ) hin ex12 dX12_growsBy_80 ?_
    refine lv_iload_n hx hb dX12_growsBy_81 rfl (lv_at hl 1 rfl) ?_
    refine lv_icmp_le (tgt := 110) hx hb dX12_growsBy_82 (by decide) (fun hc13 => ?_) (fun hc13 => ?_)
    · replace h := if_p hc13 h
      obtain rfl := k2 _ (Option.some.inj h).symm
      exact kx0 _ _ _ (lv_sub hl [0, 1, 2, 3, 4] rfl) hW
    · replace h := if_n hc13 h
      refine lv_aload_n hx hb dX12_growsBy_85 rfl (lv_at hl 0 rfl) ?_
      refine gf_X12_177_m0 hC hW dX12_growsBy_86 ?_
      refine lv_iload hx hb dX12_growsBy_89 (lv_at hl 4 rfl) ?_
      refine lv_aload_n hx hb dX12_growsBy_91 rfl (lv_at hl 0 rfl) ?_
      refine gf_X12_177_m0 hC hW dX12_growsBy_92 ?_
      refine lv_iload hx hb dX12_growsBy_95 (lv_at hl 4 rfl) ?_
      refine lv_iconst (v := 1) hx hb dX12_growsBy_97 (by decide) ?_
      refine lv_isub hx hb dX12_growsBy_98 ?_
      obtain ⟨x14, ex14, hin, h⟩ := mrd_ex h
      refine kr_iald hC hW (wm_56 g μ) hin ex14 dX12_growsBy_99 ?_
      obtain ⟨μ15, eμ15, hin, h⟩ := mwr_ex h
      refine kr_iast hC hW (wm_56 g μ) (wms_56 eμ15) hin dX12_growsBy_100 (fun H locs hW => ?_)
      refine lv_iload hx hb dX12_growsBy_101 (lv_at hl 4 rfl) ?_
      refine lv_iconst (v := 1) hx hb dX12_growsBy_103 (by decide) ?_
      refine lv_isub hx hb dX12_growsBy_104 ?_
      refine lv_istore (lv' := [(6, .int (xs6 - 1)), (0, .ref (ad g 0)), (3, .int a3), (4, .int a4), (5, .int a5)]) hx hb dX12_growsBy_105 hl (by decide) rfl (fun ls hl => ?_)
      refine lv_goto (tgt := 67) hx hb dX12_growsBy_107 (by decide) ?_
      exact k1 ((xs6 - 1), μ15) (Option.some.inj h).symm _ _ _ (lv_sub hl [1, 2, 3, 4, 0] rfl) hW
set_option maxHeartbeats 4000000 in
set_option maxRecDepth 100000 in
theorem tj_md_growsBy_110 {μ : Mm} (a3 : Int32) (a4 : Int32) (a5 : Int32) (a6 : Int32) (hC : Cx g RX12 cX12_growsBy 8 p s m args c) (hr : meth.sig.returnType = some .int) (hlocks : meth.locks = false) {v : Int32} {u : Mm} (hl : lv_has ls 8 [(0, .ref (ad g 0)), (3, .int a3), (4, .int a4), (5, .int a5), (6, .int a6)]) (hW : wP g wm A s.heap μ H locs) (h : md_growsBy_j110 μ a3 a4 a5 a6 = some (v, u)) : W p l e (rmD 3) s m args below meth c H locs 0 0 (MQ below (Qi g A wm v u) args s 0 0 A) (F0 m 110 ls []) := by
  obtain ⟨hx, hb, hml, hown, hts, hK, hN⟩ := id hC
  unfold md_growsBy_j110 at h
  refine lv_aload_n hx hb dX12_growsBy_110 rfl (lv_at hl 0 rfl) ?_
  refine gf_X12_177_m0 hC hW dX12_growsBy_111 ?_
  refine lv_iload hx hb dX12_growsBy_114 (lv_at hl 4 rfl) ?_
  refine lv_iload_n hx hb dX12_growsBy_116 rfl (lv_at hl 1 rfl) ?_
  obtain ⟨μ18, eμ18, hin, h⟩ := mwr_ex h
  refine kr_iast hC hW (wm_56 g μ) (wms_56 eμ18) hin dX12_growsBy_117 (fun H locs hW => ?_)
  refine lv_aload_n hx hb dX12_growsBy_118 rfl (lv_at hl 0 rfl) ?_
  refine lv_aload_n hx hb dX12_growsBy_119 rfl (lv_at hl 0 rfl) ?_
  refine gf_X12_442_m0 hC hW dX12_growsBy_120 ?_
  refine lv_iconst (v := 1) hx hb dX12_growsBy_123 (by decide) ?_
  refine lv_iadd hx hb dX12_growsBy_124 ?_
  obtain ⟨μ19, eμ19, h⟩ := mst_some h
  refine pf_X12_442_m0 hC hW eμ19 dX12_growsBy_125 (fun H locs hW => ?_)
  refine lv_aload_n hx hb dX12_growsBy_128 rfl (lv_at hl 0 rfl) ?_
  obtain ⟨x20, μ21, hx20, h⟩ := mbm_some h
  refine kr_ci hC hW (kr_runV hC hW hl.1 (t_md_miles hx20) cw_X12_455 (wm_0 g μ19) rfl rfl rfl (Nat.le_of_ble_eq_true rfl) dX12_growsBy_129 (by decide)) (fun H locs hW => ?_)
  refine lv_istore (lv' := [(7, .int x20), (0, .ref (ad g 0)), (3, .int a3), (4, .int a4), (5, .int a5), (6, .int a6)]) hx hb dX12_growsBy_132 hl (by decide) rfl (fun ls hl => ?_)
  refine lv_iload hx hb dX12_growsBy_134 (lv_at hl 0 rfl) ?_
  refine lv_aload_n hx hb dX12_growsBy_136 rfl (lv_at hl 1 rfl) ?_
  refine gf_X12_183_m0 hC hW dX12_growsBy_137 ?_
  refine lv_imul hx hb dX12_growsBy_140 ?_
  refine lv_aload_n hx hb dX12_growsBy_141 rfl (lv_at hl 1 rfl) ?_
  obtain ⟨x22, hx22, h⟩ := mbv_some h
  refine kr_ci hC hW (kr_runV hC hW hl.1 (t_md_halts hx22) cw_X12_458 (wm_0 g μ21) rfl rfl rfl (Nat.le_of_ble_eq_true rfl) dX12_growsBy_142 (by decide)) (fun H locs hW => ?_)
  refine lv_iadd hx hb dX12_growsBy_145 ?_
  refine lv_iload hx hb dX12_growsBy_146 (lv_at hl 3 rfl) ?_
  refine lv_icmp_le (tgt := 155) hx hb dX12_growsBy_148 (by decide) (fun hc23 => ?_) (fun hc23 => ?_)
  · replace h := if_p hc23 h
    refine lv_iload hx hb dX12_growsBy_155 (lv_at hl 0 rfl) ?_
    refine lv_iload hx hb dX12_growsBy_157 (lv_at hl 4 rfl) ?_
    refine lv_isub hx hb dX12_growsBy_159 ?_
    cases h
    exact kr_iret hC hr hlocks hW dX12_growsBy_160
  · replace h := if_n hc23 h
    refine lv_iconst (v := (-1)) hx hb dX12_growsBy_151 (by decide) ?_
    refine lv_goto (tgt := 160) hx hb dX12_growsBy_152 (by decide) ?_
    cases h
    exact kr_iret hC hr hlocks hW dX12_growsBy_160
set_option maxHeartbeats 4000000 in
set_option maxRecDepth 100000 in
theorem t_md_growsBy {l : Launch} {g : Gx} {A : Nat → Prop} {μ : Mm} {a1 : Int32} {a2 : Int32} {a3 : Int32} {a4 : Int32} {v : Int32} {u : Mm} (h : md_growsBy μ a1 a2 a3 a4 = some (v, u)) : Cti l g A wm yX12_growsBy cX12_growsBy 8 (some .int) 3 [.ref (ad g 0), .int a1, .int a2, .int a3, .int a4] μ v u := by
  refine ent (lv := [(0, .ref (ad g 0)), (1, .int a1), (2, .int a2), (3, .int a3), (4, .int a4)]) (by decide) (Nat.le_of_ble_eq_true rfl) rfl ?_
  intro p e s m args below meth c hC hr hlocks hnm hW ls hl
  replace hC : Cx g RX12 cX12_growsBy 8 p s m args c := hC
  obtain ⟨hx, hb, hml, hown, hts, hK, hN⟩ := id hC
  unfold md_growsBy at h
  refine lv_aload_n hx hb dX12_growsBy_0 rfl (lv_at hl 0 rfl) ?_
  refine lv_iload_n hx hb dX12_growsBy_1 rfl (lv_at hl 1 rfl) ?_
  refine lv_iload_n hx hb dX12_growsBy_2 rfl (lv_at hl 2 rfl) ?_
  obtain ⟨μ2, hxμ2, h⟩ := mbv_some h
  refine kr_cv hC hW (kr_runV hC hW hl.1 (t_md_laysVisits hxμ2) cw_X12_452 (wm_0 g μ) rfl rfl rfl (Nat.le_of_ble_eq_true rfl) dX12_growsBy_3 (by decide)) (fun H locs hW => ?_)
  refine lv_aload_n hx hb dX12_growsBy_6 rfl (lv_at hl 0 rfl) ?_
  refine gf_X12_74_m0 hC hW dX12_growsBy_7 ?_
  refine lv_sipush (v := 200) hx hb dX12_growsBy_10 (by decide) ?_
  refine lv_iload_n hx hb dX12_growsBy_13 rfl (lv_at hl 1 rfl) ?_
  refine lv_imul hx hb dX12_growsBy_14 ?_
  refine lv_iload_n hx hb dX12_growsBy_15 rfl (lv_at hl 2 rfl) ?_
  refine lv_iadd hx hb dX12_growsBy_16 ?_
  obtain ⟨x3, ex3, hin, h⟩ := mrd_ex h
  refine kr_zald hC hW (wm_22 g μ2) hin ex3 dX12_growsBy_17 ?_
  refine lv_if_ne (tgt := 30) hx hb dX12_growsBy_18 (by decide) (fun hc4 => ?_) (fun hc4 => ?_)
  · replace h := if_n hc4 h
    refine lv_iconst (v := (-1)) hx hb dX12_growsBy_30 (by decide) ?_
    cases h
    exact kr_iret hC hr hlocks hW dX12_growsBy_31
  · replace h := if_p hc4 h
    refine lv_aload_n hx hb dX12_growsBy_21 rfl (lv_at hl 0 rfl) ?_
    refine gf_X12_442_m0 hC hW dX12_growsBy_22 ?_
    refine lv_bipush (v := 8) hx hb dX12_growsBy_25 (by decide) ?_
    refine lv_icmp_le (tgt := 32) hx hb dX12_growsBy_27 (by decide) (fun hc5 => ?_) (fun hc5 => ?_)
    · replace h := if_p hc5 h
      refine lv_aload_n hx hb dX12_growsBy_32 rfl (lv_at hl 0 rfl) ?_
      refine lv_iload_n hx hb dX12_growsBy_33 rfl (lv_at hl 1 rfl) ?_
      refine lv_iload_n hx hb dX12_growsBy_34 rfl (lv_at hl 3 rfl) ?_
      refine lv_iload_n hx hb dX12_growsBy_35 rfl (lv_at hl 2 rfl) ?_
      obtain ⟨x6, hx6, h⟩ := mbv_some h
      refine kr_ci hC hW (kr_runV hC hW hl.1 (t_md_isVisited hx6) cw_X12_346 (wm_0 g μ2) rfl rfl rfl (Nat.le_of_ble_eq_true rfl) dX12_growsBy_36 (by decide)) (fun H locs hW => ?_)
      refine lv_if_eq (tgt := 44) hx hb dX12_growsBy_39 (by decide) (fun hc7 => ?_) (fun hc7 => ?_)
      · replace h := if_p hc7 h
        refine lv_aload_n hx hb dX12_growsBy_44 rfl (lv_at hl 0 rfl) ?_
        refine gf_X12_442_m0 hC hW dX12_growsBy_45 ?_
        refine lv_bipush (v := 8) hx hb dX12_growsBy_48 (by decide) ?_
        refine lv_icmp_ne (tgt := 55) hx hb dX12_growsBy_50 (by decide) (fun hc8 => ?_) (fun hc8 => ?_)
        · replace h := if_n hc8 h
          refine lv_aload_n hx hb dX12_growsBy_55 rfl (lv_at hl 0 rfl) ?_
          obtain ⟨x9, μ10, hx9, h⟩ := mbm_some h
          refine kr_ci hC hW (kr_runV hC hW hl.1 (t_md_miles hx9) cw_X12_455 (wm_0 g μ2) rfl rfl rfl (Nat.le_of_ble_eq_true rfl) dX12_growsBy_56 (by decide)) (fun H locs hW => ?_)
          refine lv_istore (lv' := [(5, .int x9), (0, .ref (ad g 0)), (1, .int a1), (2, .int a2), (3, .int a3), (4, .int a4)]) hx hb dX12_growsBy_59 hl (by decide) rfl (fun ls hl => ?_)
          refine lv_aload_n hx hb dX12_growsBy_61 rfl (lv_at hl 1 rfl) ?_
          refine gf_X12_442_m0 hC hW dX12_growsBy_62 ?_
          refine lv_istore (lv' := [(6, .int (μ10 0 77)), (5, .int x9), (0, .ref (ad g 0)), (1, .int a1), (2, .int a2), (3, .int a3), (4, .int a4)]) hx hb dX12_growsBy_65 hl (by decide) rfl (fun ls hl => ?_)
          obtain ⟨e0, he24, h⟩ := mbv_some h
          obtain ⟨x16, μ17, ee, h9⟩ := un2_ex h
          clear h
          subst ee
          have h := h9
          clear h9
          refine tl_md_growsBy_67 a3 a4 x9 hC (fun ls H locs hl hW => ?_) FU ((μ10 0 77), μ10) he24 _ _ _ (lv_sub hl [2, 5, 6, 1, 0] rfl) hW
          exact tj_md_growsBy_110 a3 a4 x9 x16 hC hr hlocks (lv_sub hl [0, 1, 2, 3, 4] rfl) hW h
        · replace h := if_p hc8 h
          refine lv_iconst (v := (-1)) hx hb dX12_growsBy_53 (by decide) ?_
          cases h
          exact kr_iret hC hr hlocks hW dX12_growsBy_54
      · replace h := if_n hc7 h
        refine lv_iconst (v := 0) hx hb dX12_growsBy_42 (by decide) ?_
        cases h
        exact kr_iret hC hr hlocks hW dX12_growsBy_43
    · replace h := if_n hc5 h
      refine lv_iconst (v := (-1)) hx hb dX12_growsBy_30 (by decide) ?_
      cases h
      exact kr_iret hC hr hlocks hW dX12_growsBy_31
set_option maxHeartbeats 4000000 in
set_option maxRecDepth 100000 in
theorem tl_md_putsStop_34 (a1 : Int32) (a2 : Int32) (a3 : Int32) (a4 : Int32) (a6 : Int32) (hC : Cx g RX12 cX12_putsStop 9 p s m args c) {e0 : (Int32 × Mm)} (kx0 : ∀ (ls : Array Slot) (H : Heap) (locs : List Loc), lv_has ls 9 [(0, .ref (ad g 0)), (1, .int a1), (2, .int a2), (3, .int a3), (4, .int a4), (5, .int e0.1), (6, .int a6)] → wP g wm A s.heap e0.2 H locs → W p l e (rmD 4) s m args below meth c H locs 0 0 Q (F0 m 101 ls [])) : ∀ (n : Nat) (q : Int32 × Int32 × Mm), miter (fun q => md_putsStop_b34 q.2.2 a1 a2 a3 a4 a6 q.1 q.2.1) n q = some e0 → ∀ (ls : Array Slot) (H : Heap) (locs : List Loc), lv_has ls 9 [(0, .ref (ad g 0)), (1, .int a1), (2, .int a2), (3, .int a3), (4, .int a4), (5, .int q.1), (6, .int a6), (7, .int q.2.1)] → wP g wm A s.heap q.2.2 H locs → W p l e (rmD 4) s m args below meth c H locs 0 0 Q (F0 m 34 ls []) := by
  obtain ⟨hx, hb, hml, hown, hts, hK, hN⟩ := id hC
  refine miter_ind (fun q r hf k1 k2 => ?_)
  obtain ⟨xs5, xs7, μ⟩ := q
  intro ls H locs hl hW
  have h : md_putsStop_b34 μ a1 a2 a3 a4 a6 xs5 xs7 = some r := hf
  unfold md_putsStop_b34 at h
  refine lv_iload hx hb dX12_putsStop_34 (lv_at hl 7 rfl) ?_
  refine lv_iconst (v := 3) hx hb dX12_putsStop_36 (by decide) ?_
  refine lv_icmp_ge (tgt := 101) hx hb dX12_putsStop_37 (by decide) (fun hc4 => ?_) (fun hc4 => ?_)
  · replace h := if_p hc4 h
    obtain rfl := k2 _ (Option.some.inj h).symm
    exact kx0 _ _ _ (lv_sub hl [0, 1, 2, 3, 4, 5, 6] rfl) hW
  · replace h := if_n hc4 h
    refine lv_aload_n hx hb dX12_putsStop_40 rfl (lv_at hl 0 rfl) ?_
    refine lv_iload hx hb dX12_putsStop_41 (lv_at hl 7 rfl) ?_
    refine lv_iload hx hb dX12_putsStop_43 (lv_at hl 6 rfl) ?_
    refine lv_iload_n hx hb dX12_putsStop_45 rfl (lv_at hl 1 rfl) ?_
    refine lv_iload hx hb dX12_putsStop_46 (lv_at hl 4 rfl) ?_
    obtain ⟨x5, μ6, hx5, h⟩ := mbm_some h
    refine kr_ci hC hW (kr_runV hC hW hl.1 (t_md_growsBy hx5) cw_X12_470 (wm_0 g μ) rfl rfl rfl (Nat.le_of_ble_eq_true rfl) dX12_putsStop_48 (by decide)) (fun H locs hW => ?_)
    refine lv_istore (lv' := [(8, .int x5), (0, .ref (ad g 0)), (1, .int a1), (2, .int a2), (3, .int a3), (4, .int a4), (5, .int xs5), (6, .int a6), (7, .int xs7)]) hx hb dX12_putsStop_51 hl (by decide) rfl (fun ls hl => ?_)
    refine lv_iload hx hb dX12_putsStop_53 (lv_at hl 0 rfl) ?_
    refine lv_iconst (v := (-1)) hx hb dX12_putsStop_55 (by decide) ?_
    refine lv_icmp_eq (tgt := 95) hx hb dX12_putsStop_56 (by decide) (fun hc7 => ?_) (fun hc7 => ?_)
    · replace h := if_p hc7 h
      refine lv_iinc (v := (xs7 + 1)) (lv' := [(7, .int (xs7 + 1)), (8, .int x5), (0, .ref (ad g 0)), (1, .int a1), (2, .int a2), (3, .int a3), (4, .int a4), (5, .int xs5), (6, .int a6)]) hx hb dX12_putsStop_95 hl (k := 8) rfl (by rw [oi_1]) (by decide) rfl (fun ls hl => ?_)
      refine lv_goto (tgt := 34) hx hb dX12_putsStop_98 (by decide) ?_
      exact k1 (xs5, (xs7 + 1), μ6) (Option.some.inj h).symm _ _ _ (lv_sub hl [2, 3, 4, 5, 6, 7, 8, 0] rfl) hW
    · replace h := if_n hc7 h
      refine lv_iload hx hb dX12_putsStop_59 (lv_at hl 6 rfl) ?_
      refine lv_iconst (v := (-1)) hx hb dX12_putsStop_61 (by decide) ?_
      refine lv_icmp_eq (tgt := 75) hx hb dX12_putsStop_62 (by decide) (fun hc8 => ?_) (fun hc8 => ?_)
      · replace h := if_p hc8 h
        refine lv_iload hx hb dX12_putsStop_75 (lv_at hl 0 rfl) ?_
        refine lv_istore (lv' := [(5, .int x5), (8, .int x5), (0, .ref (ad g 0)), (1, .int a1), (2, .int a2), (3, .int a3), (4, .int a4), (6, .int a6), (7, .int xs7)]) hx hb dX12_putsStop_77 hl (by decide) rfl (fun ls hl => ?_)
        refine lv_aload_n hx hb dX12_putsStop_79 rfl (lv_at hl 2 rfl) ?_
        refine gf_X12_80_m0 hC hW dX12_putsStop_80 ?_
        refine lv_iload_n hx hb dX12_putsStop_83 rfl (lv_at hl 3 rfl) ?_
        refine lv_iload hx hb dX12_putsStop_84 (lv_at hl 7 rfl) ?_
        obtain ⟨μ9, eμ9, hin, h⟩ := mwr_ex h
        refine kr_iast hC hW (wm_24 g μ6) (wms_24 eμ9) hin dX12_putsStop_86 (fun H locs hW => ?_)
        refine lv_aload_n hx hb dX12_putsStop_87 rfl (lv_at hl 2 rfl) ?_
        refine gf_X12_83_m0 hC hW dX12_putsStop_88 ?_
        refine lv_iload_n hx hb dX12_putsStop_91 rfl (lv_at hl 3 rfl) ?_
        refine lv_iload hx hb dX12_putsStop_92 (lv_at hl 8 rfl) ?_
        obtain ⟨μ10, eμ10, hin, h⟩ := mwr_ex h
        refine kr_iast hC hW (wm_25 g μ9) (wms_25 eμ10) hin dX12_putsStop_94 (fun H locs hW => ?_)
        refine lv_iinc (v := (xs7 + 1)) (lv' := [(7, .int (xs7 + 1)), (5, .int x5), (8, .int x5), (0, .ref (ad g 0)), (1, .int a1), (2, .int a2), (3, .int a3), (4, .int a4), (6, .int a6)]) hx hb dX12_putsStop_95 hl (k := 8) rfl (by rw [oi_1]) (by decide) rfl (fun ls hl => ?_)
        refine lv_goto (tgt := 34) hx hb dX12_putsStop_98 (by decide) ?_
        exact k1 (x5, (xs7 + 1), μ10) (Option.some.inj h).symm _ _ _ (lv_sub hl [3, 4, 5, 6, 7, 1, 8, 0] rfl) hW
      · replace h := if_n hc8 h
        refine lv_iload hx hb dX12_putsStop_65 (lv_at hl 0 rfl) ?_
        refine lv_iload hx hb dX12_putsStop_67 (lv_at hl 6 rfl) ?_
        refine lv_icmp_lt (tgt := 75) hx hb dX12_putsStop_69 (by decide) (fun hc11 => ?_) (fun hc11 => ?_)
        · replace h := if_p hc11 h
          refine lv_iload hx hb dX12_putsStop_75 (lv_at hl 0 rfl) ?_
          refine lv_istore (lv' := [(5, .int x5), (8, .int x5), (0, .ref (ad g 0)), (1, .int a1), (2, .int a2), (3, .int a3), (4, .int a4), (6, .int a6), (7, .int xs7)]) hx hb dX12_putsStop_77 hl (by decide) rfl (fun ls hl => ?_)
          refine lv_aload_n hx hb dX12_putsStop_79 rfl (lv_at hl 2 rfl) ?_
          refine gf_X12_80_m0 hC hW dX12_putsStop_80 ?_
          refine lv_iload_n hx hb dX12_putsStop_83 rfl (lv_at hl 3 rfl) ?_
          refine lv_iload hx hb dX12_putsStop_84 (lv_at hl 7 rfl) ?_
          obtain ⟨μ12, eμ12, hin, h⟩ := mwr_ex h
          refine kr_iast hC hW (wm_24 g μ6) (wms_24 eμ12) hin dX12_putsStop_86 (fun H locs hW => ?_)
          refine lv_aload_n hx hb dX12_putsStop_87 rfl (lv_at hl 2 rfl) ?_
          refine gf_X12_83_m0 hC hW dX12_putsStop_88 ?_
          refine lv_iload_n hx hb dX12_putsStop_91 rfl (lv_at hl 3 rfl) ?_
          refine lv_iload hx hb dX12_putsStop_92 (lv_at hl 8 rfl) ?_
          obtain ⟨μ13, eμ13, hin, h⟩ := mwr_ex h
          refine kr_iast hC hW (wm_25 g μ12) (wms_25 eμ13) hin dX12_putsStop_94 (fun H locs hW => ?_)
          refine lv_iinc (v := (xs7 + 1)) (lv' := [(7, .int (xs7 + 1)), (5, .int x5), (8, .int x5), (0, .ref (ad g 0)), (1, .int a1), (2, .int a2), (3, .int a3), (4, .int a4), (6, .int a6)]) hx hb dX12_putsStop_95 hl (k := 8) rfl (by rw [oi_1]) (by decide) rfl (fun ls hl => ?_)
          refine lv_goto (tgt := 34) hx hb dX12_putsStop_98 (by decide) ?_
          exact k1 (x5, (xs7 + 1), μ13) (Option.some.inj h).symm _ _ _ (lv_sub hl [3, 4, 5, 6, 7, 1, 8, 0] rfl) hW
        · replace h := if_n hc11 h
          refine lv_goto (tgt := 95) hx hb dX12_putsStop_72 (by decide) ?_
          refine lv_iinc (v := (xs7 + 1)) (lv' := [(7, .int (xs7 + 1)), (8, .int x5), (0, .ref (ad g 0)), (1, .int a1), (2, .int a2), (3, .int a3), (4, .int a4), (5, .int xs5), (6, .int a6)]) hx hb dX12_putsStop_95 hl (k := 8) rfl (by rw [oi_1]) (by decide) rfl (fun ls hl => ?_)
          refine lv_goto (tgt := 34) hx hb dX12_putsStop_98 (by decide) ?_
          exact k1 (xs5, (xs7 + 1), μ6) (Option.some.inj h).symm _ _ _ (lv_sub hl [2, 3, 4, 5, 6, 7, 8, 0] rfl) hW
set_option maxHeartbeats 4000000 in
set_option maxRecDepth 100000 in
theorem tl_md_putsStop_15 (a1 : Int32) (a2 : Int32) (a3 : Int32) (a4 : Int32) (hC : Cx g RX12 cX12_putsStop 9 p s m args c) {e0 : (Int32 × Mm)} (kx0 : ∀ (ls : Array Slot) (H : Heap) (locs : List Loc), lv_has ls 9 [(0, .ref (ad g 0)), (1, .int a1), (5, .int e0.1)] → wP g wm A s.heap e0.2 H locs → W p l e (rmD 4) s m args below meth c H locs 0 0 Q (F0 m 107 ls [])) : ∀ (n : Nat) (q : Int32 × Int32 × Mm), miter (fun q => md_putsStop_b15 q.2.2 a1 a2 a3 a4 q.1 q.2.1) n q = some e0 → ∀ (ls : Array Slot) (H : Heap) (locs : List Loc), lv_has ls 9 [(0, .ref (ad g 0)), (1, .int a1), (2, .int a2), (3, .int a3), (4, .int a4), (5, .int q.1), (6, .int q.2.1)] → wP g wm A s.heap q.2.2 H locs → W p l e (rmD 4) s m args below meth c H locs 0 0 Q (F0 m 15 ls []) := by
  obtain ⟨hx, hb, hml, hown, hts, hK, hN⟩ := id hC
  refine miter_ind (fun q r hf k1 k2 => ?_)
  obtain ⟨xs5, xs6, μ⟩ := q
  intro ls H locs hl hW
  have h : md_putsStop_b15 μ a1 a2 a3 a4 xs5 xs6 = some r := hf
  unfold md_putsStop_b15 at h
  refine lv_iload hx hb dX12_putsStop_15 (lv_at hl 6 rfl) ?_
  refine lv_iload_n hx hb dX12_putsStop_17 rfl (lv_at hl 2 rfl) ?_
  refine lv_iload_n hx hb dX12_putsStop_18 rfl (lv_at hl 3 rfl) ?_
  refine lv_iadd hx hb dX12_putsStop_19 ?_
  refine lv_icmp_gt (tgt := 107) hx hb dX12_putsStop_20 (by decide) (fun hc2 => ?_) (fun hc2 => ?_)
  · replace h := if_p hc2 h
    obtain rfl := k2 _ (Option.some.inj h).symm
    exact kx0 _ _ _ (lv_sub hl [0, 1, 5] rfl) hW
  · replace h := if_n hc2 h
    refine lv_iload hx hb dX12_putsStop_23 (lv_at hl 6 rfl) ?_
    refine lv_sipush (v := 199) hx hb dX12_putsStop_25 (by decide) ?_
    refine lv_icmp_gt (tgt := 107) hx hb dX12_putsStop_28 (by decide) (fun hc3 => ?_) (fun hc3 => ?_)
    · replace h := if_p hc3 h
      obtain rfl := k2 _ (Option.some.inj h).symm
      exact kx0 _ _ _ (lv_sub hl [0, 1, 5] rfl) hW
    · replace h := if_n hc3 h
      refine lv_iconst (v := 0) hx hb dX12_putsStop_31 (by decide) ?_
      refine lv_istore (lv' := [(7, .int 0), (0, .ref (ad g 0)), (1, .int a1), (2, .int a2), (3, .int a3), (4, .int a4), (5, .int xs5), (6, .int xs6)]) hx hb dX12_putsStop_32 hl (by decide) rfl (fun ls hl => ?_)
      obtain ⟨e0, he16, h⟩ := mbv_some h
      obtain ⟨x14, μ15, ee, h9⟩ := un2_ex h
      clear h
      subst ee
      have h := h9
      clear h9
      refine tl_md_putsStop_34 a1 a2 a3 a4 xs6 hC (fun ls H locs hl hW => ?_) FU (xs5, 0, μ) he16 _ _ _ (lv_sub hl [1, 2, 3, 4, 5, 6, 7, 0] rfl) hW
      refine lv_iinc (v := (xs6 + 1)) (lv' := [(6, .int (xs6 + 1)), (0, .ref (ad g 0)), (1, .int a1), (2, .int a2), (3, .int a3), (4, .int a4), (5, .int x14)]) hx hb dX12_putsStop_101 hl (k := 6) rfl (by rw [oi_1]) (by decide) rfl (fun ls hl => ?_)
      refine lv_goto (tgt := 15) hx hb dX12_putsStop_104 (by decide) ?_
      exact k1 (x14, (xs6 + 1), μ15) (Option.some.inj h).symm _ _ _ (lv_sub hl [1, 2, 3, 4, 5, 6, 0] rfl) hW
set_option maxHeartbeats 4000000 in
set_option maxRecDepth 100000 in
theorem tj_md_putsStop_107 {μ : Mm} (a1 : Int32) (a5 : Int32) (hC : Cx g RX12 cX12_putsStop 9 p s m args c) (hr : meth.sig.returnType = some .boolean) (hlocks : meth.locks = false) {v : Bool} {u : Mm} (hl : lv_has ls 9 [(0, .ref (ad g 0)), (1, .int a1), (5, .int a5)]) (hW : wP g wm A s.heap μ H locs) (h : md_putsStop_j107 μ a1 a5 = some (v, u)) : W p l e (rmD 4) s m args below meth c H locs 0 0 (MQ below (Qi g A wm (bI v) u) args s 0 0 A) (F0 m 107 ls []) := by
  obtain ⟨hx, hb, hml, hown, hts, hK, hN⟩ := id hC
  unfold md_putsStop_j107 at h
  refine lv_iload hx hb dX12_putsStop_107 (lv_at hl 2 rfl) ?_
  refine lv_iconst (v := (-1)) hx hb dX12_putsStop_109 (by decide) ?_
  refine lv_icmp_ne (tgt := 115) hx hb dX12_putsStop_110 (by decide) (fun hc19 => ?_) (fun hc19 => ?_)
  · replace h := if_n hc19 h
    refine lv_aload_n hx hb dX12_putsStop_115 rfl (lv_at hl 0 rfl) ?_
    refine gf_X12_77_m0 hC hW dX12_putsStop_116 ?_
    refine lv_aload_n hx hb dX12_putsStop_119 rfl (lv_at hl 0 rfl) ?_
    refine gf_X12_83_m0 hC hW dX12_putsStop_120 ?_
    refine lv_iload_n hx hb dX12_putsStop_123 rfl (lv_at hl 1 rfl) ?_
    obtain ⟨x20, ex20, hin, h⟩ := mrd_ex h
    refine kr_iald hC hW (wm_25 g μ) hin ex20 dX12_putsStop_124 ?_
    refine lv_aload_n hx hb dX12_putsStop_125 rfl (lv_at hl 0 rfl) ?_
    refine gf_X12_80_m0 hC hW dX12_putsStop_126 ?_
    refine lv_iload_n hx hb dX12_putsStop_129 rfl (lv_at hl 1 rfl) ?_
    obtain ⟨x21, ex21, hin, h⟩ := mrd_ex h
    refine kr_iald hC hW (wm_24 g μ) hin ex21 dX12_putsStop_130 ?_
    refine lv_iload_n hx hb dX12_putsStop_131 rfl (lv_at hl 1 rfl) ?_
    obtain ⟨x22, hx22, h⟩ := mbv_some h
    refine kr_ci hC hW (kr_runS hC hW hl.1 (t_md_putAt hx22) cw_X12_343 rfl rfl (Nat.le_of_ble_eq_true rfl) dX12_putsStop_132 (by decide)) (fun H locs hW => ?_)
    refine lv_iconst (v := 1) hx hb dX12_putsStop_135 (by decide) ?_
    obtain ⟨μ23, eμ23, hin, h⟩ := mwr_ex h
    refine kr_zast hC hW (wm_23 g μ) (wms_23 eμ23) hin dX12_putsStop_136 (fun H locs hW => ?_)
    refine lv_iconst (v := 1) hx hb dX12_putsStop_137 (by decide) ?_
    cases h
    exact kr_zret hC hr hlocks _ rfl hW dX12_putsStop_138
  · replace h := if_p hc19 h
    refine lv_iconst (v := 0) hx hb dX12_putsStop_113 (by decide) ?_
    cases h
    exact kr_zret hC hr hlocks _ rfl hW dX12_putsStop_114
set_option maxHeartbeats 4000000 in
set_option maxRecDepth 100000 in
theorem t_md_putsStop {l : Launch} {g : Gx} {A : Nat → Prop} {μ : Mm} {a1 : Int32} {a2 : Int32} {a3 : Int32} {a4 : Int32} {v : Bool} {u : Mm} (h : md_putsStop μ a1 a2 a3 a4 = some (v, u)) : Cti l g A wm yX12_putsStop cX12_putsStop 9 (some .boolean) 4 [.ref (ad g 0), .int a1, .int a2, .int a3, .int a4] μ (bI v) u := by
  refine ent (lv := [(0, .ref (ad g 0)), (1, .int a1), (2, .int a2), (3, .int a3), (4, .int a4)]) (by decide) (Nat.le_of_ble_eq_true rfl) rfl ?_
  intro p e s m args below meth c hC hr hlocks hnm hW ls hl
  replace hC : Cx g RX12 cX12_putsStop 9 p s m args c := hC
  obtain ⟨hx, hb, hml, hown, hts, hK, hN⟩ := id hC
  unfold md_putsStop at h
  refine lv_iconst (v := (-1)) hx hb dX12_putsStop_0 (by decide) ?_
  refine lv_istore (lv' := [(5, .int (-1)), (0, .ref (ad g 0)), (1, .int a1), (2, .int a2), (3, .int a3), (4, .int a4)]) hx hb dX12_putsStop_1 hl (by decide) rfl (fun ls hl => ?_)
  refine lv_aload_n hx hb dX12_putsStop_3 rfl (lv_at hl 1 rfl) ?_
  refine gf_X12_80_m0 hC hW dX12_putsStop_4 ?_
  refine lv_iload_n hx hb dX12_putsStop_7 rfl (lv_at hl 2 rfl) ?_
  refine lv_iconst (v := (-1)) hx hb dX12_putsStop_8 (by decide) ?_
  obtain ⟨μ1, eμ1, hin, h⟩ := mwr_ex h
  refine kr_iast hC hW (wm_24 g μ) (wms_24 eμ1) hin dX12_putsStop_9 (fun H locs hW => ?_)
  refine lv_iload_n hx hb dX12_putsStop_10 rfl (lv_at hl 3 rfl) ?_
  refine lv_iconst (v := 1) hx hb dX12_putsStop_11 (by decide) ?_
  refine lv_iadd hx hb dX12_putsStop_12 ?_
  refine lv_istore (lv' := [(6, .int (a2 + 1)), (5, .int (-1)), (0, .ref (ad g 0)), (1, .int a1), (2, .int a2), (3, .int a3), (4, .int a4)]) hx hb dX12_putsStop_13 hl (by decide) rfl (fun ls hl => ?_)
  obtain ⟨e0, he24, h⟩ := mbv_some h
  obtain ⟨x17, μ18, ee, h9⟩ := un2_ex h
  clear h
  subst ee
  have h := h9
  clear h9
  refine tl_md_putsStop_15 a1 a2 a3 a4 hC (fun ls H locs hl hW => ?_) FU ((-1), (a2 + 1), μ1) he24 _ _ _ (lv_sub hl [2, 3, 4, 5, 6, 1, 0] rfl) hW
  exact tj_md_putsStop_107 a1 x17 hC hr hlocks (lv_sub hl [0, 1, 2] rfl) hW h
set_option maxHeartbeats 4000000 in
set_option maxRecDepth 100000 in
theorem tl_md_lostDay_66 (μ : Mm) (a1 : Int32) (a2 : Int32) (a3 : Int32) (a4 : Int32) (hC : Cx g RX12 cX12_lostDay 8 p s m args c) {e0 : (Int32)} (kx0 : ∀ (ls : Array Slot) (H : Heap) (locs : List Loc), lv_has ls 8 [(0, .ref (ad g 0)), (1, .int a1), (2, .int a2), (3, .int a3), (4, .int a4), (5, .int e0)] → wP g wm A s.heap μ H locs → W p l e (rmD 5) s m args below meth c H locs 0 0 Q (F0 m 106 ls [])) : ∀ (n : Nat) (q : Int32 × Int32), miter (fun q => md_lostDay_b66 μ a1 a2 a3 a4 q.1 q.2) n q = some e0 → ∀ (ls : Array Slot) (H : Heap) (locs : List Loc), lv_has ls 8 [(0, .ref (ad g 0)), (1, .int a1), (2, .int a2), (3, .int a3), (4, .int a4), (5, .int q.1), (6, .int q.2)] → wP g wm A s.heap μ H locs → W p l e (rmD 5) s m args below meth c H locs 0 0 Q (F0 m 66 ls []) := by
  obtain ⟨hx, hb, hml, hown, hts, hK, hN⟩ := id hC
  refine miter_ind (fun q r hf k1 k2 => ?_)
  obtain ⟨xs5, xs6⟩ := q
  intro ls H locs hl hW
  have h : md_lostDay_b66 μ a1 a2 a3 a4 xs5 xs6 = some r := hf
  unfold md_lostDay_b66 at h
  refine lv_iload hx hb dX12_lostDay_66 (lv_at hl 6 rfl) ?_
  refine lv_aload_n hx hb dX12_lostDay_68 rfl (lv_at hl 0 rfl) ?_
  refine gf_X12_190_m0 hC hW dX12_lostDay_69 ?_
  refine lv_icmp_ge (tgt := 106) hx hb dX12_lostDay_72 (by decide) (fun hc11 => ?_) (fun hc11 => ?_)
  · replace h := if_p hc11 h
    obtain rfl := k2 _ (Option.some.inj h).symm
    exact kx0 _ _ _ (lv_sub hl [0, 1, 2, 3, 4, 5] rfl) hW
  · replace h := if_n hc11 h
    refine lv_aload_n hx hb dX12_lostDay_75 rfl (lv_at hl 0 rfl) ?_
    refine lv_iload_n hx hb dX12_lostDay_76 rfl (lv_at hl 1 rfl) ?_
    refine lv_iload hx hb dX12_lostDay_77 (lv_at hl 6 rfl) ?_
    refine lv_iload_n hx hb dX12_lostDay_79 rfl (lv_at hl 2 rfl) ?_
    obtain ⟨x12, hx12, h⟩ := mbv_some h
    refine kr_ci hC hW (kr_runV hC hW hl.1 (t_md_isVisited hx12) cw_X12_346 (wm_0 g μ) rfl rfl rfl (Nat.le_of_ble_eq_true rfl) dX12_lostDay_80 (by decide)) (fun H locs hW => ?_)
    refine lv_if_eq (tgt := 96) hx hb dX12_lostDay_83 (by decide) (fun hc13 => ?_) (fun hc13 => ?_)
    · replace h := if_p hc13 h
      refine lv_iload hx hb dX12_lostDay_96 (lv_at hl 5 rfl) ?_
      refine lv_istore (lv' := [(5, .int xs5), (0, .ref (ad g 0)), (1, .int a1), (2, .int a2), (3, .int a3), (4, .int a4), (6, .int xs6)]) hx hb dX12_lostDay_98 hl (by decide) rfl (fun ls hl => ?_)
      refine lv_iinc (v := (xs6 + 1)) (lv' := [(6, .int (xs6 + 1)), (5, .int xs5), (0, .ref (ad g 0)), (1, .int a1), (2, .int a2), (3, .int a3), (4, .int a4)]) hx hb dX12_lostDay_100 hl (k := 6) rfl (by rw [oi_1]) (by decide) rfl (fun ls hl => ?_)
      refine lv_goto (tgt := 66) hx hb dX12_lostDay_103 (by decide) ?_
      exact k1 (xs5, (xs6 + 1)) (Option.some.inj h).symm _ _ _ (lv_sub hl [2, 3, 4, 5, 6, 1, 0] rfl) hW
    · replace h := if_n hc13 h
      refine lv_iload hx hb dX12_lostDay_86 (lv_at hl 5 rfl) ?_
      refine lv_iconst (v := 1) hx hb dX12_lostDay_88 (by decide) ?_
      refine lv_iload hx hb dX12_lostDay_89 (lv_at hl 6 rfl) ?_
      refine lv_ishl hx hb dX12_lostDay_91 ?_
      refine lv_ior hx hb dX12_lostDay_92 ?_
      refine lv_goto (tgt := 98) hx hb dX12_lostDay_93 (by decide) ?_
      refine lv_istore (lv' := [(5, .int (xs5 ||| ((1 : Int32) <<< (xs6 &&& 31)))), (0, .ref (ad g 0)), (1, .int a1), (2, .int a2), (3, .int a3), (4, .int a4), (6, .int xs6)]) hx hb dX12_lostDay_98 hl (by decide) rfl (fun ls hl => ?_)
      refine lv_iinc (v := (xs6 + 1)) (lv' := [(6, .int (xs6 + 1)), (5, .int (xs5 ||| ((1 : Int32) <<< (xs6 &&& 31)))), (0, .ref (ad g 0)), (1, .int a1), (2, .int a2), (3, .int a3), (4, .int a4)]) hx hb dX12_lostDay_100 hl (k := 6) rfl (by rw [oi_1]) (by decide) rfl (fun ls hl => ?_)
      refine lv_goto (tgt := 66) hx hb dX12_lostDay_103 (by decide) ?_
      exact k1 ((xs5 ||| ((1 : Int32) <<< (xs6 &&& 31))), (xs6 + 1)) (Option.some.inj h).symm _ _ _ (lv_sub hl [2, 3, 4, 5, 6, 1, 0] rfl) hW
set_option maxHeartbeats 4000000 in
set_option maxRecDepth 100000 in
theorem tl_md_lostDay_135 (a2 : Int32) (a3 : Int32) (a4 : Int32) (a5 : Int32) (hC : Cx g RX12 cX12_lostDay 8 p s m args c) {e0 : (Int32 × Mm)} (kx0 : ∀ (ls : Array Slot) (H : Heap) (locs : List Loc), lv_has ls 8 [(6, .int e0.1)] → wP g wm A s.heap e0.2 H locs → W p l e (rmD 5) s m args below meth c H locs 0 0 Q (F0 m 180 ls [])) : ∀ (n : Nat) (q : Int32 × Int32 × Mm), miter (fun q => md_lostDay_b135 q.2.2 a2 a3 a4 a5 q.1 q.2.1) n q = some e0 → ∀ (ls : Array Slot) (H : Heap) (locs : List Loc), lv_has ls 8 [(0, .ref (ad g 0)), (2, .int a2), (3, .int a3), (4, .int a4), (5, .int a5), (6, .int q.1), (7, .int q.2.1)] → wP g wm A s.heap q.2.2 H locs → W p l e (rmD 5) s m args below meth c H locs 0 0 Q (F0 m 135 ls []) := by
  obtain ⟨hx, hb, hml, hown, hts, hK, hN⟩ := id hC
  refine miter_ind (fun q r hf k1 k2 => ?_)
  obtain ⟨xs6, xs7, μ⟩ := q
  intro ls H locs hl hW
  have h : md_lostDay_b135 μ a2 a3 a4 a5 xs6 xs7 = some r := hf
  unfold md_lostDay_b135 at h
  refine lv_iload hx hb dX12_lostDay_135 (lv_at hl 6 rfl) ?_
  refine lv_aload_n hx hb dX12_lostDay_137 rfl (lv_at hl 0 rfl) ?_
  refine gf_X12_190_m0 hC hW dX12_lostDay_138 ?_
  refine lv_icmp_ge (tgt := 180) hx hb dX12_lostDay_141 (by decide) (fun hc17 => ?_) (fun hc17 => ?_)
  · replace h := if_p hc17 h
    obtain rfl := k2 _ (Option.some.inj h).symm
    exact kx0 _ _ _ (lv_sub hl [5] rfl) hW
  · replace h := if_n hc17 h
    refine lv_iload hx hb dX12_lostDay_144 (lv_at hl 4 rfl) ?_
    refine lv_iload hx hb dX12_lostDay_146 (lv_at hl 6 rfl) ?_
    refine lv_ishr hx hb dX12_lostDay_148 ?_
    refine lv_iconst (v := 1) hx hb dX12_lostDay_149 (by decide) ?_
    refine lv_iand hx hb dX12_lostDay_150 ?_
    refine lv_iconst (v := 1) hx hb dX12_lostDay_151 (by decide) ?_
    refine lv_icmp_ne (tgt := 174) hx hb dX12_lostDay_152 (by decide) (fun hc18 => ?_) (fun hc18 => ?_)
    · replace h := if_n hc18 h
      refine lv_iinc (v := (xs7 + 1)) (lv' := [(7, .int (xs7 + 1)), (0, .ref (ad g 0)), (2, .int a2), (3, .int a3), (4, .int a4), (5, .int a5), (6, .int xs6)]) hx hb dX12_lostDay_174 hl (k := 6) rfl (by rw [oi_1]) (by decide) rfl (fun ls hl => ?_)
      refine lv_goto (tgt := 135) hx hb dX12_lostDay_177 (by decide) ?_
      exact k1 (xs6, (xs7 + 1), μ) (Option.some.inj h).symm _ _ _ (lv_sub hl [1, 2, 3, 4, 5, 6, 0] rfl) hW
    · replace h := if_p hc18 h
      refine lv_aload_n hx hb dX12_lostDay_155 rfl (lv_at hl 0 rfl) ?_
      refine lv_iload hx hb dX12_lostDay_156 (lv_at hl 6 rfl) ?_
      refine lv_iload_n hx hb dX12_lostDay_158 rfl (lv_at hl 1 rfl) ?_
      refine lv_iload_n hx hb dX12_lostDay_159 rfl (lv_at hl 2 rfl) ?_
      refine lv_iload hx hb dX12_lostDay_160 (lv_at hl 3 rfl) ?_
      obtain ⟨x19, μ20, hx19, h⟩ := mbm_some h
      refine kr_ci hC hW (kr_runV hC hW hl.1 (t_md_putsStop hx19) cw_X12_476 (wm_0 g μ) rfl rfl rfl (Nat.le_of_ble_eq_true rfl) dX12_lostDay_162 (by decide)) (fun H locs hW => ?_)
      refine lv_if_eq (tgt := 174) hx hb dX12_lostDay_165 (by decide) (fun hc21 => ?_) (fun hc21 => ?_)
      · replace h := if_p hc21 h
        refine lv_iinc (v := (xs7 + 1)) (lv' := [(7, .int (xs7 + 1)), (0, .ref (ad g 0)), (2, .int a2), (3, .int a3), (4, .int a4), (5, .int a5), (6, .int xs6)]) hx hb dX12_lostDay_174 hl (k := 6) rfl (by rw [oi_1]) (by decide) rfl (fun ls hl => ?_)
        refine lv_goto (tgt := 135) hx hb dX12_lostDay_177 (by decide) ?_
        exact k1 (xs6, (xs7 + 1), μ20) (Option.some.inj h).symm _ _ _ (lv_sub hl [1, 2, 3, 4, 5, 6, 0] rfl) hW
      · replace h := if_n hc21 h
        refine lv_iload hx hb dX12_lostDay_168 (lv_at hl 5 rfl) ?_
        refine lv_iconst (v := 1) hx hb dX12_lostDay_170 (by decide) ?_
        refine lv_iadd hx hb dX12_lostDay_171 ?_
        refine lv_istore (lv' := [(6, .int (xs6 + 1)), (0, .ref (ad g 0)), (2, .int a2), (3, .int a3), (4, .int a4), (5, .int a5), (7, .int xs7)]) hx hb dX12_lostDay_172 hl (by decide) rfl (fun ls hl => ?_)
        refine lv_iinc (v := (xs7 + 1)) (lv' := [(7, .int (xs7 + 1)), (6, .int (xs6 + 1)), (0, .ref (ad g 0)), (2, .int a2), (3, .int a3), (4, .int a4), (5, .int a5)]) hx hb dX12_lostDay_174 hl (k := 6) rfl (by rw [oi_1]) (by decide) rfl (fun ls hl => ?_)
        refine lv_goto (tgt := 135) hx hb dX12_lostDay_177 (by decide) ?_
        exact k1 ((xs6 + 1), (xs7 + 1), μ20) (Option.some.inj h).symm _ _ _ (lv_sub hl [2, 3, 4, 5, 6, 1, 0] rfl) hW
set_option maxHeartbeats 4000000 in
set_option maxRecDepth 100000 in
theorem t_md_lostDay {l : Launch} {g : Gx} {A : Nat → Prop} {μ : Mm} {a1 : Int32} {a2 : Int32} {a3 : Int32} {a4 : Int32} {v : Int32} {u : Mm} (h : md_lostDay μ a1 a2 a3 a4 = some (v, u)) : Cti l g A wm yX12_lostDay cX12_lostDay 8 (some .int) 5 [.ref (ad g 0), .int a1, .int a2, .int a3, .int a4] μ v u := by
  refine ent (lv := [(0, .ref (ad g 0)), (1, .int a1), (2, .int a2), (3, .int a3), (4, .int a4)]) (by decide) (Nat.le_of_ble_eq_true rfl) rfl ?_
  intro p e s m args below meth c hC hr hlocks hnm hW ls hl
  replace hC : Cx g RX12 cX12_lostDay 8 p s m args c := hC
  obtain ⟨hx, hb, hml, hown, hts, hK, hN⟩ := id hC
  unfold md_lostDay at h
  refine lv_iload_n hx hb dX12_lostDay_0 rfl (lv_at hl 1 rfl) ?_
  obtain ⟨x1, hx1, h⟩ := mbv_some h
  refine kr_ci hC hW (kr_runS hC hW hl.1 (t_md_isVan hx1) cw_X12_203 rfl rfl (Nat.le_of_ble_eq_true rfl) dX12_lostDay_1 (by decide)) (fun H locs hW => ?_)
  refine lv_if_eq (tgt := 58) hx hb dX12_lostDay_4 (by decide) (fun hc2 => ?_) (fun hc2 => ?_)
  · replace h := if_p hc2 h
    refine lv_iconst (v := (-1)) hx hb dX12_lostDay_58 (by decide) ?_
    cases h
    exact kr_iret hC hr hlocks hW dX12_lostDay_59
  · replace h := if_n hc2 h
    refine lv_iload_n hx hb dX12_lostDay_7 rfl (lv_at hl 2 rfl) ?_
    refine lv_aload_n hx hb dX12_lostDay_8 rfl (lv_at hl 0 rfl) ?_
    refine gf_X12_196_m0 hC hW dX12_lostDay_9 ?_
    refine lv_sipush (v := 199) hx hb dX12_lostDay_12 (by decide) ?_
    obtain ⟨x3, hx3, h⟩ := mbv_some h
    refine kr_ci hC hW (kr_runS hC hW hl.1 (t_md_in hx3) cw_X12_199 rfl rfl (Nat.le_of_ble_eq_true rfl) dX12_lostDay_15 (by decide)) (fun H locs hW => ?_)
    refine lv_if_eq (tgt := 58) hx hb dX12_lostDay_18 (by decide) (fun hc4 => ?_) (fun hc4 => ?_)
    · replace h := if_p hc4 h
      refine lv_iconst (v := (-1)) hx hb dX12_lostDay_58 (by decide) ?_
      cases h
      exact kr_iret hC hr hlocks hW dX12_lostDay_59
    · replace h := if_n hc4 h
      refine lv_iload_n hx hb dX12_lostDay_21 rfl (lv_at hl 3 rfl) ?_
      refine lv_iconst (v := 1) hx hb dX12_lostDay_22 (by decide) ?_
      refine lv_bipush (v := 28) hx hb dX12_lostDay_23 (by decide) ?_
      obtain ⟨x5, hx5, h⟩ := mbv_some h
      refine kr_ci hC hW (kr_runS hC hW hl.1 (t_md_in hx5) cw_X12_199 rfl rfl (Nat.le_of_ble_eq_true rfl) dX12_lostDay_25 (by decide)) (fun H locs hW => ?_)
      refine lv_if_eq (tgt := 58) hx hb dX12_lostDay_28 (by decide) (fun hc6 => ?_) (fun hc6 => ?_)
      · replace h := if_p hc6 h
        refine lv_iconst (v := (-1)) hx hb dX12_lostDay_58 (by decide) ?_
        cases h
        exact kr_iret hC hr hlocks hW dX12_lostDay_59
      · replace h := if_n hc6 h
        refine lv_iload hx hb dX12_lostDay_31 (lv_at hl 4 rfl) ?_
        refine lv_iconst (v := 1) hx hb dX12_lostDay_33 (by decide) ?_
        refine lv_sipush (v := 1000) hx hb dX12_lostDay_34 (by decide) ?_
        obtain ⟨x7, hx7, h⟩ := mbv_some h
        refine kr_ci hC hW (kr_runS hC hW hl.1 (t_md_in hx7) cw_X12_199 rfl rfl (Nat.le_of_ble_eq_true rfl) dX12_lostDay_37 (by decide)) (fun H locs hW => ?_)
        refine lv_if_eq (tgt := 58) hx hb dX12_lostDay_40 (by decide) (fun hc8 => ?_) (fun hc8 => ?_)
        · replace h := if_p hc8 h
          refine lv_iconst (v := (-1)) hx hb dX12_lostDay_58 (by decide) ?_
          cases h
          exact kr_iret hC hr hlocks hW dX12_lostDay_59
        · replace h := if_n hc8 h
          refine lv_aload_n hx hb dX12_lostDay_43 rfl (lv_at hl 0 rfl) ?_
          refine gf_X12_74_m0 hC hW dX12_lostDay_44 ?_
          refine lv_sipush (v := 200) hx hb dX12_lostDay_47 (by decide) ?_
          refine lv_iload_n hx hb dX12_lostDay_50 rfl (lv_at hl 1 rfl) ?_
          refine lv_imul hx hb dX12_lostDay_51 ?_
          refine lv_iload_n hx hb dX12_lostDay_52 rfl (lv_at hl 2 rfl) ?_
          refine lv_iadd hx hb dX12_lostDay_53 ?_
          obtain ⟨x9, ex9, hin, h⟩ := mrd_ex h
          refine kr_zald hC hW (wm_22 g μ) hin ex9 dX12_lostDay_54 ?_
          refine lv_if_eq (tgt := 60) hx hb dX12_lostDay_55 (by decide) (fun hc10 => ?_) (fun hc10 => ?_)
          · replace h := if_p hc10 h
            refine lv_iconst (v := 0) hx hb dX12_lostDay_60 (by decide) ?_
            refine lv_istore (lv' := [(5, .int 0), (0, .ref (ad g 0)), (1, .int a1), (2, .int a2), (3, .int a3), (4, .int a4)]) hx hb dX12_lostDay_61 hl (by decide) rfl (fun ls hl => ?_)
            refine lv_iconst (v := 0) hx hb dX12_lostDay_63 (by decide) ?_
            refine lv_istore (lv' := [(6, .int 0), (5, .int 0), (0, .ref (ad g 0)), (1, .int a1), (2, .int a2), (3, .int a3), (4, .int a4)]) hx hb dX12_lostDay_64 hl (by decide) rfl (fun ls hl => ?_)
            obtain ⟨x14, he25, h⟩ := mbv_some h
            refine tl_md_lostDay_66 μ a1 a2 a3 a4 hC (fun ls H locs hl hW => ?_) FU (0, 0) he25 _ _ _ (lv_sub hl [2, 3, 4, 5, 6, 1, 0] rfl) hW
            refine lv_aload_n hx hb dX12_lostDay_106 rfl (lv_at hl 0 rfl) ?_
            refine gf_X12_74_m0 hC hW dX12_lostDay_107 ?_
            refine lv_sipush (v := 200) hx hb dX12_lostDay_110 (by decide) ?_
            refine lv_iload_n hx hb dX12_lostDay_113 rfl (lv_at hl 1 rfl) ?_
            refine lv_imul hx hb dX12_lostDay_114 ?_
            refine lv_iload_n hx hb dX12_lostDay_115 rfl (lv_at hl 2 rfl) ?_
            refine lv_iadd hx hb dX12_lostDay_116 ?_
            refine lv_iconst (v := 1) hx hb dX12_lostDay_117 (by decide) ?_
            obtain ⟨μ15, eμ15, hin, h⟩ := mwr_ex h
            refine kr_zast hC hW (wm_22 g μ) (wms_22 eμ15) hin dX12_lostDay_118 (fun H locs hW => ?_)
            refine lv_aload_n hx hb dX12_lostDay_119 rfl (lv_at hl 0 rfl) ?_
            refine lv_aload_n hx hb dX12_lostDay_120 rfl (lv_at hl 0 rfl) ?_
            refine gf_X12_473_m0 hC hW dX12_lostDay_121 ?_
            refine lv_iconst (v := 1) hx hb dX12_lostDay_124 (by decide) ?_
            refine lv_iadd hx hb dX12_lostDay_125 ?_
            obtain ⟨μ16, eμ16, h⟩ := mst_some h
            refine pf_X12_473_m0 hC hW eμ16 dX12_lostDay_126 (fun H locs hW => ?_)
            refine lv_iconst (v := 0) hx hb dX12_lostDay_129 (by decide) ?_
            refine lv_istore (lv' := [(6, .int 0), (0, .ref (ad g 0)), (1, .int a1), (2, .int a2), (3, .int a3), (4, .int a4), (5, .int x14)]) hx hb dX12_lostDay_130 hl (by decide) rfl (fun ls hl => ?_)
            refine lv_iconst (v := 0) hx hb dX12_lostDay_132 (by decide) ?_
            refine lv_istore (lv' := [(7, .int 0), (6, .int 0), (0, .ref (ad g 0)), (1, .int a1), (2, .int a2), (3, .int a3), (4, .int a4), (5, .int x14)]) hx hb dX12_lostDay_133 hl (by decide) rfl (fun ls hl => ?_)
            obtain ⟨e0, he24, h⟩ := mbv_some h
            obtain ⟨x22, μ23, ee, h9⟩ := un2_ex h
            clear h
            subst ee
            have h := h9
            clear h9
            refine tl_md_lostDay_135 a2 a3 a4 x14 hC (fun ls H locs hl hW => ?_) FU (0, 0, μ16) he24 _ _ _ (lv_sub hl [2, 4, 5, 6, 7, 1, 0] rfl) hW
            refine lv_iload hx hb dX12_lostDay_180 (lv_at hl 0 rfl) ?_
            cases h
            exact kr_iret hC hr hlocks hW dX12_lostDay_182
          · replace h := if_n hc10 h
            refine lv_iconst (v := (-1)) hx hb dX12_lostDay_58 (by decide) ?_
            cases h
            exact kr_iret hC hr hlocks hW dX12_lostDay_59
set_option maxHeartbeats 4000000 in
set_option maxRecDepth 100000 in
theorem t_md_put {l : Launch} {g : Gx} {A : Nat → Prop} {μ : Mm} {a1 : Int32} {a2 : Int32} {v : Int32} (h : md_put μ a1 a2 = some v) : Cti l g A wm yX12_put cX12_put 3 (some .int) 1 [.ref (ad g 0), .int a1, .int a2] μ v μ := by
  refine ent (lv := [(0, .ref (ad g 0)), (1, .int a1), (2, .int a2)]) (by decide) (Nat.le_of_ble_eq_true rfl) rfl ?_
  intro p e s m args below meth c hC hr hlocks hnm hW ls hl
  replace hC : Cx g RX12 cX12_put 3 p s m args c := hC
  obtain ⟨hx, hb, hml, hown, hts, hK, hN⟩ := id hC
  unfold md_put at h
  refine lv_aload_n hx hb dX12_put_0 rfl (lv_at hl 0 rfl) ?_
  refine lv_iload_n hx hb dX12_put_1 rfl (lv_at hl 1 rfl) ?_
  obtain ⟨x1, hx1, h⟩ := mbv_some h
  refine kr_ci hC hW (kr_runV hC hW hl.1 (t_md_isStop hx1) cw_X12_211 (wm_0 g μ) rfl rfl rfl (Nat.le_of_ble_eq_true rfl) dX12_put_2 (by decide)) (fun H locs hW => ?_)
  refine lv_if_eq (tgt := 27) hx hb dX12_put_5 (by decide) (fun hc2 => ?_) (fun hc2 => ?_)
  · replace h := if_p hc2 h
    refine lv_iconst (v := (-1)) hx hb dX12_put_27 (by decide) ?_
    refine lv_goto (tgt := 50) hx hb dX12_put_28 (by decide) ?_
    cases h
    exact kr_iret hC hr hlocks hW dX12_put_50
  · replace h := if_n hc2 h
    refine lv_iload_n hx hb dX12_put_8 rfl (lv_at hl 2 rfl) ?_
    refine lv_iconst (v := 0) hx hb dX12_put_9 (by decide) ?_
    refine lv_iconst (v := 1) hx hb dX12_put_10 (by decide) ?_
    obtain ⟨x3, hx3, h⟩ := mbv_some h
    refine kr_ci hC hW (kr_runS hC hW hl.1 (t_md_in hx3) cw_X12_199 rfl rfl (Nat.le_of_ble_eq_true rfl) dX12_put_11 (by decide)) (fun H locs hW => ?_)
    refine lv_if_eq (tgt := 27) hx hb dX12_put_14 (by decide) (fun hc4 => ?_) (fun hc4 => ?_)
    · replace h := if_p hc4 h
      refine lv_iconst (v := (-1)) hx hb dX12_put_27 (by decide) ?_
      refine lv_goto (tgt := 50) hx hb dX12_put_28 (by decide) ?_
      cases h
      exact kr_iret hC hr hlocks hW dX12_put_50
    · replace h := if_n hc4 h
      refine lv_aload_n hx hb dX12_put_17 rfl (lv_at hl 0 rfl) ?_
      refine gf_X12_80_m0 hC hW dX12_put_18 ?_
      refine lv_iload_n hx hb dX12_put_21 rfl (lv_at hl 1 rfl) ?_
      obtain ⟨x5, ex5, hin, h⟩ := mrd_ex h
      refine kr_iald hC hW (wm_24 g μ) hin ex5 dX12_put_22 ?_
      refine lv_iconst (v := (-1)) hx hb dX12_put_23 (by decide) ?_
      refine lv_icmp_ne (tgt := 31) hx hb dX12_put_24 (by decide) (fun hc6 => ?_) (fun hc6 => ?_)
      · replace h := if_n hc6 h
        refine lv_iload_n hx hb dX12_put_31 rfl (lv_at hl 2 rfl) ?_
        refine lv_if_ne (tgt := 44) hx hb dX12_put_32 (by decide) (fun hc7 => ?_) (fun hc7 => ?_)
        · replace h := if_n hc7 h
          refine lv_aload_n hx hb dX12_put_44 rfl (lv_at hl 0 rfl) ?_
          refine gf_X12_83_m0 hC hW dX12_put_45 ?_
          refine lv_iload_n hx hb dX12_put_48 rfl (lv_at hl 1 rfl) ?_
          obtain ⟨x8, ex8, hin, h⟩ := mrd_ex h
          refine kr_iald hC hW (wm_25 g μ) hin ex8 dX12_put_49 ?_
          cases h
          exact kr_iret hC hr hlocks hW dX12_put_50
        · replace h := if_p hc7 h
          refine lv_aload_n hx hb dX12_put_35 rfl (lv_at hl 0 rfl) ?_
          refine gf_X12_80_m0 hC hW dX12_put_36 ?_
          refine lv_iload_n hx hb dX12_put_39 rfl (lv_at hl 1 rfl) ?_
          obtain ⟨x9, ex9, hin, h⟩ := mrd_ex h
          refine kr_iald hC hW (wm_24 g μ) hin ex9 dX12_put_40 ?_
          refine lv_goto (tgt := 50) hx hb dX12_put_41 (by decide) ?_
          cases h
          exact kr_iret hC hr hlocks hW dX12_put_50
      · replace h := if_p hc6 h
        refine lv_iconst (v := (-1)) hx hb dX12_put_27 (by decide) ?_
        refine lv_goto (tgt := 50) hx hb dX12_put_28 (by decide) ?_
        cases h
        exact kr_iret hC hr hlocks hW dX12_put_50
set_option maxHeartbeats 4000000 in
set_option maxRecDepth 100000 in
theorem t_md_knownIn {l : Launch} {g : Gx} {A : Nat → Prop} {μ : Mm} {a1 : Int32} {v : Bool} {u : Mm} (h : md_knownIn μ a1 = some (v, u)) : Cti l g A wm yX12_knownIn cX12_knownIn 2 (some .boolean) 1 [.ref (ad g 0), .int a1] μ (bI v) u := by
  refine ent (lv := [(0, .ref (ad g 0)), (1, .int a1)]) (by decide) (Nat.le_of_ble_eq_true rfl) rfl ?_
  intro p e s m args below meth c hC hr hlocks hnm hW ls hl
  replace hC : Cx g RX12 cX12_knownIn 2 p s m args c := hC
  obtain ⟨hx, hb, hml, hown, hts, hK, hN⟩ := id hC
  unfold md_knownIn at h
  refine lv_iload_n hx hb dX12_knownIn_0 rfl (lv_at hl 1 rfl) ?_
  refine lv_iconst (v := 0) hx hb dX12_knownIn_1 (by decide) ?_
  refine lv_bipush (v := 20) hx hb dX12_knownIn_2 (by decide) ?_
  obtain ⟨x1, hx1, h⟩ := mbv_some h
  refine kr_ci hC hW (kr_runS hC hW hl.1 (t_md_in hx1) cw_X12_199 rfl rfl (Nat.le_of_ble_eq_true rfl) dX12_knownIn_4 (by decide)) (fun H locs hW => ?_)
  refine lv_if_ne (tgt := 12) hx hb dX12_knownIn_7 (by decide) (fun hc2 => ?_) (fun hc2 => ?_)
  · replace h := if_n hc2 h
    refine lv_aload_n hx hb dX12_knownIn_12 rfl (lv_at hl 0 rfl) ?_
    refine lv_iload_n hx hb dX12_knownIn_13 rfl (lv_at hl 1 rfl) ?_
    obtain ⟨μ3, eμ3, h⟩ := mst_some h
    refine pf_X12_355_m0 hC hW eμ3 dX12_knownIn_14 (fun H locs hW => ?_)
    refine lv_iconst (v := 1) hx hb dX12_knownIn_17 (by decide) ?_
    cases h
    exact kr_zret hC hr hlocks _ rfl hW dX12_knownIn_18
  · replace h := if_p hc2 h
    refine lv_iconst (v := 0) hx hb dX12_knownIn_10 (by decide) ?_
    cases h
    exact kr_zret hC hr hlocks _ rfl hW dX12_knownIn_11
set_option maxHeartbeats 4000000 in
set_option maxRecDepth 100000 in
theorem tl_md_where_39 (μ : Mm) (a1 : Int32) (a2 : Int32) (a3 : Int32) (hC : Cx g RX12 cX12_where 6 p s m args c) {e0 : (Int32)} (kx0 : ∀ (ls : Array Slot) (H : Heap) (locs : List Loc), lv_has ls 6 [(4, .int e0)] → wP g wm A s.heap μ H locs → W p l e (rmD 1) s m args below meth c H locs 0 0 Q (F0 m 96 ls [])) : ∀ (n : Nat) (q : Int32 × Int32), miter (fun q => md_where_b39 μ a1 a2 a3 q.1 q.2) n q = some e0 → ∀ (ls : Array Slot) (H : Heap) (locs : List Loc), lv_has ls 6 [(0, .ref (ad g 0)), (1, .int a1), (2, .int a2), (3, .int a3), (4, .int q.1), (5, .int q.2)] → wP g wm A s.heap μ H locs → W p l e (rmD 1) s m args below meth c H locs 0 0 Q (F0 m 39 ls []) := by
  obtain ⟨hx, hb, hml, hown, hts, hK, hN⟩ := id hC
  refine miter_ind (fun q r hf k1 k2 => ?_)
  obtain ⟨xs4, xs5⟩ := q
  intro ls H locs hl hW
  have h : md_where_b39 μ a1 a2 a3 xs4 xs5 = some r := hf
  unfold md_where_b39 at h
  refine lv_iload hx hb dX12_where_39 (lv_at hl 5 rfl) ?_
  refine lv_aload_n hx hb dX12_where_41 rfl (lv_at hl 0 rfl) ?_
  refine gf_X12_352_m0 hC hW dX12_where_42 ?_
  refine lv_icmp_ge (tgt := 96) hx hb dX12_where_45 (by decide) (fun hc7 => ?_) (fun hc7 => ?_)
  · replace h := if_p hc7 h
    obtain rfl := k2 _ (Option.some.inj h).symm
    exact kx0 _ _ _ (lv_sub hl [4] rfl) hW
  · replace h := if_n hc7 h
    refine lv_aload_n hx hb dX12_where_48 rfl (lv_at hl 0 rfl) ?_
    refine gf_X12_141_m0 hC hW dX12_where_49 ?_
    refine lv_iload hx hb dX12_where_52 (lv_at hl 5 rfl) ?_
    obtain ⟨x8, ex8, hin, h⟩ := mrd_ex h
    refine kr_iald hC hW (wm_44 g μ) hin ex8 dX12_where_54 ?_
    refine lv_iload_n hx hb dX12_where_55 rfl (lv_at hl 1 rfl) ?_
    refine lv_icmp_ne (tgt := 90) hx hb dX12_where_56 (by decide) (fun hc9 => ?_) (fun hc9 => ?_)
    · replace h := if_n hc9 h
      refine lv_iinc (v := (xs5 + 1)) (lv' := [(5, .int (xs5 + 1)), (0, .ref (ad g 0)), (1, .int a1), (2, .int a2), (3, .int a3), (4, .int xs4)]) hx hb dX12_where_90 hl (k := 5) rfl (by rw [oi_1]) (by decide) rfl (fun ls hl => ?_)
      refine lv_goto (tgt := 39) hx hb dX12_where_93 (by decide) ?_
      exact k1 (xs4, (xs5 + 1)) (Option.some.inj h).symm _ _ _ (lv_sub hl [1, 2, 3, 4, 5, 0] rfl) hW
    · replace h := if_p hc9 h
      refine lv_aload_n hx hb dX12_where_59 rfl (lv_at hl 0 rfl) ?_
      refine gf_X12_144_m0 hC hW dX12_where_60 ?_
      refine lv_iload hx hb dX12_where_63 (lv_at hl 5 rfl) ?_
      obtain ⟨x10, ex10, hin, h⟩ := mrd_ex h
      refine kr_iald hC hW (wm_45 g μ) hin ex10 dX12_where_65 ?_
      refine lv_iload_n hx hb dX12_where_66 rfl (lv_at hl 2 rfl) ?_
      refine lv_icmp_gt (tgt := 90) hx hb dX12_where_67 (by decide) (fun hc11 => ?_) (fun hc11 => ?_)
      · replace h := if_p hc11 h
        refine lv_iinc (v := (xs5 + 1)) (lv' := [(5, .int (xs5 + 1)), (0, .ref (ad g 0)), (1, .int a1), (2, .int a2), (3, .int a3), (4, .int xs4)]) hx hb dX12_where_90 hl (k := 5) rfl (by rw [oi_1]) (by decide) rfl (fun ls hl => ?_)
        refine lv_goto (tgt := 39) hx hb dX12_where_93 (by decide) ?_
        exact k1 (xs4, (xs5 + 1)) (Option.some.inj h).symm _ _ _ (lv_sub hl [1, 2, 3, 4, 5, 0] rfl) hW
      · replace h := if_n hc11 h
        refine lv_aload_n hx hb dX12_where_70 rfl (lv_at hl 0 rfl) ?_
        refine gf_X12_147_m0 hC hW dX12_where_71 ?_
        refine lv_iload hx hb dX12_where_74 (lv_at hl 5 rfl) ?_
        obtain ⟨x12, ex12, hin, h⟩ := mrd_ex h
        refine kr_iald hC hW (wm_46 g μ) hin ex12 dX12_where_76 ?_
        refine lv_iload_n hx hb dX12_where_77 rfl (lv_at hl 3 rfl) ?_
        refine lv_icmp_gt (tgt := 90) hx hb dX12_where_78 (by decide) (fun hc13 => ?_) (fun hc13 => ?_)
        · replace h := if_p hc13 h
          refine lv_iinc (v := (xs5 + 1)) (lv' := [(5, .int (xs5 + 1)), (0, .ref (ad g 0)), (1, .int a1), (2, .int a2), (3, .int a3), (4, .int xs4)]) hx hb dX12_where_90 hl (k := 5) rfl (by rw [oi_1]) (by decide) rfl (fun ls hl => ?_)
          refine lv_goto (tgt := 39) hx hb dX12_where_93 (by decide) ?_
          exact k1 (xs4, (xs5 + 1)) (Option.some.inj h).symm _ _ _ (lv_sub hl [1, 2, 3, 4, 5, 0] rfl) hW
        · replace h := if_n hc13 h
          refine lv_aload_n hx hb dX12_where_81 rfl (lv_at hl 0 rfl) ?_
          refine gf_X12_150_m0 hC hW dX12_where_82 ?_
          refine lv_iload hx hb dX12_where_85 (lv_at hl 5 rfl) ?_
          obtain ⟨x14, ex14, hin, h⟩ := mrd_ex h
          refine kr_iald hC hW (wm_47 g μ) hin ex14 dX12_where_87 ?_
          refine lv_istore (lv' := [(4, .int x14), (0, .ref (ad g 0)), (1, .int a1), (2, .int a2), (3, .int a3), (5, .int xs5)]) hx hb dX12_where_88 hl (by decide) rfl (fun ls hl => ?_)
          refine lv_iinc (v := (xs5 + 1)) (lv' := [(5, .int (xs5 + 1)), (4, .int x14), (0, .ref (ad g 0)), (1, .int a1), (2, .int a2), (3, .int a3)]) hx hb dX12_where_90 hl (k := 5) rfl (by rw [oi_1]) (by decide) rfl (fun ls hl => ?_)
          refine lv_goto (tgt := 39) hx hb dX12_where_93 (by decide) ?_
          exact k1 (x14, (xs5 + 1)) (Option.some.inj h).symm _ _ _ (lv_sub hl [2, 3, 4, 5, 1, 0] rfl) hW
set_option maxHeartbeats 4000000 in
set_option maxRecDepth 100000 in
theorem t_md_where {l : Launch} {g : Gx} {A : Nat → Prop} {μ : Mm} {a1 : Int32} {a2 : Int32} {a3 : Int32} {v : Int32} (h : md_where μ a1 a2 a3 = some v) : Cti l g A wm yX12_where cX12_where 6 (some .int) 1 [.ref (ad g 0), .int a1, .int a2, .int a3] μ v μ := by
  refine ent (lv := [(0, .ref (ad g 0)), (1, .int a1), (2, .int a2), (3, .int a3)]) (by decide) (Nat.le_of_ble_eq_true rfl) rfl ?_
  intro p e s m args below meth c hC hr hlocks hnm hW ls hl
  replace hC : Cx g RX12 cX12_where 6 p s m args c := hC
  obtain ⟨hx, hb, hml, hown, hts, hK, hN⟩ := id hC
  unfold md_where at h
  refine lv_aload_n hx hb dX12_where_0 rfl (lv_at hl 0 rfl) ?_
  refine lv_iload_n hx hb dX12_where_1 rfl (lv_at hl 1 rfl) ?_
  obtain ⟨x1, hx1, h⟩ := mbv_some h
  refine kr_ci hC hW (kr_runV hC hW hl.1 (t_md_isBook hx1) cw_X12_217 (wm_0 g μ) rfl rfl rfl (Nat.le_of_ble_eq_true rfl) dX12_where_2 (by decide)) (fun H locs hW => ?_)
  refine lv_if_eq (tgt := 31) hx hb dX12_where_5 (by decide) (fun hc2 => ?_) (fun hc2 => ?_)
  · replace h := if_p hc2 h
    refine lv_iconst (v := (-1)) hx hb dX12_where_31 (by decide) ?_
    cases h
    exact kr_iret hC hr hlocks hW dX12_where_32
  · replace h := if_n hc2 h
    refine lv_iload_n hx hb dX12_where_8 rfl (lv_at hl 2 rfl) ?_
    refine lv_iconst (v := 0) hx hb dX12_where_9 (by decide) ?_
    refine lv_aload_n hx hb dX12_where_10 rfl (lv_at hl 0 rfl) ?_
    refine gf_X12_196_m0 hC hW dX12_where_11 ?_
    obtain ⟨x3, hx3, h⟩ := mbv_some h
    refine kr_ci hC hW (kr_runS hC hW hl.1 (t_md_in hx3) cw_X12_199 rfl rfl (Nat.le_of_ble_eq_true rfl) dX12_where_14 (by decide)) (fun H locs hW => ?_)
    refine lv_if_eq (tgt := 31) hx hb dX12_where_17 (by decide) (fun hc4 => ?_) (fun hc4 => ?_)
    · replace h := if_p hc4 h
      refine lv_iconst (v := (-1)) hx hb dX12_where_31 (by decide) ?_
      cases h
      exact kr_iret hC hr hlocks hW dX12_where_32
    · replace h := if_n hc4 h
      refine lv_iload_n hx hb dX12_where_20 rfl (lv_at hl 3 rfl) ?_
      refine lv_iload_n hx hb dX12_where_21 rfl (lv_at hl 2 rfl) ?_
      refine lv_sipush (v := 199) hx hb dX12_where_22 (by decide) ?_
      obtain ⟨x5, hx5, h⟩ := mbv_some h
      refine kr_ci hC hW (kr_runS hC hW hl.1 (t_md_in hx5) cw_X12_199 rfl rfl (Nat.le_of_ble_eq_true rfl) dX12_where_25 (by decide)) (fun H locs hW => ?_)
      refine lv_if_ne (tgt := 33) hx hb dX12_where_28 (by decide) (fun hc6 => ?_) (fun hc6 => ?_)
      · replace h := if_n hc6 h
        refine lv_iconst (v := 0) hx hb dX12_where_33 (by decide) ?_
        refine lv_istore (lv' := [(4, .int 0), (0, .ref (ad g 0)), (1, .int a1), (2, .int a2), (3, .int a3)]) hx hb dX12_where_34 hl (by decide) rfl (fun ls hl => ?_)
        refine lv_iconst (v := 0) hx hb dX12_where_36 (by decide) ?_
        refine lv_istore (lv' := [(5, .int 0), (4, .int 0), (0, .ref (ad g 0)), (1, .int a1), (2, .int a2), (3, .int a3)]) hx hb dX12_where_37 hl (by decide) rfl (fun ls hl => ?_)
        obtain ⟨x15, he16, h⟩ := mbv_some h
        refine tl_md_where_39 μ a1 a2 a3 hC (fun ls H locs hl hW => ?_) FU (0, 0) he16 _ _ _ (lv_sub hl [2, 3, 4, 5, 1, 0] rfl) hW
        refine lv_iload hx hb dX12_where_96 (lv_at hl 0 rfl) ?_
        cases h
        exact kr_iret hC hr hlocks hW dX12_where_98
      · replace h := if_p hc6 h
        refine lv_iconst (v := (-1)) hx hb dX12_where_31 (by decide) ?_
        cases h
        exact kr_iret hC hr hlocks hW dX12_where_32
set_option maxHeartbeats 4000000 in
set_option maxRecDepth 100000 in
theorem tl_md_borrowersOf_4 (μ : Mm) (a1 : Int32) (hC : Cx g RX12 cX12_borrowersOf 4 p s m args c) {e0 : (Int32)} (kx0 : ∀ (ls : Array Slot) (H : Heap) (locs : List Loc), lv_has ls 4 [(2, .int e0)] → wP g wm A s.heap μ H locs → W p l e (rmD 0) s m args below meth c H locs 0 0 Q (F0 m 45 ls [])) : ∀ (n : Nat) (q : Int32 × Int32), miter (fun q => md_borrowersOf_b4 μ a1 q.1 q.2) n q = some e0 → ∀ (ls : Array Slot) (H : Heap) (locs : List Loc), lv_has ls 4 [(0, .ref (ad g 0)), (1, .int a1), (2, .int q.1), (3, .int q.2)] → wP g wm A s.heap μ H locs → W p l e (rmD 0) s m args below meth c H locs 0 0 Q (F0 m 4 ls []) := by
  obtain ⟨hx, hb, hml, hown, hts, hK, hN⟩ := id hC
  refine miter_ind (fun q r hf k1 k2 => ?_)
  obtain ⟨xs2, xs3⟩ := q
  intro ls H locs hl hW
  have h : md_borrowersOf_b4 μ a1 xs2 xs3 = some r := hf
  unfold md_borrowersOf_b4 at h
  refine lv_iload_n hx hb dX12_borrowersOf_4 rfl (lv_at hl 3 rfl) ?_
  refine lv_aload_n hx hb dX12_borrowersOf_5 rfl (lv_at hl 0 rfl) ?_
  refine gf_X12_193_m0 hC hW dX12_borrowersOf_6 ?_
  refine lv_icmp_ge (tgt := 45) hx hb dX12_borrowersOf_9 (by decide) (fun hc1 => ?_) (fun hc1 => ?_)
  · replace h := if_p hc1 h
    obtain rfl := k2 _ (Option.some.inj h).symm
    exact kx0 _ _ _ (lv_sub hl [2] rfl) hW
  · replace h := if_n hc1 h
    refine lv_iload_n hx hb dX12_borrowersOf_12 rfl (lv_at hl 2 rfl) ?_
    refine lv_aload_n hx hb dX12_borrowersOf_13 rfl (lv_at hl 0 rfl) ?_
    refine gf_X12_52_m0 hC hW dX12_borrowersOf_14 ?_
    refine lv_iload_n hx hb dX12_borrowersOf_17 rfl (lv_at hl 3 rfl) ?_
    obtain ⟨x2, ex2, hin, h⟩ := mrd_ex h
    refine kr_iald hC hW (wm_15 g μ) hin ex2 dX12_borrowersOf_18 ?_
    refine lv_iload_n hx hb dX12_borrowersOf_19 rfl (lv_at hl 1 rfl) ?_
    refine lv_icmp_ne (tgt := 36) hx hb dX12_borrowersOf_20 (by decide) (fun hc3 => ?_) (fun hc3 => ?_)
    · replace h := if_n hc3 h
      refine lv_iconst (v := 0) hx hb dX12_borrowersOf_36 (by decide) ?_
      refine lv_iadd hx hb dX12_borrowersOf_37 ?_
      refine lv_istore_n (lv' := [(2, .int (xs2 + 0)), (0, .ref (ad g 0)), (1, .int a1), (3, .int xs3)]) hx hb dX12_borrowersOf_38 rfl hl (by decide) rfl (fun ls hl => ?_)
      refine lv_iinc (v := (xs3 + 1)) (lv' := [(3, .int (xs3 + 1)), (2, .int (xs2 + 0)), (0, .ref (ad g 0)), (1, .int a1)]) hx hb dX12_borrowersOf_39 hl (k := 3) rfl (by rw [oi_1]) (by decide) rfl (fun ls hl => ?_)
      refine lv_goto (tgt := 4) hx hb dX12_borrowersOf_42 (by decide) ?_
      exact k1 ((xs2 + 0), (xs3 + 1)) (Option.some.inj h).symm _ _ _ (lv_sub hl [2, 3, 1, 0] rfl) hW
    · replace h := if_p hc3 h
      refine lv_aload_n hx hb dX12_borrowersOf_23 rfl (lv_at hl 0 rfl) ?_
      refine gf_X12_64_m0 hC hW dX12_borrowersOf_24 ?_
      refine lv_iload_n hx hb dX12_borrowersOf_27 rfl (lv_at hl 3 rfl) ?_
      obtain ⟨x4, ex4, hin, h⟩ := mrd_ex h
      refine kr_iald hC hW (wm_19 g μ) hin ex4 dX12_borrowersOf_28 ?_
      refine lv_if_le (tgt := 36) hx hb dX12_borrowersOf_29 (by decide) (fun hc5 => ?_) (fun hc5 => ?_)
      · replace h := if_p hc5 h
        refine lv_iconst (v := 0) hx hb dX12_borrowersOf_36 (by decide) ?_
        refine lv_iadd hx hb dX12_borrowersOf_37 ?_
        refine lv_istore_n (lv' := [(2, .int (xs2 + 0)), (0, .ref (ad g 0)), (1, .int a1), (3, .int xs3)]) hx hb dX12_borrowersOf_38 rfl hl (by decide) rfl (fun ls hl => ?_)
        refine lv_iinc (v := (xs3 + 1)) (lv' := [(3, .int (xs3 + 1)), (2, .int (xs2 + 0)), (0, .ref (ad g 0)), (1, .int a1)]) hx hb dX12_borrowersOf_39 hl (k := 3) rfl (by rw [oi_1]) (by decide) rfl (fun ls hl => ?_)
        refine lv_goto (tgt := 4) hx hb dX12_borrowersOf_42 (by decide) ?_
        exact k1 ((xs2 + 0), (xs3 + 1)) (Option.some.inj h).symm _ _ _ (lv_sub hl [2, 3, 1, 0] rfl) hW
      · replace h := if_n hc5 h
        refine lv_iconst (v := 1) hx hb dX12_borrowersOf_32 (by decide) ?_
        refine lv_goto (tgt := 37) hx hb dX12_borrowersOf_33 (by decide) ?_
        refine lv_iadd hx hb dX12_borrowersOf_37 ?_
        refine lv_istore_n (lv' := [(2, .int (xs2 + 1)), (0, .ref (ad g 0)), (1, .int a1), (3, .int xs3)]) hx hb dX12_borrowersOf_38 rfl hl (by decide) rfl (fun ls hl => ?_)
        refine lv_iinc (v := (xs3 + 1)) (lv' := [(3, .int (xs3 + 1)), (2, .int (xs2 + 1)), (0, .ref (ad g 0)), (1, .int a1)]) hx hb dX12_borrowersOf_39 hl (k := 3) rfl (by rw [oi_1]) (by decide) rfl (fun ls hl => ?_)
        refine lv_goto (tgt := 4) hx hb dX12_borrowersOf_42 (by decide) ?_
        exact k1 ((xs2 + 1), (xs3 + 1)) (Option.some.inj h).symm _ _ _ (lv_sub hl [2, 3, 1, 0] rfl) hW
set_option maxHeartbeats 4000000 in
set_option maxRecDepth 100000 in
theorem t_md_borrowersOf {l : Launch} {g : Gx} {A : Nat → Prop} {μ : Mm} {a1 : Int32} {v : Int32} (h : md_borrowersOf μ a1 = some v) : Cti l g A wm yX12_borrowersOf cX12_borrowersOf 4 (some .int) 0 [.ref (ad g 0), .int a1] μ v μ := by
  refine ent (lv := [(0, .ref (ad g 0)), (1, .int a1)]) (by decide) (Nat.le_of_ble_eq_true rfl) rfl ?_
  intro p e s m args below meth c hC hr hlocks hnm hW ls hl
  replace hC : Cx g RX12 cX12_borrowersOf 4 p s m args c := hC
  obtain ⟨hx, hb, hml, hown, hts, hK, hN⟩ := id hC
  unfold md_borrowersOf at h
  refine lv_iconst (v := 0) hx hb dX12_borrowersOf_0 (by decide) ?_
  refine lv_istore_n (lv' := [(2, .int 0), (0, .ref (ad g 0)), (1, .int a1)]) hx hb dX12_borrowersOf_1 rfl hl (by decide) rfl (fun ls hl => ?_)
  refine lv_iconst (v := 0) hx hb dX12_borrowersOf_2 (by decide) ?_
  refine lv_istore_n (lv' := [(3, .int 0), (2, .int 0), (0, .ref (ad g 0)), (1, .int a1)]) hx hb dX12_borrowersOf_3 rfl hl (by decide) rfl (fun ls hl => ?_)
  obtain ⟨x6, he7, h⟩ := mbv_some h
  refine tl_md_borrowersOf_4 μ a1 hC (fun ls H locs hl hW => ?_) FU (0, 0) he7 _ _ _ (lv_sub hl [2, 3, 1, 0] rfl) hW
  refine lv_iload_n hx hb dX12_borrowersOf_45 rfl (lv_at hl 0 rfl) ?_
  cases h
  exact kr_iret hC hr hlocks hW dX12_borrowersOf_46
set_option maxHeartbeats 4000000 in
set_option maxRecDepth 100000 in
theorem t_md_counts {l : Launch} {g : Gx} {A : Nat → Prop} {μ : Mm} {a1 : Int32} {a2 : Int32} {v : Int32} (h : md_counts μ a1 a2 = some v) : Cti l g A wm yX12_counts cX12_counts 3 (some .int) 1 [.ref (ad g 0), .int a1, .int a2] μ v μ := by
  refine ent (lv := [(0, .ref (ad g 0)), (1, .int a1), (2, .int a2)]) (by decide) (Nat.le_of_ble_eq_true rfl) rfl ?_
  intro p e s m args below meth c hC hr hlocks hnm hW ls hl
  replace hC : Cx g RX12 cX12_counts 3 p s m args c := hC
  obtain ⟨hx, hb, hml, hown, hts, hK, hN⟩ := id hC
  unfold md_counts at h
  refine lv_iload_n hx hb dX12_counts_0 rfl (lv_at hl 1 rfl) ?_
  by_cases hc1 : a1 = 0
  · replace h := if_p hc1 h
    refine lv_tableIn (off := 39) (tgt := 40) hx hb dX12_counts_1 (by rw [hc1]; decide) (by rw [hc1]; decide) (by rw [hc1]; rfl) (by decide) ?_
    refine lv_aload_n hx hb dX12_counts_40 rfl (lv_at hl 0 rfl) ?_
    refine lv_iload_n hx hb dX12_counts_41 rfl (lv_at hl 2 rfl) ?_
    obtain ⟨x2, hx2, h⟩ := mbv_some h
    refine kr_ci hC hW (kr_runV hC hW hl.1 (t_md_isStop hx2) cw_X12_211 (wm_0 g μ) rfl rfl rfl (Nat.le_of_ble_eq_true rfl) dX12_counts_42 (by decide)) (fun H locs hW => ?_)
    refine lv_if_eq (tgt := 57) hx hb dX12_counts_45 (by decide) (fun hc3 => ?_) (fun hc3 => ?_)
    · replace h := if_p hc3 h
      refine lv_iconst (v := (-1)) hx hb dX12_counts_57 (by decide) ?_
      cases h
      exact kr_iret hC hr hlocks hW dX12_counts_58
    · replace h := if_n hc3 h
      refine lv_aload_n hx hb dX12_counts_48 rfl (lv_at hl 0 rfl) ?_
      refine gf_X12_86_m0 hC hW dX12_counts_49 ?_
      refine lv_iload_n hx hb dX12_counts_52 rfl (lv_at hl 2 rfl) ?_
      obtain ⟨x4, ex4, hin, h⟩ := mrd_ex h
      refine kr_iald hC hW (wm_26 g μ) hin ex4 dX12_counts_53 ?_
      refine lv_goto (tgt := 58) hx hb dX12_counts_54 (by decide) ?_
      cases h
      exact kr_iret hC hr hlocks hW dX12_counts_58
  replace h := if_n hc1 h
  by_cases hc5 : a1 = 1
  · replace h := if_p hc5 h
    refine lv_tableIn (off := 58) (tgt := 59) hx hb dX12_counts_1 (by rw [hc5]; decide) (by rw [hc5]; decide) (by rw [hc5]; rfl) (by decide) ?_
    refine lv_iload_n hx hb dX12_counts_59 rfl (lv_at hl 2 rfl) ?_
    refine lv_iconst (v := 0) hx hb dX12_counts_60 (by decide) ?_
    refine lv_bipush (v := 7) hx hb dX12_counts_61 (by decide) ?_
    obtain ⟨x6, hx6, h⟩ := mbv_some h
    refine kr_ci hC hW (kr_runS hC hW hl.1 (t_md_in hx6) cw_X12_199 rfl rfl (Nat.le_of_ble_eq_true rfl) dX12_counts_63 (by decide)) (fun H locs hW => ?_)
    refine lv_if_eq (tgt := 78) hx hb dX12_counts_66 (by decide) (fun hc7 => ?_) (fun hc7 => ?_)
    · replace h := if_p hc7 h
      refine lv_iconst (v := (-1)) hx hb dX12_counts_78 (by decide) ?_
      cases h
      exact kr_iret hC hr hlocks hW dX12_counts_79
    · replace h := if_n hc7 h
      refine lv_aload_n hx hb dX12_counts_69 rfl (lv_at hl 0 rfl) ?_
      refine gf_X12_89_m0 hC hW dX12_counts_70 ?_
      refine lv_iload_n hx hb dX12_counts_73 rfl (lv_at hl 2 rfl) ?_
      obtain ⟨x8, ex8, hin, h⟩ := mrd_ex h
      refine kr_iald hC hW (wm_27 g μ) hin ex8 dX12_counts_74 ?_
      refine lv_goto (tgt := 79) hx hb dX12_counts_75 (by decide) ?_
      cases h
      exact kr_iret hC hr hlocks hW dX12_counts_79
  replace h := if_n hc5 h
  by_cases hc9 : a1 = 2
  · replace h := if_p hc9 h
    refine lv_tableIn (off := 79) (tgt := 80) hx hb dX12_counts_1 (by rw [hc9]; decide) (by rw [hc9]; decide) (by rw [hc9]; rfl) (by decide) ?_
    refine lv_iload_n hx hb dX12_counts_80 rfl (lv_at hl 2 rfl) ?_
    obtain ⟨x10, hx10, h⟩ := mbv_some h
    refine kr_ci hC hW (kr_runS hC hW hl.1 (t_md_isVan hx10) cw_X12_203 rfl rfl (Nat.le_of_ble_eq_true rfl) dX12_counts_81 (by decide)) (fun H locs hW => ?_)
    refine lv_if_eq (tgt := 96) hx hb dX12_counts_84 (by decide) (fun hc11 => ?_) (fun hc11 => ?_)
    · replace h := if_p hc11 h
      refine lv_iconst (v := (-1)) hx hb dX12_counts_96 (by decide) ?_
      cases h
      exact kr_iret hC hr hlocks hW dX12_counts_97
    · replace h := if_n hc11 h
      refine lv_aload_n hx hb dX12_counts_87 rfl (lv_at hl 0 rfl) ?_
      refine gf_X12_92_m0 hC hW dX12_counts_88 ?_
      refine lv_iload_n hx hb dX12_counts_91 rfl (lv_at hl 2 rfl) ?_
      obtain ⟨x12, ex12, hin, h⟩ := mrd_ex h
      refine kr_iald hC hW (wm_28 g μ) hin ex12 dX12_counts_92 ?_
      refine lv_goto (tgt := 97) hx hb dX12_counts_93 (by decide) ?_
      cases h
      exact kr_iret hC hr hlocks hW dX12_counts_97
  replace h := if_n hc9 h
  by_cases hc13 : a1 = 3
  · replace h := if_p hc13 h
    refine lv_tableIn (off := 97) (tgt := 98) hx hb dX12_counts_1 (by rw [hc13]; decide) (by rw [hc13]; decide) (by rw [hc13]; rfl) (by decide) ?_
    refine lv_aload_n hx hb dX12_counts_98 rfl (lv_at hl 0 rfl) ?_
    refine lv_iload_n hx hb dX12_counts_99 rfl (lv_at hl 2 rfl) ?_
    obtain ⟨x14, hx14, h⟩ := mbv_some h
    refine kr_ci hC hW (kr_runV hC hW hl.1 (t_md_isStop hx14) cw_X12_211 (wm_0 g μ) rfl rfl rfl (Nat.le_of_ble_eq_true rfl) dX12_counts_100 (by decide)) (fun H locs hW => ?_)
    refine lv_if_eq (tgt := 114) hx hb dX12_counts_103 (by decide) (fun hc15 => ?_) (fun hc15 => ?_)
    · replace h := if_p hc15 h
      refine lv_iconst (v := (-1)) hx hb dX12_counts_114 (by decide) ?_
      cases h
      exact kr_iret hC hr hlocks hW dX12_counts_115
    · replace h := if_n hc15 h
      refine lv_aload_n hx hb dX12_counts_106 rfl (lv_at hl 0 rfl) ?_
      refine lv_iload_n hx hb dX12_counts_107 rfl (lv_at hl 2 rfl) ?_
      obtain ⟨x16, hx16, h⟩ := mbv_some h
      refine kr_ci hC hW (kr_runV hC hW hl.1 (t_md_borrowersOf hx16) cw_X12_480 (wm_0 g μ) rfl rfl rfl (Nat.le_of_ble_eq_true rfl) dX12_counts_108 (by decide)) (fun H locs hW => ?_)
      refine lv_goto (tgt := 115) hx hb dX12_counts_111 (by decide) ?_
      cases h
      exact kr_iret hC hr hlocks hW dX12_counts_115
  replace h := if_n hc13 h
  by_cases hc17 : a1 = 4
  · replace h := if_p hc17 h
    refine lv_tableIn (off := 115) (tgt := 116) hx hb dX12_counts_1 (by rw [hc17]; decide) (by rw [hc17]; decide) (by rw [hc17]; rfl) (by decide) ?_
    refine lv_aload_n hx hb dX12_counts_116 rfl (lv_at hl 0 rfl) ?_
    refine lv_iload_n hx hb dX12_counts_117 rfl (lv_at hl 2 rfl) ?_
    obtain ⟨x18, hx18, h⟩ := mbv_some h
    refine kr_ci hC hW (kr_runV hC hW hl.1 (t_md_isStop hx18) cw_X12_211 (wm_0 g μ) rfl rfl rfl (Nat.le_of_ble_eq_true rfl) dX12_counts_118 (by decide)) (fun H locs hW => ?_)
    refine lv_if_eq (tgt := 133) hx hb dX12_counts_121 (by decide) (fun hc19 => ?_) (fun hc19 => ?_)
    · replace h := if_p hc19 h
      refine lv_iconst (v := (-1)) hx hb dX12_counts_133 (by decide) ?_
      cases h
      exact kr_iret hC hr hlocks hW dX12_counts_134
    · replace h := if_n hc19 h
      refine lv_aload_n hx hb dX12_counts_124 rfl (lv_at hl 0 rfl) ?_
      refine gf_X12_95_m0 hC hW dX12_counts_125 ?_
      refine lv_iload_n hx hb dX12_counts_128 rfl (lv_at hl 2 rfl) ?_
      obtain ⟨x20, ex20, hin, h⟩ := mrd_ex h
      refine kr_iald hC hW (wm_29 g μ) hin ex20 dX12_counts_129 ?_
      refine lv_goto (tgt := 134) hx hb dX12_counts_130 (by decide) ?_
      cases h
      exact kr_iret hC hr hlocks hW dX12_counts_134
  replace h := if_n hc17 h
  by_cases hc21 : a1 = 5
  · replace h := if_p hc21 h
    refine lv_tableIn (off := 134) (tgt := 135) hx hb dX12_counts_1 (by rw [hc21]; decide) (by rw [hc21]; decide) (by rw [hc21]; rfl) (by decide) ?_
    refine lv_iload_n hx hb dX12_counts_135 rfl (lv_at hl 2 rfl) ?_
    refine lv_if_ne (tgt := 146) hx hb dX12_counts_136 (by decide) (fun hc22 => ?_) (fun hc22 => ?_)
    · replace h := if_n hc22 h
      refine lv_iconst (v := (-1)) hx hb dX12_counts_146 (by decide) ?_
      cases h
      exact kr_iret hC hr hlocks hW dX12_counts_147
    · replace h := if_p hc22 h
      refine lv_aload_n hx hb dX12_counts_139 rfl (lv_at hl 0 rfl) ?_
      refine gf_X12_364_m0 hC hW dX12_counts_140 ?_
      refine lv_goto (tgt := 147) hx hb dX12_counts_143 (by decide) ?_
      cases h
      exact kr_iret hC hr hlocks hW dX12_counts_147
  replace h := if_n hc21 h
  have thc1 := lv_neT (a := 0) hc1 (by decide)
  have thc5 := lv_neT (a := 1) hc5 (by decide)
  have thc9 := lv_neT (a := 2) hc9 (by decide)
  have thc13 := lv_neT (a := 3) hc13 (by decide)
  have thc17 := lv_neT (a := 4) hc17 (by decide)
  have thc21 := lv_neT (a := 5) hc21 (by decide)
  refine lv_tableOut (tgt := 148) hx hb dX12_counts_1 (by omega) (by decide) ?_
  refine lv_iconst (v := (-1)) hx hb dX12_counts_148 (by decide) ?_
  cases h
  exact kr_iret hC hr hlocks hW dX12_counts_149
set_option maxHeartbeats 4000000 in
set_option maxRecDepth 100000 in
theorem t_md_council {l : Launch} {g : Gx} {A : Nat → Prop} {μ : Mm} {a1 : Int32} {a2 : Int32} {v : Int32} (h : md_council μ a1 a2 = some v) : Cti l g A wm yX12_council cX12_council 4 (some .int) 1 [.ref (ad g 0), .int a1, .int a2] μ v μ := by
  refine ent (lv := [(0, .ref (ad g 0)), (1, .int a1), (2, .int a2)]) (by decide) (Nat.le_of_ble_eq_true rfl) rfl ?_
  intro p e s m args below meth c hC hr hlocks hnm hW ls hl
  replace hC : Cx g RX12 cX12_council 4 p s m args c := hC
  obtain ⟨hx, hb, hml, hown, hts, hK, hN⟩ := id hC
  unfold md_council at h
  refine lv_aload_n hx hb dX12_council_0 rfl (lv_at hl 0 rfl) ?_
  refine lv_iload_n hx hb dX12_council_1 rfl (lv_at hl 1 rfl) ?_
  obtain ⟨x1, hx1, h⟩ := mbv_some h
  refine kr_ci hC hW (kr_runV hC hW hl.1 (t_md_isStop hx1) cw_X12_211 (wm_0 g μ) rfl rfl rfl (Nat.le_of_ble_eq_true rfl) dX12_council_2 (by decide)) (fun H locs hW => ?_)
  refine lv_if_eq (tgt := 18) hx hb dX12_council_5 (by decide) (fun hc2 => ?_) (fun hc2 => ?_)
  · replace h := if_p hc2 h
    refine lv_iconst (v := (-1)) hx hb dX12_council_18 (by decide) ?_
    cases h
    exact kr_iret hC hr hlocks hW dX12_council_19
  · replace h := if_n hc2 h
    refine lv_iload_n hx hb dX12_council_8 rfl (lv_at hl 2 rfl) ?_
    refine lv_iconst (v := 1) hx hb dX12_council_9 (by decide) ?_
    refine lv_bipush (v := 16) hx hb dX12_council_10 (by decide) ?_
    obtain ⟨x3, hx3, h⟩ := mbv_some h
    refine kr_ci hC hW (kr_runS hC hW hl.1 (t_md_in hx3) cw_X12_199 rfl rfl (Nat.le_of_ble_eq_true rfl) dX12_council_12 (by decide)) (fun H locs hW => ?_)
    refine lv_if_ne (tgt := 20) hx hb dX12_council_15 (by decide) (fun hc4 => ?_) (fun hc4 => ?_)
    · replace h := if_n hc4 h
      refine lv_aload_n hx hb dX12_council_20 rfl (lv_at hl 0 rfl) ?_
      refine lv_iload_n hx hb dX12_council_21 rfl (lv_at hl 1 rfl) ?_
      obtain ⟨x5, hx5, h⟩ := mbv_some h
      refine kr_ci hC hW (kr_runV hC hW hl.1 (t_md_readersOf hx5) cw_X12_464 (wm_0 g μ) rfl rfl rfl (Nat.le_of_ble_eq_true rfl) dX12_council_22 (by decide)) (fun H locs hW => ?_)
      refine lv_istore_n (lv' := [(3, .int x5), (0, .ref (ad g 0)), (1, .int a1), (2, .int a2)]) hx hb dX12_council_25 rfl hl (by decide) rfl (fun ls hl => ?_)
      refine lv_iload_n hx hb dX12_council_26 rfl (lv_at hl 0 rfl) ?_
      refine lv_iload_n hx hb dX12_council_27 rfl (lv_at hl 3 rfl) ?_
      refine lv_icmp_ge (tgt := 35) hx hb dX12_council_28 (by decide) (fun hc6 => ?_) (fun hc6 => ?_)
      · replace h := if_p hc6 h
        refine lv_iload_n hx hb dX12_council_35 rfl (lv_at hl 0 rfl) ?_
        cases h
        exact kr_iret hC hr hlocks hW dX12_council_36
      · replace h := if_n hc6 h
        refine lv_iconst (v := 0) hx hb dX12_council_31 (by decide) ?_
        refine lv_goto (tgt := 36) hx hb dX12_council_32 (by decide) ?_
        cases h
        exact kr_iret hC hr hlocks hW dX12_council_36
    · replace h := if_p hc4 h
      refine lv_iconst (v := (-1)) hx hb dX12_council_18 (by decide) ?_
      cases h
      exact kr_iret hC hr hlocks hW dX12_council_19
set_option maxHeartbeats 4000000 in
set_option maxRecDepth 100000 in
theorem tl_md_tapeNumber_6 (μ : Mm) (a1 : Int32) (hC : Cx g RX12 cX12_tapeNumber 4 p s m args c) {e0 : (Int32)} (kx0 : ∀ (ls : Array Slot) (H : Heap) (locs : List Loc), lv_has ls 4 [(2, .int e0)] → wP g wm A s.heap μ H locs → W p l e (rmD 0) s m args below meth c H locs 0 0 Q (F0 m 37 ls [])) : ∀ (n : Nat) (q : Int32 × Int32), miter (fun q => md_tapeNumber_b6 μ a1 q.1 q.2) n q = some e0 → ∀ (ls : Array Slot) (H : Heap) (locs : List Loc), lv_has ls 4 [(0, .ref (ad g 0)), (1, .int a1), (2, .int q.1), (3, .int q.2)] → wP g wm A s.heap μ H locs → W p l e (rmD 0) s m args below meth c H locs 0 0 Q (F0 m 6 ls []) := by
  obtain ⟨hx, hb, hml, hown, hts, hK, hN⟩ := id hC
  refine miter_ind (fun q r hf k1 k2 => ?_)
  obtain ⟨xs2, xs3⟩ := q
  intro ls H locs hl hW
  have h : md_tapeNumber_b6 μ a1 xs2 xs3 = some r := hf
  unfold md_tapeNumber_b6 at h
  refine lv_iload_n hx hb dX12_tapeNumber_6 rfl (lv_at hl 3 rfl) ?_
  refine lv_iconst (v := 4) hx hb dX12_tapeNumber_7 (by decide) ?_
  refine lv_iload_n hx hb dX12_tapeNumber_8 rfl (lv_at hl 1 rfl) ?_
  refine lv_imul hx hb dX12_tapeNumber_9 ?_
  refine lv_iconst (v := 4) hx hb dX12_tapeNumber_10 (by decide) ?_
  refine lv_iadd hx hb dX12_tapeNumber_11 ?_
  refine lv_icmp_ge (tgt := 37) hx hb dX12_tapeNumber_12 (by decide) (fun hc1 => ?_) (fun hc1 => ?_)
  · replace h := if_p hc1 h
    obtain rfl := k2 _ (Option.some.inj h).symm
    exact kx0 _ _ _ (lv_sub hl [2] rfl) hW
  · replace h := if_n hc1 h
    refine lv_iload_n hx hb dX12_tapeNumber_15 rfl (lv_at hl 2 rfl) ?_
    refine lv_bipush (v := 8) hx hb dX12_tapeNumber_16 (by decide) ?_
    refine lv_ishl hx hb dX12_tapeNumber_18 ?_
    refine lv_aload_n hx hb dX12_tapeNumber_19 rfl (lv_at hl 0 rfl) ?_
    refine gf_X12_98_m0 hC hW dX12_tapeNumber_20 ?_
    refine lv_iload_n hx hb dX12_tapeNumber_23 rfl (lv_at hl 3 rfl) ?_
    obtain ⟨x2, ex2, hin, h⟩ := mrd_ex h
    refine kr_bald hC hW (wm_30 g μ) hin ex2 dX12_tapeNumber_24 ?_
    refine lv_sipush (v := 255) hx hb dX12_tapeNumber_25 (by decide) ?_
    refine lv_iand hx hb dX12_tapeNumber_28 ?_
    refine lv_ior hx hb dX12_tapeNumber_29 ?_
    refine lv_istore_n (lv' := [(2, .int ((xs2 <<< (8 &&& 31)) ||| (x2 &&& 255))), (0, .ref (ad g 0)), (1, .int a1), (3, .int xs3)]) hx hb dX12_tapeNumber_30 rfl hl (by decide) rfl (fun ls hl => ?_)
    refine lv_iinc (v := (xs3 + 1)) (lv' := [(3, .int (xs3 + 1)), (2, .int ((xs2 <<< (8 &&& 31)) ||| (x2 &&& 255))), (0, .ref (ad g 0)), (1, .int a1)]) hx hb dX12_tapeNumber_31 hl (k := 3) rfl (by rw [oi_1]) (by decide) rfl (fun ls hl => ?_)
    refine lv_goto (tgt := 6) hx hb dX12_tapeNumber_34 (by decide) ?_
    exact k1 (((xs2 <<< (8 &&& 31)) ||| (x2 &&& 255)), (xs3 + 1)) (Option.some.inj h).symm _ _ _ (lv_sub hl [2, 3, 1, 0] rfl) hW
set_option maxHeartbeats 4000000 in
set_option maxRecDepth 100000 in
theorem t_md_tapeNumber {l : Launch} {g : Gx} {A : Nat → Prop} {μ : Mm} {a1 : Int32} {v : Int32} (h : md_tapeNumber μ a1 = some v) : Cti l g A wm yX12_tapeNumber cX12_tapeNumber 4 (some .int) 0 [.ref (ad g 0), .int a1] μ v μ := by
  refine ent (lv := [(0, .ref (ad g 0)), (1, .int a1)]) (by decide) (Nat.le_of_ble_eq_true rfl) rfl ?_
  intro p e s m args below meth c hC hr hlocks hnm hW ls hl
  replace hC : Cx g RX12 cX12_tapeNumber 4 p s m args c := hC
  obtain ⟨hx, hb, hml, hown, hts, hK, hN⟩ := id hC
  unfold md_tapeNumber at h
  refine lv_iconst (v := 0) hx hb dX12_tapeNumber_0 (by decide) ?_
  refine lv_istore_n (lv' := [(2, .int 0), (0, .ref (ad g 0)), (1, .int a1)]) hx hb dX12_tapeNumber_1 rfl hl (by decide) rfl (fun ls hl => ?_)
  refine lv_iconst (v := 4) hx hb dX12_tapeNumber_2 (by decide) ?_
  refine lv_iload_n hx hb dX12_tapeNumber_3 rfl (lv_at hl 2 rfl) ?_
  refine lv_imul hx hb dX12_tapeNumber_4 ?_
  refine lv_istore_n (lv' := [(3, .int (4 * a1)), (2, .int 0), (0, .ref (ad g 0)), (1, .int a1)]) hx hb dX12_tapeNumber_5 rfl hl (by decide) rfl (fun ls hl => ?_)
  obtain ⟨x3, he4, h⟩ := mbv_some h
  refine tl_md_tapeNumber_6 μ a1 hC (fun ls H locs hl hW => ?_) FU (0, (4 * a1)) he4 _ _ _ (lv_sub hl [2, 3, 1, 0] rfl) hW
  refine lv_iload_n hx hb dX12_tapeNumber_37 rfl (lv_at hl 0 rfl) ?_
  cases h
  exact kr_iret hC hr hlocks hW dX12_tapeNumber_38
set_option maxHeartbeats 4000000 in
set_option maxRecDepth 100000 in
theorem tl_md_check_25 (μ : Mm) (a1 : Int32) (hC : Cx g RX12 cX12_check 3 p s m args c) {e0 : (Int32) ⊕ (Int32) ⊕ (Int32) ⊕ (Unit)} (kx0 : (Sum.elim (fun a => ∀ (ls : Array Slot) (H : Heap) (locs : List Loc), lv_has ls 3 [(2, .int a)] → wP g wm A s.heap μ H locs → W p l e (rmD 1) s m args below meth c H locs 0 0 Q (F0 m 49 ls [])) (fun _ => True)) e0) (kx1 : (Sum.elim (fun _ => True) (Sum.elim (fun a => ∀ (ls : Array Slot) (H : Heap) (locs : List Loc), lv_has ls 3 [(2, .int a)] → wP g wm A s.heap μ H locs → W p l e (rmD 1) s m args below meth c H locs 0 0 Q (F0 m 71 ls [])) (fun _ => True))) e0) (kx2 : (Sum.elim (fun _ => True) (Sum.elim (fun _ => True) (Sum.elim (fun a => ∀ (ls : Array Slot) (H : Heap) (locs : List Loc), lv_has ls 3 [(2, .int a)] → wP g wm A s.heap μ H locs → W p l e (rmD 1) s m args below meth c H locs 0 0 Q (F0 m 95 ls [])) (fun _ => True)))) e0) (kx3 : (Sum.elim (fun _ => True) (Sum.elim (fun _ => True) (Sum.elim (fun _ => True) (fun a => ∀ (ls : Array Slot) (H : Heap) (locs : List Loc), lv_has ls 3 [(0, .ref (ad g 0)), (1, .int a1)] → wP g wm A s.heap μ H locs → W p l e (rmD 1) s m args below meth c H locs 0 0 Q (F0 m 107 ls []))))) e0) : ∀ (n : Nat) (q : Int32), miter (fun q => md_check_b25 μ a1 q) n q = some e0 → ∀ (ls : Array Slot) (H : Heap) (locs : List Loc), lv_has ls 3 [(0, .ref (ad g 0)), (1, .int a1), (2, .int q)] → wP g wm A s.heap μ H locs → W p l e (rmD 1) s m args below meth c H locs 0 0 Q (F0 m 25 ls []) := by
  obtain ⟨hx, hb, hml, hown, hts, hK, hN⟩ := id hC
  refine miter_ind (fun q r hf k1 k2 => ?_)
  obtain ⟨xs2, rfl⟩ : ∃ z, z = q := ⟨_, rfl⟩
  intro ls H locs hl hW
  have h : md_check_b25 μ a1 xs2 = some r := hf
  unfold md_check_b25 at h
  refine lv_iload_n hx hb dX12_check_25 rfl (lv_at hl 2 rfl) ?_
  refine lv_aload_n hx hb dX12_check_26 rfl (lv_at hl 0 rfl) ?_
  refine gf_X12_187_m0 hC hW dX12_check_27 ?_
  refine lv_icmp_ge (tgt := 107) hx hb dX12_check_30 (by decide) (fun hc4 => ?_) (fun hc4 => ?_)
  · replace h := if_p hc4 h
    obtain rfl := k2 _ (Option.some.inj h).symm
    exact kx3 _ _ _ (lv_sub hl [0, 1] rfl) hW
  · replace h := if_n hc4 h
    refine lv_iload_n hx hb dX12_check_33 rfl (lv_at hl 2 rfl) ?_
    refine lv_iload_n hx hb dX12_check_34 rfl (lv_at hl 1 rfl) ?_
    refine lv_icmp_eq (tgt := 49) hx hb dX12_check_35 (by decide) (fun hc5 => ?_) (fun hc5 => ?_)
    · replace h := if_p hc5 h
      obtain rfl := k2 _ (Option.some.inj h).symm
      exact kx0 _ _ _ (lv_sub hl [2] rfl) hW
    · replace h := if_n hc5 h
      refine lv_aload_n hx hb dX12_check_38 rfl (lv_at hl 0 rfl) ?_
      refine lv_iconst (v := 3) hx hb dX12_check_39 (by decide) ?_
      refine lv_iload_n hx hb dX12_check_40 rfl (lv_at hl 2 rfl) ?_
      refine lv_imul hx hb dX12_check_41 ?_
      obtain ⟨x6, hx6, h⟩ := mbv_some h
      refine kr_ci hC hW (kr_runV hC hW hl.1 (t_md_tapeNumber hx6) cw_X12_483 (wm_0 g μ) rfl rfl rfl (Nat.le_of_ble_eq_true rfl) dX12_check_42 (by decide)) (fun H locs hW => ?_)
      refine lv_iload_n hx hb dX12_check_45 rfl (lv_at hl 2 rfl) ?_
      refine lv_icmp_eq (tgt := 53) hx hb dX12_check_46 (by decide) (fun hc7 => ?_) (fun hc7 => ?_)
      · replace h := if_p hc7 h
        refine lv_aload_n hx hb dX12_check_53 rfl (lv_at hl 0 rfl) ?_
        refine lv_iconst (v := 3) hx hb dX12_check_54 (by decide) ?_
        refine lv_iload_n hx hb dX12_check_55 rfl (lv_at hl 2 rfl) ?_
        refine lv_imul hx hb dX12_check_56 ?_
        refine lv_iconst (v := 1) hx hb dX12_check_57 (by decide) ?_
        refine lv_iadd hx hb dX12_check_58 ?_
        obtain ⟨x8, hx8, h⟩ := mbv_some h
        refine kr_ci hC hW (kr_runV hC hW hl.1 (t_md_tapeNumber hx8) cw_X12_483 (wm_0 g μ) rfl rfl rfl (Nat.le_of_ble_eq_true rfl) dX12_check_59 (by decide)) (fun H locs hW => ?_)
        refine lv_aload_n hx hb dX12_check_62 rfl (lv_at hl 0 rfl) ?_
        refine gf_X12_22_m0 hC hW dX12_check_63 ?_
        refine lv_iload_n hx hb dX12_check_66 rfl (lv_at hl 2 rfl) ?_
        obtain ⟨x9, ex9, hin, h⟩ := mrd_ex h
        refine kr_iald hC hW (wm_5 g μ) hin ex9 dX12_check_67 ?_
        refine lv_icmp_eq (tgt := 77) hx hb dX12_check_68 (by decide) (fun hc10 => ?_) (fun hc10 => ?_)
        · replace h := if_p hc10 h
          refine lv_aload_n hx hb dX12_check_77 rfl (lv_at hl 0 rfl) ?_
          refine lv_iconst (v := 3) hx hb dX12_check_78 (by decide) ?_
          refine lv_iload_n hx hb dX12_check_79 rfl (lv_at hl 2 rfl) ?_
          refine lv_imul hx hb dX12_check_80 ?_
          refine lv_iconst (v := 2) hx hb dX12_check_81 (by decide) ?_
          refine lv_iadd hx hb dX12_check_82 ?_
          obtain ⟨x11, hx11, h⟩ := mbv_some h
          refine kr_ci hC hW (kr_runV hC hW hl.1 (t_md_tapeNumber hx11) cw_X12_483 (wm_0 g μ) rfl rfl rfl (Nat.le_of_ble_eq_true rfl) dX12_check_83 (by decide)) (fun H locs hW => ?_)
          refine lv_aload_n hx hb dX12_check_86 rfl (lv_at hl 0 rfl) ?_
          refine gf_X12_25_m0 hC hW dX12_check_87 ?_
          refine lv_iload_n hx hb dX12_check_90 rfl (lv_at hl 2 rfl) ?_
          obtain ⟨x12, ex12, hin, h⟩ := mrd_ex h
          refine kr_iald hC hW (wm_6 g μ) hin ex12 dX12_check_91 ?_
          refine lv_icmp_eq (tgt := 101) hx hb dX12_check_92 (by decide) (fun hc13 => ?_) (fun hc13 => ?_)
          · replace h := if_p hc13 h
            refine lv_iinc (v := (xs2 + 1)) (lv' := [(2, .int (xs2 + 1)), (0, .ref (ad g 0)), (1, .int a1)]) hx hb dX12_check_101 hl (k := 2) rfl (by rw [oi_1]) (by decide) rfl (fun ls hl => ?_)
            refine lv_goto (tgt := 25) hx hb dX12_check_104 (by decide) ?_
            exact k1 (xs2 + 1) (Option.some.inj h).symm _ _ _ (lv_sub hl [1, 2, 0] rfl) hW
          · replace h := if_n hc13 h
            obtain rfl := k2 _ (Option.some.inj h).symm
            exact kx2 _ _ _ (lv_sub hl [2] rfl) hW
        · replace h := if_n hc10 h
          obtain rfl := k2 _ (Option.some.inj h).symm
          exact kx1 _ _ _ (lv_sub hl [2] rfl) hW
      · replace h := if_n hc7 h
        obtain rfl := k2 _ (Option.some.inj h).symm
        exact kx0 _ _ _ (lv_sub hl [2] rfl) hW
set_option maxHeartbeats 4000000 in
set_option maxRecDepth 100000 in
theorem t_md_check {l : Launch} {g : Gx} {A : Nat → Prop} {μ : Mm} {a1 : Int32} {v : Int32} {u : Mm} (h : md_check μ a1 = some (v, u)) : Cti l g A wm yX12_check cX12_check 3 (some .int) 1 [.ref (ad g 0), .int a1] μ v u := by
  refine ent (lv := [(0, .ref (ad g 0)), (1, .int a1)]) (by decide) (Nat.le_of_ble_eq_true rfl) rfl ?_
  intro p e s m args below meth c hC hr hlocks hnm hW ls hl
  replace hC : Cx g RX12 cX12_check 3 p s m args c := hC
  obtain ⟨hx, hb, hml, hown, hts, hK, hN⟩ := id hC
  unfold md_check at h
  refine lv_iload_n hx hb dX12_check_0 rfl (lv_at hl 1 rfl) ?_
  refine lv_if_lt (tgt := 15) hx hb dX12_check_1 (by decide) (fun hc1 => ?_) (fun hc1 => ?_)
  · replace h := if_p hc1 h
    refine lv_bipush (v := (-2)) hx hb dX12_check_15 (by decide) ?_
    cases h
    exact kr_iret hC hr hlocks hW dX12_check_17
  · replace h := if_n hc1 h
    refine lv_iload_n hx hb dX12_check_4 rfl (lv_at hl 1 rfl) ?_
    refine lv_aload_n hx hb dX12_check_5 rfl (lv_at hl 0 rfl) ?_
    refine gf_X12_220_m0 hC hW dX12_check_6 ?_
    refine lv_bipush (v := 12) hx hb dX12_check_9 (by decide) ?_
    refine lv_idiv hx hb dX12_check_11 (by decide) ?_
    refine lv_icmp_le (tgt := 18) hx hb dX12_check_12 (by decide) (fun hc2 => ?_) (fun hc2 => ?_)
    · replace h := if_p hc2 h
      refine lv_aload_n hx hb dX12_check_18 rfl (lv_at hl 0 rfl) ?_
      refine lv_iconst (v := 0) hx hb dX12_check_19 (by decide) ?_
      obtain ⟨μ3, eμ3, h⟩ := mst_some h
      refine pf_X12_220_m0 hC hW eμ3 dX12_check_20 (fun H locs hW => ?_)
      refine lv_iconst (v := 0) hx hb dX12_check_23 (by decide) ?_
      refine lv_istore_n (lv' := [(2, .int 0), (0, .ref (ad g 0)), (1, .int a1)]) hx hb dX12_check_24 rfl hl (by decide) rfl (fun ls hl => ?_)
      rcases msum4_ex h with ⟨x15, he14, h⟩ | ⟨x16, he14, h⟩ | ⟨x17, he14, h⟩ | ⟨e0, he14, h⟩
      · refine tl_md_check_25 μ3 a1 hC (e0 := (.inl x15)) (fun ls H locs hl hW => ?_) trivial trivial trivial FU 0 he14 _ _ _ (lv_sub hl [1, 2, 0] rfl) hW
        refine lv_iconst (v := 3) hx hb dX12_check_49 (by decide) ?_
        refine lv_iload_n hx hb dX12_check_50 rfl (lv_at hl 0 rfl) ?_
        refine lv_imul hx hb dX12_check_51 ?_
        cases h
        exact kr_iret hC hr hlocks hW dX12_check_52
      · refine tl_md_check_25 μ3 a1 hC (e0 := (.inr (.inl x16))) trivial (fun ls H locs hl hW => ?_) trivial trivial FU 0 he14 _ _ _ (lv_sub hl [1, 2, 0] rfl) hW
        refine lv_iconst (v := 3) hx hb dX12_check_71 (by decide) ?_
        refine lv_iload_n hx hb dX12_check_72 rfl (lv_at hl 0 rfl) ?_
        refine lv_imul hx hb dX12_check_73 ?_
        refine lv_iconst (v := 1) hx hb dX12_check_74 (by decide) ?_
        refine lv_iadd hx hb dX12_check_75 ?_
        cases h
        exact kr_iret hC hr hlocks hW dX12_check_76
      · refine tl_md_check_25 μ3 a1 hC (e0 := (.inr (.inr (.inl x17)))) trivial trivial (fun ls H locs hl hW => ?_) trivial FU 0 he14 _ _ _ (lv_sub hl [1, 2, 0] rfl) hW
        refine lv_iconst (v := 3) hx hb dX12_check_95 (by decide) ?_
        refine lv_iload_n hx hb dX12_check_96 rfl (lv_at hl 0 rfl) ?_
        refine lv_imul hx hb dX12_check_97 ?_
        refine lv_iconst (v := 2) hx hb dX12_check_98 (by decide) ?_
        refine lv_iadd hx hb dX12_check_99 ?_
        cases h
        exact kr_iret hC hr hlocks hW dX12_check_100
      · refine tl_md_check_25 μ3 a1 hC (e0 := (.inr (.inr (.inr ())))) trivial trivial trivial (fun ls H locs hl hW => ?_) FU 0 he14 _ _ _ (lv_sub hl [1, 2, 0] rfl) hW
        refine lv_aload_n hx hb dX12_check_107 rfl (lv_at hl 0 rfl) ?_
        refine gf_X12_187_m0 hC hW dX12_check_108 ?_
        refine lv_iload_n hx hb dX12_check_111 rfl (lv_at hl 1 rfl) ?_
        refine lv_icmp_ge (tgt := 124) hx hb dX12_check_112 (by decide) (fun hc18 => ?_) (fun hc18 => ?_)
        · replace h := if_p hc18 h
          refine lv_iconst (v := (-1)) hx hb dX12_check_124 (by decide) ?_
          cases h
          exact kr_iret hC hr hlocks hW dX12_check_125
        · replace h := if_n hc18 h
          refine lv_iconst (v := 3) hx hb dX12_check_115 (by decide) ?_
          refine lv_aload_n hx hb dX12_check_116 rfl (lv_at hl 0 rfl) ?_
          refine gf_X12_187_m0 hC hW dX12_check_117 ?_
          refine lv_imul hx hb dX12_check_120 ?_
          refine lv_goto (tgt := 125) hx hb dX12_check_121 (by decide) ?_
          cases h
          exact kr_iret hC hr hlocks hW dX12_check_125
    · replace h := if_n hc2 h
      refine lv_bipush (v := (-2)) hx hb dX12_check_15 (by decide) ?_
      cases h
      exact kr_iret hC hr hlocks hW dX12_check_17
set_option maxHeartbeats 4000000 in
set_option maxRecDepth 100000 in
theorem tl_md_allAsks_4 (μ : Mm) (hC : Cx g RX12 cX12_allAsks 3 p s m args c) {e0 : (Int32)} (kx0 : ∀ (ls : Array Slot) (H : Heap) (locs : List Loc), lv_has ls 3 [(1, .int e0)] → wP g wm A s.heap μ H locs → W p l e (rmD 1) s m args below meth c H locs 0 0 Q (F0 m 26 ls [])) : ∀ (n : Nat) (q : Int32 × Int32), miter (fun q => md_allAsks_b4 μ q.1 q.2) n q = some e0 → ∀ (ls : Array Slot) (H : Heap) (locs : List Loc), lv_has ls 3 [(0, .ref (ad g 0)), (1, .int q.1), (2, .int q.2)] → wP g wm A s.heap μ H locs → W p l e (rmD 1) s m args below meth c H locs 0 0 Q (F0 m 4 ls []) := by
  obtain ⟨hx, hb, hml, hown, hts, hK, hN⟩ := id hC
  refine miter_ind (fun q r hf k1 k2 => ?_)
  obtain ⟨xs1, xs2⟩ := q
  intro ls H locs hl hW
  have h : md_allAsks_b4 μ xs1 xs2 = some r := hf
  unfold md_allAsks_b4 at h
  refine lv_iload_n hx hb dX12_allAsks_4 rfl (lv_at hl 2 rfl) ?_
  refine lv_aload_n hx hb dX12_allAsks_5 rfl (lv_at hl 0 rfl) ?_
  refine gf_X12_193_m0 hC hW dX12_allAsks_6 ?_
  refine lv_icmp_ge (tgt := 26) hx hb dX12_allAsks_9 (by decide) (fun hc1 => ?_) (fun hc1 => ?_)
  · replace h := if_p hc1 h
    obtain rfl := k2 _ (Option.some.inj h).symm
    exact kx0 _ _ _ (lv_sub hl [1] rfl) hW
  · replace h := if_n hc1 h
    refine lv_iload_n hx hb dX12_allAsks_12 rfl (lv_at hl 1 rfl) ?_
    refine lv_aload_n hx hb dX12_allAsks_13 rfl (lv_at hl 0 rfl) ?_
    refine lv_iload_n hx hb dX12_allAsks_14 rfl (lv_at hl 2 rfl) ?_
    obtain ⟨x2, hx2, h⟩ := mbv_some h
    refine kr_ci hC hW (kr_runV hC hW hl.1 (t_md_asksOf hx2) cw_X12_373 (wm_0 g μ) rfl rfl rfl (Nat.le_of_ble_eq_true rfl) dX12_allAsks_15 (by decide)) (fun H locs hW => ?_)
    refine lv_iadd hx hb dX12_allAsks_18 ?_
    refine lv_istore_n (lv' := [(1, .int (xs1 + x2)), (0, .ref (ad g 0)), (2, .int xs2)]) hx hb dX12_allAsks_19 rfl hl (by decide) rfl (fun ls hl => ?_)
    refine lv_iinc (v := (xs2 + 1)) (lv' := [(2, .int (xs2 + 1)), (1, .int (xs1 + x2)), (0, .ref (ad g 0))]) hx hb dX12_allAsks_20 hl (k := 2) rfl (by rw [oi_1]) (by decide) rfl (fun ls hl => ?_)
    refine lv_goto (tgt := 4) hx hb dX12_allAsks_23 (by decide) ?_
    exact k1 ((xs1 + x2), (xs2 + 1)) (Option.some.inj h).symm _ _ _ (lv_sub hl [2, 1, 0] rfl) hW
set_option maxHeartbeats 4000000 in
set_option maxRecDepth 100000 in
theorem t_md_allAsks {l : Launch} {g : Gx} {A : Nat → Prop} {μ : Mm} {v : Int32} (h : md_allAsks μ = some v) : Cti l g A wm yX12_allAsks cX12_allAsks 3 (some .int) 1 [.ref (ad g 0)] μ v μ := by
  refine ent (lv := [(0, .ref (ad g 0))]) (by decide) (Nat.le_of_ble_eq_true rfl) rfl ?_
  intro p e s m args below meth c hC hr hlocks hnm hW ls hl
  replace hC : Cx g RX12 cX12_allAsks 3 p s m args c := hC
  obtain ⟨hx, hb, hml, hown, hts, hK, hN⟩ := id hC
  unfold md_allAsks at h
  refine lv_iconst (v := 0) hx hb dX12_allAsks_0 (by decide) ?_
  refine lv_istore_n (lv' := [(1, .int 0), (0, .ref (ad g 0))]) hx hb dX12_allAsks_1 rfl hl (by decide) rfl (fun ls hl => ?_)
  refine lv_iconst (v := 0) hx hb dX12_allAsks_2 (by decide) ?_
  refine lv_istore_n (lv' := [(2, .int 0), (1, .int 0), (0, .ref (ad g 0))]) hx hb dX12_allAsks_3 rfl hl (by decide) rfl (fun ls hl => ?_)
  obtain ⟨x3, he4, h⟩ := mbv_some h
  refine tl_md_allAsks_4 μ hC (fun ls H locs hl hW => ?_) FU (0, 0) he4 _ _ _ (lv_sub hl [2, 1, 0] rfl) hW
  refine lv_iload_n hx hb dX12_allAsks_26 rfl (lv_at hl 0 rfl) ?_
  cases h
  exact kr_iret hC hr hlocks hW dX12_allAsks_27
set_option maxHeartbeats 4000000 in
set_option maxRecDepth 100000 in
theorem t_md_count {l : Launch} {g : Gx} {A : Nat → Prop} {μ : Mm} {a1 : Int32} {v : Int32} (h : md_count μ a1 = some v) : Cti l g A wm yX12_count cX12_count 2 (some .int) 2 [.ref (ad g 0), .int a1] μ v μ := by
  refine ent (lv := [(0, .ref (ad g 0)), (1, .int a1)]) (by decide) (Nat.le_of_ble_eq_true rfl) rfl ?_
  intro p e s m args below meth c hC hr hlocks hnm hW ls hl
  replace hC : Cx g RX12 cX12_count 2 p s m args c := hC
  obtain ⟨hx, hb, hml, hown, hts, hK, hN⟩ := id hC
  unfold md_count at h
  refine lv_iload_n hx hb dX12_count_0 rfl (lv_at hl 1 rfl) ?_
  by_cases hc1 : a1 = 0
  · replace h := if_p hc1 h
    refine lv_tableIn (off := 51) (tgt := 52) hx hb dX12_count_1 (by rw [hc1]; decide) (by rw [hc1]; decide) (by rw [hc1]; rfl) (by decide) ?_
    refine lv_aload_n hx hb dX12_count_52 rfl (lv_at hl 0 rfl) ?_
    refine gf_X12_196_m0 hC hW dX12_count_53 ?_
    cases h
    exact kr_iret hC hr hlocks hW dX12_count_56
  replace h := if_n hc1 h
  by_cases hc2 : a1 = 1
  · replace h := if_p hc2 h
    refine lv_tableIn (off := 56) (tgt := 57) hx hb dX12_count_1 (by rw [hc2]; decide) (by rw [hc2]; decide) (by rw [hc2]; rfl) (by decide) ?_
    refine lv_aload_n hx hb dX12_count_57 rfl (lv_at hl 0 rfl) ?_
    refine gf_X12_187_m0 hC hW dX12_count_58 ?_
    cases h
    exact kr_iret hC hr hlocks hW dX12_count_61
  replace h := if_n hc2 h
  by_cases hc3 : a1 = 2
  · replace h := if_p hc3 h
    refine lv_tableIn (off := 61) (tgt := 62) hx hb dX12_count_1 (by rw [hc3]; decide) (by rw [hc3]; decide) (by rw [hc3]; rfl) (by decide) ?_
    refine lv_aload_n hx hb dX12_count_62 rfl (lv_at hl 0 rfl) ?_
    refine gf_X12_190_m0 hC hW dX12_count_63 ?_
    cases h
    exact kr_iret hC hr hlocks hW dX12_count_66
  replace h := if_n hc3 h
  by_cases hc4 : a1 = 3
  · replace h := if_p hc4 h
    refine lv_tableIn (off := 66) (tgt := 67) hx hb dX12_count_1 (by rw [hc4]; decide) (by rw [hc4]; decide) (by rw [hc4]; rfl) (by decide) ?_
    refine lv_aload_n hx hb dX12_count_67 rfl (lv_at hl 0 rfl) ?_
    refine gf_X12_193_m0 hC hW dX12_count_68 ?_
    cases h
    exact kr_iret hC hr hlocks hW dX12_count_71
  replace h := if_n hc4 h
  by_cases hc5 : a1 = 4
  · replace h := if_p hc5 h
    refine lv_tableIn (off := 71) (tgt := 72) hx hb dX12_count_1 (by rw [hc5]; decide) (by rw [hc5]; decide) (by rw [hc5]; rfl) (by decide) ?_
    refine lv_aload_n hx hb dX12_count_72 rfl (lv_at hl 0 rfl) ?_
    refine gf_X12_317_m0 hC hW dX12_count_73 ?_
    cases h
    exact kr_iret hC hr hlocks hW dX12_count_76
  replace h := if_n hc5 h
  by_cases hc6 : a1 = 5
  · replace h := if_p hc6 h
    refine lv_tableIn (off := 76) (tgt := 77) hx hb dX12_count_1 (by rw [hc6]; decide) (by rw [hc6]; decide) (by rw [hc6]; rfl) (by decide) ?_
    refine lv_aload_n hx hb dX12_count_77 rfl (lv_at hl 0 rfl) ?_
    refine gf_X12_220_m0 hC hW dX12_count_78 ?_
    cases h
    exact kr_iret hC hr hlocks hW dX12_count_81
  replace h := if_n hc6 h
  by_cases hc7 : a1 = 6
  · replace h := if_p hc7 h
    refine lv_tableIn (off := 81) (tgt := 82) hx hb dX12_count_1 (by rw [hc7]; decide) (by rw [hc7]; decide) (by rw [hc7]; rfl) (by decide) ?_
    refine lv_aload_n hx hb dX12_count_82 rfl (lv_at hl 0 rfl) ?_
    refine gf_X12_352_m0 hC hW dX12_count_83 ?_
    cases h
    exact kr_iret hC hr hlocks hW dX12_count_86
  replace h := if_n hc7 h
  by_cases hc8 : a1 = 7
  · replace h := if_p hc8 h
    refine lv_tableIn (off := 86) (tgt := 87) hx hb dX12_count_1 (by rw [hc8]; decide) (by rw [hc8]; decide) (by rw [hc8]; rfl) (by decide) ?_
    refine lv_aload_n hx hb dX12_count_87 rfl (lv_at hl 0 rfl) ?_
    obtain ⟨x9, hx9, h⟩ := mbv_some h
    refine kr_ci hC hW (kr_runV hC hW hl.1 (t_md_allAsks hx9) cw_X12_486 (wm_0 g μ) rfl rfl rfl (Nat.le_of_ble_eq_true rfl) dX12_count_88 (by decide)) (fun H locs hW => ?_)
    cases h
    exact kr_iret hC hr hlocks hW dX12_count_91
  replace h := if_n hc8 h
  by_cases hc10 : a1 = 8
  · replace h := if_p hc10 h
    refine lv_tableIn (off := 91) (tgt := 92) hx hb dX12_count_1 (by rw [hc10]; decide) (by rw [hc10]; decide) (by rw [hc10]; rfl) (by decide) ?_
    refine lv_aload_n hx hb dX12_count_92 rfl (lv_at hl 0 rfl) ?_
    refine gf_X12_473_m0 hC hW dX12_count_93 ?_
    cases h
    exact kr_iret hC hr hlocks hW dX12_count_96
  replace h := if_n hc10 h
  have thc1 := lv_neT (a := 0) hc1 (by decide)
  have thc2 := lv_neT (a := 1) hc2 (by decide)
  have thc3 := lv_neT (a := 2) hc3 (by decide)
  have thc4 := lv_neT (a := 3) hc4 (by decide)
  have thc5 := lv_neT (a := 4) hc5 (by decide)
  have thc6 := lv_neT (a := 5) hc6 (by decide)
  have thc7 := lv_neT (a := 6) hc7 (by decide)
  have thc8 := lv_neT (a := 7) hc8 (by decide)
  have thc10 := lv_neT (a := 8) hc10 (by decide)
  refine lv_tableOut (tgt := 97) hx hb dX12_count_1 (by omega) (by decide) ?_
  refine lv_iload_n hx hb dX12_count_97 rfl (lv_at hl 1 rfl) ?_
  refine lv_bipush (v := 10) hx hb dX12_count_98 (by decide) ?_
  refine lv_bipush (v := 12) hx hb dX12_count_100 (by decide) ?_
  obtain ⟨x11, hx11, h⟩ := mbv_some h
  refine kr_ci hC hW (kr_runS hC hW hl.1 (t_md_in hx11) cw_X12_199 rfl rfl (Nat.le_of_ble_eq_true rfl) dX12_count_102 (by decide)) (fun H locs hW => ?_)
  refine lv_if_eq (tgt := 117) hx hb dX12_count_105 (by decide) (fun hc12 => ?_) (fun hc12 => ?_)
  · replace h := if_p hc12 h
    refine lv_iload_n hx hb dX12_count_117 rfl (lv_at hl 1 rfl) ?_
    refine lv_bipush (v := 20) hx hb dX12_count_118 (by decide) ?_
    refine lv_bipush (v := 19) hx hb dX12_count_120 (by decide) ?_
    refine lv_aload_n hx hb dX12_count_122 rfl (lv_at hl 0 rfl) ?_
    refine gf_X12_190_m0 hC hW dX12_count_123 ?_
    refine lv_iadd hx hb dX12_count_126 ?_
    obtain ⟨x13, hx13, h⟩ := mbv_some h
    refine kr_ci hC hW (kr_runS hC hW hl.1 (t_md_in hx13) cw_X12_199 rfl rfl (Nat.le_of_ble_eq_true rfl) dX12_count_127 (by decide)) (fun H locs hW => ?_)
    refine lv_if_eq (tgt := 144) hx hb dX12_count_130 (by decide) (fun hc14 => ?_) (fun hc14 => ?_)
    · replace h := if_p hc14 h
      refine lv_iconst (v := (-1)) hx hb dX12_count_144 (by decide) ?_
      cases h
      exact kr_iret hC hr hlocks hW dX12_count_145
    · replace h := if_n hc14 h
      refine lv_aload_n hx hb dX12_count_133 rfl (lv_at hl 0 rfl) ?_
      refine lv_iload_n hx hb dX12_count_134 rfl (lv_at hl 1 rfl) ?_
      refine lv_bipush (v := 20) hx hb dX12_count_135 (by decide) ?_
      refine lv_isub hx hb dX12_count_137 ?_
      obtain ⟨x15, hx15, h⟩ := mbv_some h
      refine kr_ci hC hW (kr_runV hC hW hl.1 (t_md_readersOf hx15) cw_X12_464 (wm_0 g μ) rfl rfl rfl (Nat.le_of_ble_eq_true rfl) dX12_count_138 (by decide)) (fun H locs hW => ?_)
      refine lv_goto (tgt := 145) hx hb dX12_count_141 (by decide) ?_
      cases h
      exact kr_iret hC hr hlocks hW dX12_count_145
  · replace h := if_n hc12 h
    refine lv_aload_n hx hb dX12_count_108 rfl (lv_at hl 0 rfl) ?_
    refine lv_iload_n hx hb dX12_count_109 rfl (lv_at hl 1 rfl) ?_
    refine lv_bipush (v := 10) hx hb dX12_count_110 (by decide) ?_
    refine lv_isub hx hb dX12_count_112 ?_
    obtain ⟨x16, hx16, h⟩ := mbv_some h
    refine kr_ci hC hW (kr_runV hC hW hl.1 (t_md_lengthOn hx16) cw_X12_207 (wm_0 g μ) rfl rfl rfl (Nat.le_of_ble_eq_true rfl) dX12_count_113 (by decide)) (fun H locs hW => ?_)
    cases h
    exact kr_iret hC hr hlocks hW dX12_count_116
end
