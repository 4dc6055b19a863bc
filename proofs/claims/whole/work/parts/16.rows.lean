section
variable {p : Program} {l : Launch} {e : Env} {s : State} {m : MethodId} {args : Array Value} {below : List Frame} {meth : Method} {c : Code} {H : Heap} {locs : List Loc} {Q : State → Prop} {g : Gx} {A : Nat → Prop} {ls : Array Slot} {Wd : Gx → Mm → va_W}
set_option maxHeartbeats 4000000 in
set_option maxRecDepth 100000 in
theorem tl_md_measures_2 (a1 : Int32) (hC : Cx g RX12 cX12_measures 5 p s m args c) {e0 : (Mm)} (kx0 : ∀ (ls : Array Slot) (H : Heap) (locs : List Loc), lv_has ls 5 [(0, .ref (ad g 0)), (1, .int a1)] → wP g wm A s.heap e0 H locs → W p l e (rmD 1) s m args below meth c H locs 0 0 Q (F0 m 21 ls [])) : ∀ (n : Nat) (q : Int32 × Mm), miter (fun q => md_measures_b2 q.2 a1 q.1) n q = some e0 → ∀ (ls : Array Slot) (H : Heap) (locs : List Loc), lv_has ls 5 [(0, .ref (ad g 0)), (1, .int a1), (2, .int q.1)] → wP g wm A s.heap q.2 H locs → W p l e (rmD 1) s m args below meth c H locs 0 0 Q (F0 m 2 ls []) := by
  obtain ⟨hx, hb, hml, hown, hts, hK, hN⟩ := id hC
  refine miter_ind (fun q r hf k1 k2 => ?_)
  obtain ⟨xs2, μ⟩ := q
  intro ls H locs hl hW
  have h : md_measures_b2 μ a1 xs2 = some r := hf
  unfold md_measures_b2 at h
  refine lv_iload_n hx hb dX12_measures_2 rfl (lv_at hl 2 rfl) ?_
  refine lv_bipush (v := 16) hx hb dX12_measures_3 (by decide) ?_
  refine lv_icmp_ge (tgt := 21) hx hb dX12_measures_5 (by decide) (fun hc1 => ?_) (fun hc1 => ?_)
  · replace h := if_p hc1 h
    obtain rfl := k2 _ (Option.some.inj h).symm
    exact kx0 _ _ _ (lv_sub hl [0, 1] rfl) hW
  · replace h := if_n hc1 h
    refine lv_aload_n hx hb dX12_measures_8 rfl (lv_at hl 0 rfl) ?_
    refine gf_X12_153_m0 hC hW dX12_measures_9 ?_
    refine lv_iload_n hx hb dX12_measures_12 rfl (lv_at hl 2 rfl) ?_
    refine lv_iconst (v := (-1)) hx hb dX12_measures_13 (by decide) ?_
    obtain ⟨μ2, eμ2, hin, h⟩ := mwr_ex h
    refine kr_iast hC hW (wm_48 g μ) (wms_48 eμ2) hin dX12_measures_14 (fun H locs hW => ?_)
    refine lv_iinc (v := (xs2 + 1)) (lv' := [(2, .int (xs2 + 1)), (0, .ref (ad g 0)), (1, .int a1)]) hx hb dX12_measures_15 hl (k := 2) rfl (by rw [oi_1]) (by decide) rfl (fun ls hl => ?_)
    refine lv_goto (tgt := 2) hx hb dX12_measures_18 (by decide) ?_
    exact k1 ((xs2 + 1), μ2) (Option.some.inj h).symm _ _ _ (lv_sub hl [1, 2, 0] rfl) hW
set_option maxHeartbeats 4000000 in
set_option maxRecDepth 100000 in
theorem tl_md_measures_51 (a1 : Int32) (a2 : Int32) (a3 : Int32) (hC : Cx g RX12 cX12_measures 5 p s m args c) {e0 : (Mm)} (kx0 : ∀ (ls : Array Slot) (H : Heap) (locs : List Loc), lv_has ls 5 [(0, .ref (ad g 0)), (1, .int a1), (2, .int a2), (3, .int a3)] → wP g wm A s.heap e0 H locs → W p l e (rmD 1) s m args below meth c H locs 0 0 Q (F0 m 148 ls [])) : ∀ (n : Nat) (q : Int32 × Mm), miter (fun q => md_measures_b51 q.2 a1 a2 a3 q.1) n q = some e0 → ∀ (ls : Array Slot) (H : Heap) (locs : List Loc), lv_has ls 5 [(0, .ref (ad g 0)), (1, .int a1), (2, .int a2), (3, .int a3), (4, .int q.1)] → wP g wm A s.heap q.2 H locs → W p l e (rmD 1) s m args below meth c H locs 0 0 Q (F0 m 51 ls []) := by
  obtain ⟨hx, hb, hml, hown, hts, hK, hN⟩ := id hC
  refine miter_ind (fun q r hf k1 k2 => ?_)
  obtain ⟨xs4, μ⟩ := q
  intro ls H locs hl hW
  have h : md_measures_b51 μ a1 a2 a3 xs4 = some r := hf
  unfold md_measures_b51 at h
  refine lv_iload hx hb dX12_measures_51 (lv_at hl 4 rfl) ?_
  refine lv_aload_n hx hb dX12_measures_53 rfl (lv_at hl 0 rfl) ?_
  refine gf_X12_193_m0 hC hW dX12_measures_54 ?_
  refine lv_icmp_ge (tgt := 148) hx hb dX12_measures_57 (by decide) (fun hc7 => ?_) (fun hc7 => ?_)
  · replace h := if_p hc7 h
    obtain rfl := k2 _ (Option.some.inj h).symm
    exact kx0 _ _ _ (lv_sub hl [0, 1, 2, 3] rfl) hW
  · replace h := if_n hc7 h
    refine lv_aload_n hx hb dX12_measures_60 rfl (lv_at hl 0 rfl) ?_
    refine gf_X12_153_m0 hC hW dX12_measures_61 ?_
    refine lv_iload hx hb dX12_measures_64 (lv_at hl 4 rfl) ?_
    obtain ⟨x8, ex8, hin, h⟩ := mrd_ex h
    refine kr_iald hC hW (wm_48 g μ) hin ex8 dX12_measures_66 ?_
    refine lv_iconst (v := (-1)) hx hb dX12_measures_67 (by decide) ?_
    refine lv_icmp_eq (tgt := 142) hx hb dX12_measures_68 (by decide) (fun hc9 => ?_) (fun hc9 => ?_)
    · replace h := if_p hc9 h
      refine lv_iinc (v := (xs4 + 1)) (lv' := [(4, .int (xs4 + 1)), (0, .ref (ad g 0)), (1, .int a1), (2, .int a2), (3, .int a3)]) hx hb dX12_measures_142 hl (k := 4) rfl (by rw [oi_1]) (by decide) rfl (fun ls hl => ?_)
      refine lv_goto (tgt := 51) hx hb dX12_measures_145 (by decide) ?_
      exact k1 ((xs4 + 1), μ) (Option.some.inj h).symm _ _ _ (lv_sub hl [1, 2, 3, 4, 0] rfl) hW
    · replace h := if_n hc9 h
      refine lv_iload hx hb dX12_measures_71 (lv_at hl 4 rfl) ?_
      refine lv_iload_n hx hb dX12_measures_73 rfl (lv_at hl 3 rfl) ?_
      refine lv_icmp_eq (tgt := 142) hx hb dX12_measures_74 (by decide) (fun hc10 => ?_) (fun hc10 => ?_)
      · replace h := if_p hc10 h
        refine lv_iinc (v := (xs4 + 1)) (lv' := [(4, .int (xs4 + 1)), (0, .ref (ad g 0)), (1, .int a1), (2, .int a2), (3, .int a3)]) hx hb dX12_measures_142 hl (k := 4) rfl (by rw [oi_1]) (by decide) rfl (fun ls hl => ?_)
        refine lv_goto (tgt := 51) hx hb dX12_measures_145 (by decide) ?_
        exact k1 ((xs4 + 1), μ) (Option.some.inj h).symm _ _ _ (lv_sub hl [1, 2, 3, 4, 0] rfl) hW
      · replace h := if_n hc10 h
        refine lv_aload_n hx hb dX12_measures_77 rfl (lv_at hl 0 rfl) ?_
        refine lv_iload_n hx hb dX12_measures_78 rfl (lv_at hl 3 rfl) ?_
        refine lv_iload hx hb dX12_measures_79 (lv_at hl 4 rfl) ?_
        obtain ⟨x11, hx11, h⟩ := mbv_some h
        refine kr_ci hC hW (kr_runV hC hW hl.1 (t_md_asksFrom hx11) cw_X12_398 (wm_0 g μ) rfl rfl rfl (Nat.le_of_ble_eq_true rfl) dX12_measures_81 (by decide)) (fun H locs hW => ?_)
        refine lv_if_ne (tgt := 90) hx hb dX12_measures_84 (by decide) (fun hc12 => ?_) (fun hc12 => ?_)
        · replace h := if_n hc12 h
          refine lv_aload_n hx hb dX12_measures_90 rfl (lv_at hl 0 rfl) ?_
          refine gf_X12_153_m0 hC hW dX12_measures_91 ?_
          refine lv_iload_n hx hb dX12_measures_94 rfl (lv_at hl 3 rfl) ?_
          refine lv_aload_n hx hb dX12_measures_95 rfl (lv_at hl 0 rfl) ?_
          refine gf_X12_153_m0 hC hW dX12_measures_96 ?_
          refine lv_iload_n hx hb dX12_measures_99 rfl (lv_at hl 3 rfl) ?_
          obtain ⟨x13, ex13, hin, h⟩ := mrd_ex h
          refine kr_iald hC hW (wm_48 g μ) hin ex13 dX12_measures_100 ?_
          refine lv_iconst (v := (-1)) hx hb dX12_measures_101 (by decide) ?_
          refine lv_icmp_eq (tgt := 123) hx hb dX12_measures_102 (by decide) (fun hc14 => ?_) (fun hc14 => ?_)
          · replace h := if_p hc14 h
            refine lv_aload_n hx hb dX12_measures_123 rfl (lv_at hl 0 rfl) ?_
            refine gf_X12_153_m0 hC hW dX12_measures_124 ?_
            refine lv_iload hx hb dX12_measures_127 (lv_at hl 4 rfl) ?_
            obtain ⟨x15, ex15, hin, h⟩ := mrd_ex h
            refine kr_iald hC hW (wm_48 g μ) hin ex15 dX12_measures_129 ?_
            refine lv_iconst (v := 1) hx hb dX12_measures_130 (by decide) ?_
            refine lv_iadd hx hb dX12_measures_131 ?_
            refine lv_goto (tgt := 141) hx hb dX12_measures_132 (by decide) ?_
            obtain ⟨μ16, eμ16, hin, h⟩ := mwr_ex h
            refine kr_iast hC hW (wm_48 g μ) (wms_48 eμ16) hin dX12_measures_141 (fun H locs hW => ?_)
            refine lv_iinc (v := (xs4 + 1)) (lv' := [(4, .int (xs4 + 1)), (0, .ref (ad g 0)), (1, .int a1), (2, .int a2), (3, .int a3)]) hx hb dX12_measures_142 hl (k := 4) rfl (by rw [oi_1]) (by decide) rfl (fun ls hl => ?_)
            refine lv_goto (tgt := 51) hx hb dX12_measures_145 (by decide) ?_
            exact k1 ((xs4 + 1), μ16) (Option.some.inj h).symm _ _ _ (lv_sub hl [1, 2, 3, 4, 0] rfl) hW
          · replace h := if_n hc14 h
            refine lv_aload_n hx hb dX12_measures_105 rfl (lv_at hl 0 rfl) ?_
            refine gf_X12_153_m0 hC hW dX12_measures_106 ?_
            refine lv_iload hx hb dX12_measures_109 (lv_at hl 4 rfl) ?_
            obtain ⟨x17, ex17, hin, h⟩ := mrd_ex h
            refine kr_iald hC hW (wm_48 g μ) hin ex17 dX12_measures_111 ?_
            refine lv_iconst (v := 1) hx hb dX12_measures_112 (by decide) ?_
            refine lv_iadd hx hb dX12_measures_113 ?_
            refine lv_aload_n hx hb dX12_measures_114 rfl (lv_at hl 0 rfl) ?_
            refine gf_X12_153_m0 hC hW dX12_measures_115 ?_
            refine lv_iload_n hx hb dX12_measures_118 rfl (lv_at hl 3 rfl) ?_
            obtain ⟨x18, ex18, hin, h⟩ := mrd_ex h
            refine kr_iald hC hW (wm_48 g μ) hin ex18 dX12_measures_119 ?_
            refine lv_icmp_ge (tgt := 135) hx hb dX12_measures_120 (by decide) (fun hc19 => ?_) (fun hc19 => ?_)
            · replace h := if_p hc19 h
              refine lv_aload_n hx hb dX12_measures_135 rfl (lv_at hl 0 rfl) ?_
              refine gf_X12_153_m0 hC hW dX12_measures_136 ?_
              refine lv_iload_n hx hb dX12_measures_139 rfl (lv_at hl 3 rfl) ?_
              obtain ⟨x20, ex20, hin, h⟩ := mrd_ex h
              refine kr_iald hC hW (wm_48 g μ) hin ex20 dX12_measures_140 ?_
              obtain ⟨μ21, eμ21, hin, h⟩ := mwr_ex h
              refine kr_iast hC hW (wm_48 g μ) (wms_48 eμ21) hin dX12_measures_141 (fun H locs hW => ?_)
              refine lv_iinc (v := (xs4 + 1)) (lv' := [(4, .int (xs4 + 1)), (0, .ref (ad g 0)), (1, .int a1), (2, .int a2), (3, .int a3)]) hx hb dX12_measures_142 hl (k := 4) rfl (by rw [oi_1]) (by decide) rfl (fun ls hl => ?_)
              refine lv_goto (tgt := 51) hx hb dX12_measures_145 (by decide) ?_
              exact k1 ((xs4 + 1), μ21) (Option.some.inj h).symm _ _ _ (lv_sub hl [1, 2, 3, 4, 0] rfl) hW
            · replace h := if_n hc19 h
              refine lv_aload_n hx hb dX12_measures_123 rfl (lv_at hl 0 rfl) ?_
              refine gf_X12_153_m0 hC hW dX12_measures_124 ?_
              refine lv_iload hx hb dX12_measures_127 (lv_at hl 4 rfl) ?_
              obtain ⟨x22, ex22, hin, h⟩ := mrd_ex h
              refine kr_iald hC hW (wm_48 g μ) hin ex22 dX12_measures_129 ?_
              refine lv_iconst (v := 1) hx hb dX12_measures_130 (by decide) ?_
              refine lv_iadd hx hb dX12_measures_131 ?_
              refine lv_goto (tgt := 141) hx hb dX12_measures_132 (by decide) ?_
              obtain ⟨μ23, eμ23, hin, h⟩ := mwr_ex h
              refine kr_iast hC hW (wm_48 g μ) (wms_48 eμ23) hin dX12_measures_141 (fun H locs hW => ?_)
              refine lv_iinc (v := (xs4 + 1)) (lv' := [(4, .int (xs4 + 1)), (0, .ref (ad g 0)), (1, .int a1), (2, .int a2), (3, .int a3)]) hx hb dX12_measures_142 hl (k := 4) rfl (by rw [oi_1]) (by decide) rfl (fun ls hl => ?_)
              refine lv_goto (tgt := 51) hx hb dX12_measures_145 (by decide) ?_
              exact k1 ((xs4 + 1), μ23) (Option.some.inj h).symm _ _ _ (lv_sub hl [1, 2, 3, 4, 0] rfl) hW
        · replace h := if_p hc12 h
          refine lv_goto (tgt := 142) hx hb dX12_measures_87 (by decide) ?_
          refine lv_iinc (v := (xs4 + 1)) (lv' := [(4, .int (xs4 + 1)), (0, .ref (ad g 0)), (1, .int a1), (2, .int a2), (3, .int a3)]) hx hb dX12_measures_142 hl (k := 4) rfl (by rw [oi_1]) (by decide) rfl (fun ls hl => ?_)
          refine lv_goto (tgt := 51) hx hb dX12_measures_145 (by decide) ?_
          exact k1 ((xs4 + 1), μ) (Option.some.inj h).symm _ _ _ (lv_sub hl [1, 2, 3, 4, 0] rfl) hW
set_option maxHeartbeats 4000000 in
set_option maxRecDepth 100000 in
theorem tl_md_measures_40 (a1 : Int32) (a2 : Int32) (hC : Cx g RX12 cX12_measures 5 p s m args c) {e0 : (Mm)} (kx0 : ∀ (ls : Array Slot) (H : Heap) (locs : List Loc), lv_has ls 5 [(0, .ref (ad g 0)), (1, .int a1), (2, .int a2)] → wP g wm A s.heap e0 H locs → W p l e (rmD 1) s m args below meth c H locs 0 0 Q (F0 m 154 ls [])) : ∀ (n : Nat) (q : Int32 × Mm), miter (fun q => md_measures_b40 q.2 a1 a2 q.1) n q = some e0 → ∀ (ls : Array Slot) (H : Heap) (locs : List Loc), lv_has ls 5 [(0, .ref (ad g 0)), (1, .int a1), (2, .int a2), (3, .int q.1)] → wP g wm A s.heap q.2 H locs → W p l e (rmD 1) s m args below meth c H locs 0 0 Q (F0 m 40 ls []) := by
  obtain ⟨hx, hb, hml, hown, hts, hK, hN⟩ := id hC
  refine miter_ind (fun q r hf k1 k2 => ?_)
  obtain ⟨xs3, μ⟩ := q
  intro ls H locs hl hW
  have h : md_measures_b40 μ a1 a2 xs3 = some r := hf
  unfold md_measures_b40 at h
  refine lv_iload_n hx hb dX12_measures_40 rfl (lv_at hl 3 rfl) ?_
  refine lv_aload_n hx hb dX12_measures_41 rfl (lv_at hl 0 rfl) ?_
  refine gf_X12_193_m0 hC hW dX12_measures_42 ?_
  refine lv_icmp_ge (tgt := 154) hx hb dX12_measures_45 (by decide) (fun hc6 => ?_) (fun hc6 => ?_)
  · replace h := if_p hc6 h
    obtain rfl := k2 _ (Option.some.inj h).symm
    exact kx0 _ _ _ (lv_sub hl [0, 1, 2] rfl) hW
  · replace h := if_n hc6 h
    refine lv_iload_n hx hb dX12_measures_48 rfl (lv_at hl 1 rfl) ?_
    refine lv_istore (lv' := [(4, .int a1), (0, .ref (ad g 0)), (1, .int a1), (2, .int a2), (3, .int xs3)]) hx hb dX12_measures_49 hl (by decide) rfl (fun ls hl => ?_)
    obtain ⟨μ24, he25, h⟩ := mbv_some h
    refine tl_md_measures_51 a1 a2 xs3 hC (fun ls H locs hl hW => ?_) FU (a1, μ) he25 _ _ _ (lv_sub hl [1, 2, 3, 4, 0] rfl) hW
    refine lv_iinc (v := (xs3 + 1)) (lv' := [(3, .int (xs3 + 1)), (0, .ref (ad g 0)), (1, .int a1), (2, .int a2)]) hx hb dX12_measures_148 hl (k := 3) rfl (by rw [oi_1]) (by decide) rfl (fun ls hl => ?_)
    refine lv_goto (tgt := 40) hx hb dX12_measures_151 (by decide) ?_
    exact k1 ((xs3 + 1), μ24) (Option.some.inj h).symm _ _ _ (lv_sub hl [1, 2, 3, 0] rfl) hW
set_option maxHeartbeats 4000000 in
set_option maxRecDepth 100000 in
theorem tl_md_measures_30 (a1 : Int32) (hC : Cx g RX12 cX12_measures 5 p s m args c) {e0 : (Mm)} (kx0 : ∀ (ls : Array Slot) (H : Heap) (locs : List Loc), lv_has ls 5 [] → wP g wm A s.heap e0 H locs → W p l e (rmD 1) s m args below meth c H locs 0 0 Q (F0 m 160 ls [])) : ∀ (n : Nat) (q : Int32 × Mm), miter (fun q => md_measures_b30 q.2 a1 q.1) n q = some e0 → ∀ (ls : Array Slot) (H : Heap) (locs : List Loc), lv_has ls 5 [(0, .ref (ad g 0)), (1, .int a1), (2, .int q.1)] → wP g wm A s.heap q.2 H locs → W p l e (rmD 1) s m args below meth c H locs 0 0 Q (F0 m 30 ls []) := by
  obtain ⟨hx, hb, hml, hown, hts, hK, hN⟩ := id hC
  refine miter_ind (fun q r hf k1 k2 => ?_)
  obtain ⟨xs2, μ⟩ := q
  intro ls H locs hl hW
  have h : md_measures_b30 μ a1 xs2 = some r := hf
  unfold md_measures_b30 at h
  refine lv_iload_n hx hb dX12_measures_30 rfl (lv_at hl 2 rfl) ?_
  refine lv_bipush (v := 16) hx hb dX12_measures_31 (by decide) ?_
  refine lv_icmp_ge (tgt := 160) hx hb dX12_measures_33 (by decide) (fun hc5 => ?_) (fun hc5 => ?_)
  · replace h := if_p hc5 h
    obtain rfl := k2 _ (Option.some.inj h).symm
    exact kx0 _ _ _ (lv_sub hl [] rfl) hW
  · replace h := if_n hc5 h
    refine lv_iload_n hx hb dX12_measures_36 rfl (lv_at hl 1 rfl) ?_
    refine lv_iconst (v := 1) hx hb dX12_measures_37 (by decide) ?_
    refine lv_iadd hx hb dX12_measures_38 ?_
    refine lv_istore_n (lv' := [(3, .int (a1 + 1)), (0, .ref (ad g 0)), (1, .int a1), (2, .int xs2)]) hx hb dX12_measures_39 rfl hl (by decide) rfl (fun ls hl => ?_)
    obtain ⟨μ26, he27, h⟩ := mbv_some h
    refine tl_md_measures_40 a1 xs2 hC (fun ls H locs hl hW => ?_) FU ((a1 + 1), μ) he27 _ _ _ (lv_sub hl [1, 2, 3, 0] rfl) hW
    refine lv_iinc (v := (xs2 + 1)) (lv' := [(2, .int (xs2 + 1)), (0, .ref (ad g 0)), (1, .int a1)]) hx hb dX12_measures_154 hl (k := 2) rfl (by rw [oi_1]) (by decide) rfl (fun ls hl => ?_)
    refine lv_goto (tgt := 30) hx hb dX12_measures_157 (by decide) ?_
    exact k1 ((xs2 + 1), μ26) (Option.some.inj h).symm _ _ _ (lv_sub hl [1, 2, 0] rfl) hW
set_option maxHeartbeats 4000000 in
set_option maxRecDepth 100000 in
theorem t_md_measures {l : Launch} {g : Gx} {A : Nat → Prop} {μ : Mm} {a1 : Int32} {u : Mm} (h : md_measures μ a1 = some u) : Ctv l g A wm yX12_measures cX12_measures 5 none 1 [.ref (ad g 0), .int a1] μ u := by
  refine ent (lv := [(0, .ref (ad g 0)), (1, .int a1)]) (by decide) (Nat.le_of_ble_eq_true rfl) rfl ?_
  intro p e s m args below meth c hC hr hlocks hnm hW ls hl
  replace hC : Cx g RX12 cX12_measures 5 p s m args c := hC
  obtain ⟨hx, hb, hml, hown, hts, hK, hN⟩ := id hC
  unfold md_measures at h
  refine lv_iconst (v := 0) hx hb dX12_measures_0 (by decide) ?_
  refine lv_istore_n (lv' := [(2, .int 0), (0, .ref (ad g 0)), (1, .int a1)]) hx hb dX12_measures_1 rfl hl (by decide) rfl (fun ls hl => ?_)
  obtain ⟨μ3, he30, h⟩ := mbv_some h
  refine tl_md_measures_2 a1 hC (fun ls H locs hl hW => ?_) FU (0, μ) he30 _ _ _ (lv_sub hl [1, 2, 0] rfl) hW
  refine lv_aload_n hx hb dX12_measures_21 rfl (lv_at hl 0 rfl) ?_
  refine gf_X12_153_m0 hC hW dX12_measures_22 ?_
  refine lv_iload_n hx hb dX12_measures_25 rfl (lv_at hl 1 rfl) ?_
  refine lv_iconst (v := 0) hx hb dX12_measures_26 (by decide) ?_
  obtain ⟨μ4, eμ4, hin, h⟩ := mwr_ex h
  refine kr_iast hC hW (wm_48 g μ3) (wms_48 eμ4) hin dX12_measures_27 (fun H locs hW => ?_)
  refine lv_iconst (v := 0) hx hb dX12_measures_28 (by decide) ?_
  refine lv_istore_n (lv' := [(2, .int 0), (0, .ref (ad g 0)), (1, .int a1)]) hx hb dX12_measures_29 rfl hl (by decide) rfl (fun ls hl => ?_)
  obtain ⟨μ28, he29, h⟩ := mbv_some h
  refine tl_md_measures_30 a1 hC (fun ls H locs hl hW => ?_) FU (0, μ4) he29 _ _ _ (lv_sub hl [1, 2, 0] rfl) hW
  cases h
  exact kr_vret hC hr hlocks hW dX12_measures_160
set_option maxHeartbeats 4000000 in
set_option maxRecDepth 100000 in
theorem tl_md_ringFrom_11 (μ : Mm) (a1 : Int32) (hC : Cx g RX12 cX12_ringFrom 5 p s m args c) {e0 : (Int32)} (kx0 : ∀ (ls : Array Slot) (H : Heap) (locs : List Loc), lv_has ls 5 [(0, .ref (ad g 0)), (1, .int a1), (2, .int e0)] → wP g wm A s.heap μ H locs → W p l e (rmD 2) s m args below meth c H locs 0 0 Q (F0 m 70 ls [])) : ∀ (n : Nat) (q : Int32 × Int32), miter (fun q => md_ringFrom_b11 μ a1 q.1 q.2) n q = some e0 → ∀ (ls : Array Slot) (H : Heap) (locs : List Loc), lv_has ls 5 [(0, .ref (ad g 0)), (1, .int a1), (2, .int q.1), (3, .int q.2)] → wP g wm A s.heap μ H locs → W p l e (rmD 2) s m args below meth c H locs 0 0 Q (F0 m 11 ls []) := by
  obtain ⟨hx, hb, hml, hown, hts, hK, hN⟩ := id hC
  refine miter_ind (fun q r hf k1 k2 => ?_)
  obtain ⟨xs2, xs3⟩ := q
  intro ls H locs hl hW
  have h : md_ringFrom_b11 μ a1 xs2 xs3 = some r := hf
  unfold md_ringFrom_b11 at h
  refine lv_iload_n hx hb dX12_ringFrom_11 rfl (lv_at hl 3 rfl) ?_
  refine lv_aload_n hx hb dX12_ringFrom_12 rfl (lv_at hl 0 rfl) ?_
  refine gf_X12_193_m0 hC hW dX12_ringFrom_13 ?_
  refine lv_icmp_ge (tgt := 70) hx hb dX12_ringFrom_16 (by decide) (fun hc3 => ?_) (fun hc3 => ?_)
  · replace h := if_p hc3 h
    obtain rfl := k2 _ (Option.some.inj h).symm
    exact kx0 _ _ _ (lv_sub hl [0, 1, 2] rfl) hW
  · replace h := if_n hc3 h
    refine lv_aload_n hx hb dX12_ringFrom_19 rfl (lv_at hl 0 rfl) ?_
    refine gf_X12_153_m0 hC hW dX12_ringFrom_20 ?_
    refine lv_iload_n hx hb dX12_ringFrom_23 rfl (lv_at hl 3 rfl) ?_
    obtain ⟨x4, ex4, hin, h⟩ := mrd_ex h
    refine kr_iald hC hW (wm_48 g μ) hin ex4 dX12_ringFrom_24 ?_
    refine lv_iconst (v := (-1)) hx hb dX12_ringFrom_25 (by decide) ?_
    refine lv_icmp_eq (tgt := 64) hx hb dX12_ringFrom_26 (by decide) (fun hc5 => ?_) (fun hc5 => ?_)
    · replace h := if_p hc5 h
      refine lv_iinc (v := (xs3 + 1)) (lv' := [(3, .int (xs3 + 1)), (0, .ref (ad g 0)), (1, .int a1), (2, .int xs2)]) hx hb dX12_ringFrom_64 hl (k := 3) rfl (by rw [oi_1]) (by decide) rfl (fun ls hl => ?_)
      refine lv_goto (tgt := 11) hx hb dX12_ringFrom_67 (by decide) ?_
      exact k1 (xs2, (xs3 + 1)) (Option.some.inj h).symm _ _ _ (lv_sub hl [1, 2, 3, 0] rfl) hW
    · replace h := if_n hc5 h
      refine lv_aload_n hx hb dX12_ringFrom_29 rfl (lv_at hl 0 rfl) ?_
      refine lv_iload_n hx hb dX12_ringFrom_30 rfl (lv_at hl 1 rfl) ?_
      refine lv_iload_n hx hb dX12_ringFrom_31 rfl (lv_at hl 3 rfl) ?_
      obtain ⟨x6, hx6, h⟩ := mbv_some h
      refine kr_ci hC hW (kr_runV hC hW hl.1 (t_md_asksFrom hx6) cw_X12_398 (wm_0 g μ) rfl rfl rfl (Nat.le_of_ble_eq_true rfl) dX12_ringFrom_32 (by decide)) (fun H locs hW => ?_)
      refine lv_if_eq (tgt := 64) hx hb dX12_ringFrom_35 (by decide) (fun hc7 => ?_) (fun hc7 => ?_)
      · replace h := if_p hc7 h
        refine lv_iinc (v := (xs3 + 1)) (lv' := [(3, .int (xs3 + 1)), (0, .ref (ad g 0)), (1, .int a1), (2, .int xs2)]) hx hb dX12_ringFrom_64 hl (k := 3) rfl (by rw [oi_1]) (by decide) rfl (fun ls hl => ?_)
        refine lv_goto (tgt := 11) hx hb dX12_ringFrom_67 (by decide) ?_
        exact k1 (xs2, (xs3 + 1)) (Option.some.inj h).symm _ _ _ (lv_sub hl [1, 2, 3, 0] rfl) hW
      · replace h := if_n hc7 h
        refine lv_iload_n hx hb dX12_ringFrom_38 rfl (lv_at hl 2 rfl) ?_
        refine lv_iconst (v := (-1)) hx hb dX12_ringFrom_39 (by decide) ?_
        refine lv_icmp_eq (tgt := 55) hx hb dX12_ringFrom_40 (by decide) (fun hc8 => ?_) (fun hc8 => ?_)
        · replace h := if_p hc8 h
          refine lv_aload_n hx hb dX12_ringFrom_55 rfl (lv_at hl 0 rfl) ?_
          refine gf_X12_153_m0 hC hW dX12_ringFrom_56 ?_
          refine lv_iload_n hx hb dX12_ringFrom_59 rfl (lv_at hl 3 rfl) ?_
          obtain ⟨x9, ex9, hin, h⟩ := mrd_ex h
          refine kr_iald hC hW (wm_48 g μ) hin ex9 dX12_ringFrom_60 ?_
          refine lv_iconst (v := 1) hx hb dX12_ringFrom_61 (by decide) ?_
          refine lv_iadd hx hb dX12_ringFrom_62 ?_
          refine lv_istore_n (lv' := [(2, .int (x9 + 1)), (0, .ref (ad g 0)), (1, .int a1), (3, .int xs3)]) hx hb dX12_ringFrom_63 rfl hl (by decide) rfl (fun ls hl => ?_)
          refine lv_iinc (v := (xs3 + 1)) (lv' := [(3, .int (xs3 + 1)), (2, .int (x9 + 1)), (0, .ref (ad g 0)), (1, .int a1)]) hx hb dX12_ringFrom_64 hl (k := 3) rfl (by rw [oi_1]) (by decide) rfl (fun ls hl => ?_)
          refine lv_goto (tgt := 11) hx hb dX12_ringFrom_67 (by decide) ?_
          exact k1 ((x9 + 1), (xs3 + 1)) (Option.some.inj h).symm _ _ _ (lv_sub hl [2, 3, 1, 0] rfl) hW
        · replace h := if_n hc8 h
          refine lv_aload_n hx hb dX12_ringFrom_43 rfl (lv_at hl 0 rfl) ?_
          refine gf_X12_153_m0 hC hW dX12_ringFrom_44 ?_
          refine lv_iload_n hx hb dX12_ringFrom_47 rfl (lv_at hl 3 rfl) ?_
          obtain ⟨x10, ex10, hin, h⟩ := mrd_ex h
          refine kr_iald hC hW (wm_48 g μ) hin ex10 dX12_ringFrom_48 ?_
          refine lv_iconst (v := 1) hx hb dX12_ringFrom_49 (by decide) ?_
          refine lv_iadd hx hb dX12_ringFrom_50 ?_
          refine lv_iload_n hx hb dX12_ringFrom_51 rfl (lv_at hl 2 rfl) ?_
          refine lv_icmp_ge (tgt := 64) hx hb dX12_ringFrom_52 (by decide) (fun hc11 => ?_) (fun hc11 => ?_)
          · replace h := if_p hc11 h
            refine lv_iinc (v := (xs3 + 1)) (lv' := [(3, .int (xs3 + 1)), (0, .ref (ad g 0)), (1, .int a1), (2, .int xs2)]) hx hb dX12_ringFrom_64 hl (k := 3) rfl (by rw [oi_1]) (by decide) rfl (fun ls hl => ?_)
            refine lv_goto (tgt := 11) hx hb dX12_ringFrom_67 (by decide) ?_
            exact k1 (xs2, (xs3 + 1)) (Option.some.inj h).symm _ _ _ (lv_sub hl [1, 2, 3, 0] rfl) hW
          · replace h := if_n hc11 h
            refine lv_aload_n hx hb dX12_ringFrom_55 rfl (lv_at hl 0 rfl) ?_
            refine gf_X12_153_m0 hC hW dX12_ringFrom_56 ?_
            refine lv_iload_n hx hb dX12_ringFrom_59 rfl (lv_at hl 3 rfl) ?_
            obtain ⟨x12, ex12, hin, h⟩ := mrd_ex h
            refine kr_iald hC hW (wm_48 g μ) hin ex12 dX12_ringFrom_60 ?_
            refine lv_iconst (v := 1) hx hb dX12_ringFrom_61 (by decide) ?_
            refine lv_iadd hx hb dX12_ringFrom_62 ?_
            refine lv_istore_n (lv' := [(2, .int (x12 + 1)), (0, .ref (ad g 0)), (1, .int a1), (3, .int xs3)]) hx hb dX12_ringFrom_63 rfl hl (by decide) rfl (fun ls hl => ?_)
            refine lv_iinc (v := (xs3 + 1)) (lv' := [(3, .int (xs3 + 1)), (2, .int (x12 + 1)), (0, .ref (ad g 0)), (1, .int a1)]) hx hb dX12_ringFrom_64 hl (k := 3) rfl (by rw [oi_1]) (by decide) rfl (fun ls hl => ?_)
            refine lv_goto (tgt := 11) hx hb dX12_ringFrom_67 (by decide) ?_
            exact k1 ((x12 + 1), (xs3 + 1)) (Option.some.inj h).symm _ _ _ (lv_sub hl [2, 3, 1, 0] rfl) hW
set_option maxHeartbeats 4000000 in
set_option maxRecDepth 100000 in
theorem tl_md_ringFrom_115 (μ : Mm) (a1 : Int32) (a2 : Int32) (a3 : Int32) (hC : Cx g RX12 cX12_ringFrom 5 p s m args c) {e0 : (Int32)} (kx0 : ∀ (ls : Array Slot) (H : Heap) (locs : List Loc), lv_has ls 5 [(0, .ref (ad g 0)), (1, .int a1), (2, .int a2), (3, .int a3), (4, .int e0)] → wP g wm A s.heap μ H locs → W p l e (rmD 2) s m args below meth c H locs 0 0 Q (F0 m 154 ls [])) : ∀ (n : Nat) (q : Int32), miter (fun q => md_ringFrom_b115 μ a1 a2 a3 q) n q = some e0 → ∀ (ls : Array Slot) (H : Heap) (locs : List Loc), lv_has ls 5 [(0, .ref (ad g 0)), (1, .int a1), (2, .int a2), (3, .int a3), (4, .int q)] → wP g wm A s.heap μ H locs → W p l e (rmD 2) s m args below meth c H locs 0 0 Q (F0 m 115 ls []) := by
  obtain ⟨hx, hb, hml, hown, hts, hK, hN⟩ := id hC
  refine miter_ind (fun q r hf k1 k2 => ?_)
  obtain ⟨xs4, rfl⟩ : ∃ z, z = q := ⟨_, rfl⟩
  intro ls H locs hl hW
  have h : md_ringFrom_b115 μ a1 a2 a3 xs4 = some r := hf
  unfold md_ringFrom_b115 at h
  refine lv_aload_n hx hb dX12_ringFrom_115 rfl (lv_at hl 0 rfl) ?_
  refine gf_X12_153_m0 hC hW dX12_ringFrom_116 ?_
  refine lv_iload hx hb dX12_ringFrom_119 (lv_at hl 4 rfl) ?_
  obtain ⟨x19, ex19, hin, h⟩ := mrd_ex h
  refine kr_iald hC hW (wm_48 g μ) hin ex19 dX12_ringFrom_121 ?_
  refine lv_iload_n hx hb dX12_ringFrom_122 rfl (lv_at hl 2 rfl) ?_
  refine lv_iload_n hx hb dX12_ringFrom_123 rfl (lv_at hl 3 rfl) ?_
  refine lv_isub hx hb dX12_ringFrom_124 ?_
  refine lv_icmp_ne (tgt := 145) hx hb dX12_ringFrom_125 (by decide) (fun hc20 => ?_) (fun hc20 => ?_)
  · replace h := if_n hc20 h
    refine lv_iload hx hb dX12_ringFrom_145 (lv_at hl 4 rfl) ?_
    refine lv_iconst (v := 1) hx hb dX12_ringFrom_147 (by decide) ?_
    refine lv_iadd hx hb dX12_ringFrom_148 ?_
    refine lv_istore (lv' := [(4, .int (xs4 + 1)), (0, .ref (ad g 0)), (1, .int a1), (2, .int a2), (3, .int a3)]) hx hb dX12_ringFrom_149 hl (by decide) rfl (fun ls hl => ?_)
    refine lv_goto (tgt := 115) hx hb dX12_ringFrom_151 (by decide) ?_
    exact k1 (xs4 + 1) (Option.some.inj h).symm _ _ _ (lv_sub hl [1, 2, 3, 4, 0] rfl) hW
  · replace h := if_p hc20 h
    refine lv_aload_n hx hb dX12_ringFrom_128 rfl (lv_at hl 0 rfl) ?_
    refine lv_aload_n hx hb dX12_ringFrom_129 rfl (lv_at hl 0 rfl) ?_
    refine gf_X12_156_m0 hC hW dX12_ringFrom_130 ?_
    refine lv_iload_n hx hb dX12_ringFrom_133 rfl (lv_at hl 3 rfl) ?_
    refine lv_iconst (v := 1) hx hb dX12_ringFrom_134 (by decide) ?_
    refine lv_isub hx hb dX12_ringFrom_135 ?_
    obtain ⟨x21, ex21, hin, h⟩ := mrd_ex h
    refine kr_iald hC hW (wm_49 g μ) hin ex21 dX12_ringFrom_136 ?_
    refine lv_iload hx hb dX12_ringFrom_137 (lv_at hl 4 rfl) ?_
    obtain ⟨x22, hx22, h⟩ := mbv_some h
    refine kr_ci hC hW (kr_runV hC hW hl.1 (t_md_asksFrom hx22) cw_X12_398 (wm_0 g μ) rfl rfl rfl (Nat.le_of_ble_eq_true rfl) dX12_ringFrom_139 (by decide)) (fun H locs hW => ?_)
    refine lv_if_ne (tgt := 154) hx hb dX12_ringFrom_142 (by decide) (fun hc23 => ?_) (fun hc23 => ?_)
    · replace h := if_n hc23 h
      obtain rfl := k2 _ (Option.some.inj h).symm
      exact kx0 _ _ _ (lv_sub hl [0, 1, 2, 3, 4] rfl) hW
    · replace h := if_p hc23 h
      refine lv_iload hx hb dX12_ringFrom_145 (lv_at hl 4 rfl) ?_
      refine lv_iconst (v := 1) hx hb dX12_ringFrom_147 (by decide) ?_
      refine lv_iadd hx hb dX12_ringFrom_148 ?_
      refine lv_istore (lv' := [(4, .int (xs4 + 1)), (0, .ref (ad g 0)), (1, .int a1), (2, .int a2), (3, .int a3)]) hx hb dX12_ringFrom_149 hl (by decide) rfl (fun ls hl => ?_)
      refine lv_goto (tgt := 115) hx hb dX12_ringFrom_151 (by decide) ?_
      exact k1 (xs4 + 1) (Option.some.inj h).symm _ _ _ (lv_sub hl [1, 2, 3, 4, 0] rfl) hW
set_option maxHeartbeats 4000000 in
set_option maxRecDepth 100000 in
theorem tl_md_ringFrom_105 (a1 : Int32) (a2 : Int32) (hC : Cx g RX12 cX12_ringFrom 5 p s m args c) {e0 : (Mm)} (kx0 : ∀ (ls : Array Slot) (H : Heap) (locs : List Loc), lv_has ls 5 [] → wP g wm A s.heap e0 H locs → W p l e (rmD 2) s m args below meth c H locs 0 0 Q (F0 m 168 ls [])) : ∀ (n : Nat) (q : Int32 × Mm), miter (fun q => md_ringFrom_b105 q.2 a1 a2 q.1) n q = some e0 → ∀ (ls : Array Slot) (H : Heap) (locs : List Loc), lv_has ls 5 [(0, .ref (ad g 0)), (1, .int a1), (2, .int a2), (3, .int q.1)] → wP g wm A s.heap q.2 H locs → W p l e (rmD 2) s m args below meth c H locs 0 0 Q (F0 m 105 ls []) := by
  obtain ⟨hx, hb, hml, hown, hts, hK, hN⟩ := id hC
  refine miter_ind (fun q r hf k1 k2 => ?_)
  obtain ⟨xs3, μ⟩ := q
  intro ls H locs hl hW
  have h : md_ringFrom_b105 μ a1 a2 xs3 = some r := hf
  unfold md_ringFrom_b105 at h
  refine lv_iload_n hx hb dX12_ringFrom_105 rfl (lv_at hl 3 rfl) ?_
  refine lv_iload_n hx hb dX12_ringFrom_106 rfl (lv_at hl 2 rfl) ?_
  refine lv_icmp_ge (tgt := 168) hx hb dX12_ringFrom_107 (by decide) (fun hc18 => ?_) (fun hc18 => ?_)
  · replace h := if_p hc18 h
    obtain rfl := k2 _ (Option.some.inj h).symm
    exact kx0 _ _ _ (lv_sub hl [] rfl) hW
  · replace h := if_n hc18 h
    refine lv_iload_n hx hb dX12_ringFrom_110 rfl (lv_at hl 1 rfl) ?_
    refine lv_iconst (v := 1) hx hb dX12_ringFrom_111 (by decide) ?_
    refine lv_iadd hx hb dX12_ringFrom_112 ?_
    refine lv_istore (lv' := [(4, .int (a1 + 1)), (0, .ref (ad g 0)), (1, .int a1), (2, .int a2), (3, .int xs3)]) hx hb dX12_ringFrom_113 hl (by decide) rfl (fun ls hl => ?_)
    obtain ⟨x24, he26, h⟩ := mbv_some h
    refine tl_md_ringFrom_115 μ a1 a2 xs3 hC (fun ls H locs hl hW => ?_) FU (a1 + 1) he26 _ _ _ (lv_sub hl [1, 2, 3, 4, 0] rfl) hW
    refine lv_aload_n hx hb dX12_ringFrom_154 rfl (lv_at hl 0 rfl) ?_
    refine gf_X12_156_m0 hC hW dX12_ringFrom_155 ?_
    refine lv_iload_n hx hb dX12_ringFrom_158 rfl (lv_at hl 3 rfl) ?_
    refine lv_iload hx hb dX12_ringFrom_159 (lv_at hl 4 rfl) ?_
    obtain ⟨μ25, eμ25, hin, h⟩ := mwr_ex h
    refine kr_iast hC hW (wm_49 g μ) (wms_49 eμ25) hin dX12_ringFrom_161 (fun H locs hW => ?_)
    refine lv_iinc (v := (xs3 + 1)) (lv' := [(3, .int (xs3 + 1)), (0, .ref (ad g 0)), (1, .int a1), (2, .int a2), (4, .int x24)]) hx hb dX12_ringFrom_162 hl (k := 3) rfl (by rw [oi_1]) (by decide) rfl (fun ls hl => ?_)
    refine lv_goto (tgt := 105) hx hb dX12_ringFrom_165 (by decide) ?_
    exact k1 ((xs3 + 1), μ25) (Option.some.inj h).symm _ _ _ (lv_sub hl [1, 2, 3, 0] rfl) hW
set_option maxHeartbeats 4000000 in
set_option maxRecDepth 100000 in
theorem tj_md_ringFrom_91 {μ : Mm} (a1 : Int32) (a2 : Int32) (hC : Cx g RX12 cX12_ringFrom 5 p s m args c) (hr : meth.sig.returnType = none) (hlocks : meth.locks = false) {u : Mm} (hl : lv_has ls 5 [(0, .ref (ad g 0)), (1, .int a1), (2, .int a2)]) (hW : wP g wm A s.heap μ H locs) (h : md_ringFrom_j91 μ a1 a2 = some u) : W p l e (rmD 2) s m args below meth c H locs 0 0 (MQ below (Qv g A wm u) args s 0 0 A) (F0 m 91 ls []) := by
  obtain ⟨hx, hb, hml, hown, hts, hK, hN⟩ := id hC
  unfold md_ringFrom_j91 at h
  refine lv_aload_n hx hb dX12_ringFrom_91 rfl (lv_at hl 0 rfl) ?_
  refine lv_iload_n hx hb dX12_ringFrom_92 rfl (lv_at hl 2 rfl) ?_
  obtain ⟨μ16, eμ16, h⟩ := mst_some h
  refine pf_X12_404_m0 hC hW eμ16 dX12_ringFrom_93 (fun H locs hW => ?_)
  refine lv_aload_n hx hb dX12_ringFrom_96 rfl (lv_at hl 0 rfl) ?_
  refine gf_X12_156_m0 hC hW dX12_ringFrom_97 ?_
  refine lv_iconst (v := 0) hx hb dX12_ringFrom_100 (by decide) ?_
  refine lv_iload_n hx hb dX12_ringFrom_101 rfl (lv_at hl 1 rfl) ?_
  obtain ⟨μ17, eμ17, hin, h⟩ := mwr_ex h
  refine kr_iast hC hW (wm_49 g μ16) (wms_49 eμ17) hin dX12_ringFrom_102 (fun H locs hW => ?_)
  refine lv_iconst (v := 1) hx hb dX12_ringFrom_103 (by decide) ?_
  refine lv_istore_n (lv' := [(3, .int 1), (0, .ref (ad g 0)), (1, .int a1), (2, .int a2)]) hx hb dX12_ringFrom_104 rfl hl (by decide) rfl (fun ls hl => ?_)
  obtain ⟨μ27, he28, h⟩ := mbv_some h
  refine tl_md_ringFrom_105 a1 a2 hC (fun ls H locs hl hW => ?_) FU (1, μ17) he28 _ _ _ (lv_sub hl [1, 2, 3, 0] rfl) hW
  cases h
  exact kr_vret hC hr hlocks hW dX12_ringFrom_168
set_option maxHeartbeats 4000000 in
set_option maxRecDepth 100000 in
theorem t_md_ringFrom {l : Launch} {g : Gx} {A : Nat → Prop} {μ : Mm} {a1 : Int32} {u : Mm} (h : md_ringFrom μ a1 = some u) : Ctv l g A wm yX12_ringFrom cX12_ringFrom 5 none 2 [.ref (ad g 0), .int a1] μ u := by
  refine ent (lv := [(0, .ref (ad g 0)), (1, .int a1)]) (by decide) (Nat.le_of_ble_eq_true rfl) rfl ?_
  intro p e s m args below meth c hC hr hlocks hnm hW ls hl
  replace hC : Cx g RX12 cX12_ringFrom 5 p s m args c := hC
  obtain ⟨hx, hb, hml, hown, hts, hK, hN⟩ := id hC
  unfold md_ringFrom at h
  refine lv_aload_n hx hb dX12_ringFrom_0 rfl (lv_at hl 0 rfl) ?_
  refine lv_iload_n hx hb dX12_ringFrom_1 rfl (lv_at hl 1 rfl) ?_
  obtain ⟨μ2, hxμ2, h⟩ := mbv_some h
  refine kr_cv hC hW (kr_runV hC hW hl.1 (t_md_measures hxμ2) cw_X12_401 (wm_0 g μ) rfl rfl rfl (Nat.le_of_ble_eq_true rfl) dX12_ringFrom_2 (by decide)) (fun H locs hW => ?_)
  refine lv_iconst (v := (-1)) hx hb dX12_ringFrom_5 (by decide) ?_
  refine lv_istore_n (lv' := [(2, .int (-1)), (0, .ref (ad g 0)), (1, .int a1)]) hx hb dX12_ringFrom_6 rfl hl (by decide) rfl (fun ls hl => ?_)
  refine lv_iload_n hx hb dX12_ringFrom_7 rfl (lv_at hl 2 rfl) ?_
  refine lv_iconst (v := 1) hx hb dX12_ringFrom_8 (by decide) ?_
  refine lv_iadd hx hb dX12_ringFrom_9 ?_
  refine lv_istore_n (lv' := [(3, .int (a1 + 1)), (2, .int (-1)), (0, .ref (ad g 0)), (1, .int a1)]) hx hb dX12_ringFrom_10 rfl hl (by decide) rfl (fun ls hl => ?_)
  obtain ⟨x13, he30, h⟩ := mbv_some h
  refine tl_md_ringFrom_11 μ2 a1 hC (fun ls H locs hl hW => ?_) FU ((-1), (a1 + 1)) he30 _ _ _ (lv_sub hl [2, 3, 1, 0] rfl) hW
  refine lv_iload_n hx hb dX12_ringFrom_70 rfl (lv_at hl 2 rfl) ?_
  refine lv_iconst (v := (-1)) hx hb dX12_ringFrom_71 (by decide) ?_
  refine lv_icmp_eq (tgt := 90) hx hb dX12_ringFrom_72 (by decide) (fun hc14 => ?_) (fun hc14 => ?_)
  · replace h := if_p hc14 h
    cases h
    exact kr_vret hC hr hlocks hW dX12_ringFrom_90
  · replace h := if_n hc14 h
    refine lv_aload_n hx hb dX12_ringFrom_75 rfl (lv_at hl 0 rfl) ?_
    refine gf_X12_404_m0 hC hW dX12_ringFrom_76 ?_
    refine lv_if_le (tgt := 91) hx hb dX12_ringFrom_79 (by decide) (fun hc15 => ?_) (fun hc15 => ?_)
    · replace h := if_p hc15 h
      exact tj_md_ringFrom_91 a1 x13 hC hr hlocks (lv_sub hl [0, 1, 2] rfl) hW h
    · replace h := if_n hc15 h
      refine lv_iload_n hx hb dX12_ringFrom_82 rfl (lv_at hl 2 rfl) ?_
      refine lv_aload_n hx hb dX12_ringFrom_83 rfl (lv_at hl 0 rfl) ?_
      refine gf_X12_404_m0 hC hW dX12_ringFrom_84 ?_
      refine lv_icmp_lt (tgt := 91) hx hb dX12_ringFrom_87 (by decide) (fun hc29 => ?_) (fun hc29 => ?_)
      · replace h := if_p hc29 h
        exact tj_md_ringFrom_91 a1 x13 hC hr hlocks (lv_sub hl [0, 1, 2] rfl) hW h
      · replace h := if_n hc29 h
        cases h
        exact kr_vret hC hr hlocks hW dX12_ringFrom_90
set_option maxHeartbeats 4000000 in
set_option maxRecDepth 100000 in
theorem tl_md_ring_7 (a1 : Int32) (hC : Cx g RX12 cX12_ring 3 p s m args c) {e0 : (Mm)} (kx0 : ∀ (ls : Array Slot) (H : Heap) (locs : List Loc), lv_has ls 3 [(0, .ref (ad g 0)), (1, .int a1)] → wP g wm A s.heap e0 H locs → W p l e (rmD 3) s m args below meth c H locs 0 0 Q (F0 m 26 ls [])) : ∀ (n : Nat) (q : Int32 × Mm), miter (fun q => md_ring_b7 q.2 a1 q.1) n q = some e0 → ∀ (ls : Array Slot) (H : Heap) (locs : List Loc), lv_has ls 3 [(0, .ref (ad g 0)), (1, .int a1), (2, .int q.1)] → wP g wm A s.heap q.2 H locs → W p l e (rmD 3) s m args below meth c H locs 0 0 Q (F0 m 7 ls []) := by
  obtain ⟨hx, hb, hml, hown, hts, hK, hN⟩ := id hC
  refine miter_ind (fun q r hf k1 k2 => ?_)
  obtain ⟨xs2, μ⟩ := q
  intro ls H locs hl hW
  have h : md_ring_b7 μ a1 xs2 = some r := hf
  unfold md_ring_b7 at h
  refine lv_iload_n hx hb dX12_ring_7 rfl (lv_at hl 2 rfl) ?_
  refine lv_aload_n hx hb dX12_ring_8 rfl (lv_at hl 0 rfl) ?_
  refine gf_X12_193_m0 hC hW dX12_ring_9 ?_
  refine lv_icmp_ge (tgt := 26) hx hb dX12_ring_12 (by decide) (fun hc2 => ?_) (fun hc2 => ?_)
  · replace h := if_p hc2 h
    obtain rfl := k2 _ (Option.some.inj h).symm
    exact kx0 _ _ _ (lv_sub hl [0, 1] rfl) hW
  · replace h := if_n hc2 h
    refine lv_aload_n hx hb dX12_ring_15 rfl (lv_at hl 0 rfl) ?_
    refine lv_iload_n hx hb dX12_ring_16 rfl (lv_at hl 2 rfl) ?_
    obtain ⟨μ4, hxμ4, h⟩ := mbv_some h
    refine kr_cv hC hW (kr_runV hC hW hl.1 (t_md_ringFrom hxμ4) cw_X12_407 (wm_0 g μ) rfl rfl rfl (Nat.le_of_ble_eq_true rfl) dX12_ring_17 (by decide)) (fun H locs hW => ?_)
    refine lv_iinc (v := (xs2 + 1)) (lv' := [(2, .int (xs2 + 1)), (0, .ref (ad g 0)), (1, .int a1)]) hx hb dX12_ring_20 hl (k := 2) rfl (by rw [oi_1]) (by decide) rfl (fun ls hl => ?_)
    refine lv_goto (tgt := 7) hx hb dX12_ring_23 (by decide) ?_
    exact k1 ((xs2 + 1), μ4) (Option.some.inj h).symm _ _ _ (lv_sub hl [1, 2, 0] rfl) hW
set_option maxHeartbeats 4000000 in
set_option maxRecDepth 100000 in
theorem t_md_ring {l : Launch} {g : Gx} {A : Nat → Prop} {μ : Mm} {a1 : Int32} {v : Int32} {u : Mm} (h : md_ring μ a1 = some (v, u)) : Cti l g A wm yX12_ring cX12_ring 3 (some .int) 3 [.ref (ad g 0), .int a1] μ v u := by
  refine ent (lv := [(0, .ref (ad g 0)), (1, .int a1)]) (by decide) (Nat.le_of_ble_eq_true rfl) rfl ?_
  intro p e s m args below meth c hC hr hlocks hnm hW ls hl
  replace hC : Cx g RX12 cX12_ring 3 p s m args c := hC
  obtain ⟨hx, hb, hml, hown, hts, hK, hN⟩ := id hC
  unfold md_ring at h
  refine lv_aload_n hx hb dX12_ring_0 rfl (lv_at hl 0 rfl) ?_
  refine lv_iconst (v := 0) hx hb dX12_ring_1 (by decide) ?_
  obtain ⟨μ1, eμ1, h⟩ := mst_some h
  refine pf_X12_404_m0 hC hW eμ1 dX12_ring_2 (fun H locs hW => ?_)
  refine lv_iconst (v := 0) hx hb dX12_ring_5 (by decide) ?_
  refine lv_istore_n (lv' := [(2, .int 0), (0, .ref (ad g 0)), (1, .int a1)]) hx hb dX12_ring_6 rfl hl (by decide) rfl (fun ls hl => ?_)
  obtain ⟨μ5, he10, h⟩ := mbv_some h
  refine tl_md_ring_7 a1 hC (fun ls H locs hl hW => ?_) FU (0, μ1) he10 _ _ _ (lv_sub hl [1, 2, 0] rfl) hW
  refine lv_iload_n hx hb dX12_ring_26 rfl (lv_at hl 1 rfl) ?_
  refine lv_iconst (v := (-1)) hx hb dX12_ring_27 (by decide) ?_
  refine lv_icmp_ne (tgt := 36) hx hb dX12_ring_28 (by decide) (fun hc6 => ?_) (fun hc6 => ?_)
  · replace h := if_n hc6 h
    refine lv_iload_n hx hb dX12_ring_36 rfl (lv_at hl 1 rfl) ?_
    refine lv_iconst (v := 0) hx hb dX12_ring_37 (by decide) ?_
    refine lv_aload_n hx hb dX12_ring_38 rfl (lv_at hl 0 rfl) ?_
    refine gf_X12_404_m0 hC hW dX12_ring_39 ?_
    refine lv_iconst (v := 1) hx hb dX12_ring_42 (by decide) ?_
    refine lv_isub hx hb dX12_ring_43 ?_
    obtain ⟨x7, hx7, h⟩ := mbv_some h
    refine kr_ci hC hW (kr_runS hC hW hl.1 (t_md_in hx7) cw_X12_199 rfl rfl (Nat.le_of_ble_eq_true rfl) dX12_ring_44 (by decide)) (fun H locs hW => ?_)
    refine lv_if_eq (tgt := 59) hx hb dX12_ring_47 (by decide) (fun hc8 => ?_) (fun hc8 => ?_)
    · replace h := if_p hc8 h
      refine lv_iconst (v := (-1)) hx hb dX12_ring_59 (by decide) ?_
      cases h
      exact kr_iret hC hr hlocks hW dX12_ring_60
    · replace h := if_n hc8 h
      refine lv_aload_n hx hb dX12_ring_50 rfl (lv_at hl 0 rfl) ?_
      refine gf_X12_156_m0 hC hW dX12_ring_51 ?_
      refine lv_iload_n hx hb dX12_ring_54 rfl (lv_at hl 1 rfl) ?_
      obtain ⟨x9, ex9, hin, h⟩ := mrd_ex h
      refine kr_iald hC hW (wm_49 g μ5) hin ex9 dX12_ring_55 ?_
      refine lv_goto (tgt := 60) hx hb dX12_ring_56 (by decide) ?_
      cases h
      exact kr_iret hC hr hlocks hW dX12_ring_60
  · replace h := if_p hc6 h
    refine lv_aload_n hx hb dX12_ring_31 rfl (lv_at hl 0 rfl) ?_
    refine gf_X12_404_m0 hC hW dX12_ring_32 ?_
    cases h
    exact kr_iret hC hr hlocks hW dX12_ring_35
set_option maxHeartbeats 4000000 in
set_option maxRecDepth 100000 in
theorem t_md_isToday {l : Launch} {g : Gx} {A : Nat → Prop} {μ : Mm} {a1 : Int32} {a2 : Int32} {v : Bool} (h : md_isToday μ a1 a2 = some v) : Cti l g A wm yX12_isToday cX12_isToday 3 (some .boolean) 2 [.ref (ad g 0), .int a1, .int a2] μ (bI v) μ := by
  refine ent (lv := [(0, .ref (ad g 0)), (1, .int a1), (2, .int a2)]) (by decide) (Nat.le_of_ble_eq_true rfl) rfl ?_
  intro p e s m args below meth c hC hr hlocks hnm hW ls hl
  replace hC : Cx g RX12 cX12_isToday 3 p s m args c := hC
  obtain ⟨hx, hb, hml, hown, hts, hK, hN⟩ := id hC
  unfold md_isToday at h
  refine lv_aload_n hx hb dX12_isToday_0 rfl (lv_at hl 0 rfl) ?_
  refine lv_iload_n hx hb dX12_isToday_1 rfl (lv_at hl 2 rfl) ?_
  refine lv_aload_n hx hb dX12_isToday_2 rfl (lv_at hl 0 rfl) ?_
  refine gf_X12_52_m0 hC hW dX12_isToday_3 ?_
  refine lv_iload_n hx hb dX12_isToday_6 rfl (lv_at hl 1 rfl) ?_
  obtain ⟨x1, ex1, hin, h⟩ := mrd_ex h
  refine kr_iald hC hW (wm_15 g μ) hin ex1 dX12_isToday_7 ?_
  refine lv_aload_n hx hb dX12_isToday_8 rfl (lv_at hl 0 rfl) ?_
  refine gf_X12_196_m0 hC hW dX12_isToday_9 ?_
  obtain ⟨x2, hx2, h⟩ := mbv_some h
  refine kr_ci hC hW (kr_runV hC hW hl.1 (t_md_isVisited hx2) cw_X12_346 (wm_0 g μ) rfl rfl rfl (Nat.le_of_ble_eq_true rfl) dX12_isToday_12 (by decide)) (fun H locs hW => ?_)
  cases h
  exact kr_zret hC hr hlocks _ rfl hW dX12_isToday_15
set_option maxHeartbeats 4000000 in
set_option maxRecDepth 100000 in
theorem tl_md_wishes_21 (a1 : Int32) (a2 : Int32) (a3 : Int32) (a4 : Int32) (hC : Cx g RX12 cX12_wishes 6 p s m args c) {e0 : (Mm)} (kx0 : ∀ (ls : Array Slot) (H : Heap) (locs : List Loc), lv_has ls 6 [(0, .ref (ad g 0)), (1, .int a1), (2, .int a2), (3, .int a3)] → wP g wm A s.heap e0 H locs → W p l e (rmD 4) s m args below meth c H locs 0 0 Q (F0 m 70 ls [])) : ∀ (n : Nat) (q : Int32 × Mm), miter (fun q => md_wishes_b21 q.2 a1 a2 a3 a4 q.1) n q = some e0 → ∀ (ls : Array Slot) (H : Heap) (locs : List Loc), lv_has ls 6 [(0, .ref (ad g 0)), (1, .int a1), (2, .int a2), (3, .int a3), (4, .int a4), (5, .int q.1)] → wP g wm A s.heap q.2 H locs → W p l e (rmD 4) s m args below meth c H locs 0 0 Q (F0 m 21 ls []) := by
  obtain ⟨hx, hb, hml, hown, hts, hK, hN⟩ := id hC
  refine miter_ind (fun q r hf k1 k2 => ?_)
  obtain ⟨xs5, μ⟩ := q
  intro ls H locs hl hW
  have h : md_wishes_b21 μ a1 a2 a3 a4 xs5 = some r := hf
  unfold md_wishes_b21 at h
  refine lv_iload hx hb dX12_wishes_21 (lv_at hl 5 rfl) ?_
  refine lv_aload_n hx hb dX12_wishes_23 rfl (lv_at hl 0 rfl) ?_
  refine gf_X12_187_m0 hC hW dX12_wishes_24 ?_
  refine lv_icmp_ge (tgt := 70) hx hb dX12_wishes_27 (by decide) (fun hc3 => ?_) (fun hc3 => ?_)
  · replace h := if_p hc3 h
    obtain rfl := k2 _ (Option.some.inj h).symm
    exact kx0 _ _ _ (lv_sub hl [0, 1, 2, 3] rfl) hW
  · replace h := if_n hc3 h
    refine lv_aload_n hx hb dX12_wishes_30 rfl (lv_at hl 0 rfl) ?_
    refine gf_X12_159_m0 hC hW dX12_wishes_31 ?_
    refine lv_bipush (v := 32) hx hb dX12_wishes_34 (by decide) ?_
    refine lv_iload_n hx hb dX12_wishes_36 rfl (lv_at hl 3 rfl) ?_
    refine lv_imul hx hb dX12_wishes_37 ?_
    refine lv_iload hx hb dX12_wishes_38 (lv_at hl 5 rfl) ?_
    refine lv_iadd hx hb dX12_wishes_40 ?_
    refine lv_iload hx hb dX12_wishes_41 (lv_at hl 4 rfl) ?_
    refine lv_if_eq (tgt := 62) hx hb dX12_wishes_43 (by decide) (fun hc4 => ?_) (fun hc4 => ?_)
    · replace h := if_p hc4 h
      refine lv_iconst (v := 0) hx hb dX12_wishes_62 (by decide) ?_
      obtain ⟨μ5, eμ5, hin, h⟩ := mwr_ex h
      refine kr_zast hC hW (wm_50 g μ) (wms_50 eμ5) hin dX12_wishes_63 (fun H locs hW => ?_)
      refine lv_iinc (v := (xs5 + 1)) (lv' := [(5, .int (xs5 + 1)), (0, .ref (ad g 0)), (1, .int a1), (2, .int a2), (3, .int a3), (4, .int a4)]) hx hb dX12_wishes_64 hl (k := 5) rfl (by rw [oi_1]) (by decide) rfl (fun ls hl => ?_)
      refine lv_goto (tgt := 21) hx hb dX12_wishes_67 (by decide) ?_
      exact k1 ((xs5 + 1), μ5) (Option.some.inj h).symm _ _ _ (lv_sub hl [1, 2, 3, 4, 5, 0] rfl) hW
    · replace h := if_n hc4 h
      refine lv_aload_n hx hb dX12_wishes_46 rfl (lv_at hl 0 rfl) ?_
      refine lv_iload_n hx hb dX12_wishes_47 rfl (lv_at hl 3 rfl) ?_
      refine lv_iload hx hb dX12_wishes_48 (lv_at hl 5 rfl) ?_
      refine lv_iconst (v := 0) hx hb dX12_wishes_50 (by decide) ?_
      obtain ⟨x6, μ7, hx6, h⟩ := mbm_some h
      refine kr_ci hC hW (kr_runV hC hW hl.1 (t_md_wantsBy hx6) cw_X12_339 (wm_0 g μ) rfl rfl rfl (Nat.le_of_ble_eq_true rfl) dX12_wishes_51 (by decide)) (fun H locs hW => ?_)
      refine lv_iload_n hx hb dX12_wishes_54 rfl (lv_at hl 2 rfl) ?_
      refine lv_icmp_lt (tgt := 62) hx hb dX12_wishes_55 (by decide) (fun hc8 => ?_) (fun hc8 => ?_)
      · replace h := if_p hc8 h
        refine lv_iconst (v := 0) hx hb dX12_wishes_62 (by decide) ?_
        obtain ⟨μ9, eμ9, hin, h⟩ := mwr_ex h
        refine kr_zast hC hW (wm_50 g μ7) (wms_50 eμ9) hin dX12_wishes_63 (fun H locs hW => ?_)
        refine lv_iinc (v := (xs5 + 1)) (lv' := [(5, .int (xs5 + 1)), (0, .ref (ad g 0)), (1, .int a1), (2, .int a2), (3, .int a3), (4, .int a4)]) hx hb dX12_wishes_64 hl (k := 5) rfl (by rw [oi_1]) (by decide) rfl (fun ls hl => ?_)
        refine lv_goto (tgt := 21) hx hb dX12_wishes_67 (by decide) ?_
        exact k1 ((xs5 + 1), μ9) (Option.some.inj h).symm _ _ _ (lv_sub hl [1, 2, 3, 4, 5, 0] rfl) hW
      · replace h := if_n hc8 h
        refine lv_iconst (v := 1) hx hb dX12_wishes_58 (by decide) ?_
        refine lv_goto (tgt := 63) hx hb dX12_wishes_59 (by decide) ?_
        obtain ⟨μ10, eμ10, hin, h⟩ := mwr_ex h
        refine kr_zast hC hW (wm_50 g μ7) (wms_50 eμ10) hin dX12_wishes_63 (fun H locs hW => ?_)
        refine lv_iinc (v := (xs5 + 1)) (lv' := [(5, .int (xs5 + 1)), (0, .ref (ad g 0)), (1, .int a1), (2, .int a2), (3, .int a3), (4, .int a4)]) hx hb dX12_wishes_64 hl (k := 5) rfl (by rw [oi_1]) (by decide) rfl (fun ls hl => ?_)
        refine lv_goto (tgt := 21) hx hb dX12_wishes_67 (by decide) ?_
        exact k1 ((xs5 + 1), μ10) (Option.some.inj h).symm _ _ _ (lv_sub hl [1, 2, 3, 4, 5, 0] rfl) hW
set_option maxHeartbeats 4000000 in
set_option maxRecDepth 100000 in
theorem tl_md_wishes_2 (a1 : Int32) (a2 : Int32) (hC : Cx g RX12 cX12_wishes 6 p s m args c) {e0 : (Mm)} (kx0 : ∀ (ls : Array Slot) (H : Heap) (locs : List Loc), lv_has ls 6 [] → wP g wm A s.heap e0 H locs → W p l e (rmD 4) s m args below meth c H locs 0 0 Q (F0 m 76 ls [])) : ∀ (n : Nat) (q : Int32 × Mm), miter (fun q => md_wishes_b2 q.2 a1 a2 q.1) n q = some e0 → ∀ (ls : Array Slot) (H : Heap) (locs : List Loc), lv_has ls 6 [(0, .ref (ad g 0)), (1, .int a1), (2, .int a2), (3, .int q.1)] → wP g wm A s.heap q.2 H locs → W p l e (rmD 4) s m args below meth c H locs 0 0 Q (F0 m 2 ls []) := by
  obtain ⟨hx, hb, hml, hown, hts, hK, hN⟩ := id hC
  refine miter_ind (fun q r hf k1 k2 => ?_)
  obtain ⟨xs3, μ⟩ := q
  intro ls H locs hl hW
  have h : md_wishes_b2 μ a1 a2 xs3 = some r := hf
  unfold md_wishes_b2 at h
  refine lv_iload_n hx hb dX12_wishes_2 rfl (lv_at hl 3 rfl) ?_
  refine lv_aload_n hx hb dX12_wishes_3 rfl (lv_at hl 0 rfl) ?_
  refine gf_X12_193_m0 hC hW dX12_wishes_4 ?_
  refine lv_icmp_ge (tgt := 76) hx hb dX12_wishes_7 (by decide) (fun hc1 => ?_) (fun hc1 => ?_)
  · replace h := if_p hc1 h
    obtain rfl := k2 _ (Option.some.inj h).symm
    exact kx0 _ _ _ (lv_sub hl [] rfl) hW
  · replace h := if_n hc1 h
    refine lv_aload_n hx hb dX12_wishes_10 rfl (lv_at hl 0 rfl) ?_
    refine lv_iload_n hx hb dX12_wishes_11 rfl (lv_at hl 3 rfl) ?_
    refine lv_iload_n hx hb dX12_wishes_12 rfl (lv_at hl 1 rfl) ?_
    obtain ⟨x2, hx2, h⟩ := mbv_some h
    refine kr_ci hC hW (kr_runV hC hW hl.1 (t_md_isToday hx2) cw_X12_410 (wm_0 g μ) rfl rfl rfl (Nat.le_of_ble_eq_true rfl) dX12_wishes_13 (by decide)) (fun H locs hW => ?_)
    refine lv_istore (lv' := [(4, .int (bI x2)), (0, .ref (ad g 0)), (1, .int a1), (2, .int a2), (3, .int xs3)]) hx hb dX12_wishes_16 hl (by decide) rfl (fun ls hl => ?_)
    refine lv_iconst (v := 0) hx hb dX12_wishes_18 (by decide) ?_
    refine lv_istore (lv' := [(5, .int 0), (4, .int (bI x2)), (0, .ref (ad g 0)), (1, .int a1), (2, .int a2), (3, .int xs3)]) hx hb dX12_wishes_19 hl (by decide) rfl (fun ls hl => ?_)
    obtain ⟨μ11, he12, h⟩ := mbv_some h
    refine tl_md_wishes_21 a1 a2 xs3 (bI x2) hC (fun ls H locs hl hW => ?_) FU (0, μ) he12 _ _ _ (lv_sub hl [2, 3, 4, 5, 1, 0] rfl) hW
    refine lv_iinc (v := (xs3 + 1)) (lv' := [(3, .int (xs3 + 1)), (0, .ref (ad g 0)), (1, .int a1), (2, .int a2)]) hx hb dX12_wishes_70 hl (k := 3) rfl (by rw [oi_1]) (by decide) rfl (fun ls hl => ?_)
    refine lv_goto (tgt := 2) hx hb dX12_wishes_73 (by decide) ?_
    exact k1 ((xs3 + 1), μ11) (Option.some.inj h).symm _ _ _ (lv_sub hl [1, 2, 3, 0] rfl) hW
set_option maxHeartbeats 4000000 in
set_option maxRecDepth 100000 in
theorem t_md_wishes {l : Launch} {g : Gx} {A : Nat → Prop} {μ : Mm} {a1 : Int32} {a2 : Int32} {u : Mm} (h : md_wishes μ a1 a2 = some u) : Ctv l g A wm yX12_wishes cX12_wishes 6 none 4 [.ref (ad g 0), .int a1, .int a2] μ u := by
  refine ent (lv := [(0, .ref (ad g 0)), (1, .int a1), (2, .int a2)]) (by decide) (Nat.le_of_ble_eq_true rfl) rfl ?_
  intro p e s m args below meth c hC hr hlocks hnm hW ls hl
  replace hC : Cx g RX12 cX12_wishes 6 p s m args c := hC
  obtain ⟨hx, hb, hml, hown, hts, hK, hN⟩ := id hC
  unfold md_wishes at h
  refine lv_iconst (v := 0) hx hb dX12_wishes_0 (by decide) ?_
  refine lv_istore_n (lv' := [(3, .int 0), (0, .ref (ad g 0)), (1, .int a1), (2, .int a2)]) hx hb dX12_wishes_1 rfl hl (by decide) rfl (fun ls hl => ?_)
  obtain ⟨μ13, he14, h⟩ := mbv_some h
  refine tl_md_wishes_2 a1 a2 hC (fun ls H locs hl hW => ?_) FU (0, μ) he14 _ _ _ (lv_sub hl [1, 2, 3, 0] rfl) hW
  cases h
  exact kr_vret hC hr hlocks hW dX12_wishes_76
set_option maxHeartbeats 4000000 in
set_option maxRecDepth 100000 in
theorem tl_md_passesOn_2 (hC : Cx g RX12 cX12_passesOn 5 p s m args c) {e0 : (Mm)} (kx0 : ∀ (ls : Array Slot) (H : Heap) (locs : List Loc), lv_has ls 5 [] → wP g wm A s.heap e0 H locs → W p l e (rmD 0) s m args below meth c H locs 0 0 Q (F0 m 42 ls [])) : ∀ (n : Nat) (q : Int32 × Mm), miter (fun q => md_passesOn_b2 q.2 q.1) n q = some e0 → ∀ (ls : Array Slot) (H : Heap) (locs : List Loc), lv_has ls 5 [(0, .ref (ad g 0)), (2, .int q.1)] → wP g wm A s.heap q.2 H locs → W p l e (rmD 0) s m args below meth c H locs 0 0 Q (F0 m 2 ls []) := by
  obtain ⟨hx, hb, hml, hown, hts, hK, hN⟩ := id hC
  refine miter_ind (fun q r hf k1 k2 => ?_)
  obtain ⟨xs2, μ⟩ := q
  intro ls H locs hl hW
  have h : md_passesOn_b2 μ xs2 = some r := hf
  unfold md_passesOn_b2 at h
  refine lv_iload_n hx hb dX12_passesOn_2 rfl (lv_at hl 1 rfl) ?_
  refine lv_iconst (v := (-1)) hx hb dX12_passesOn_3 (by decide) ?_
  refine lv_icmp_eq (tgt := 42) hx hb dX12_passesOn_4 (by decide) (fun hc1 => ?_) (fun hc1 => ?_)
  · replace h := if_p hc1 h
    obtain rfl := k2 _ (Option.some.inj h).symm
    exact kx0 _ _ _ (lv_sub hl [] rfl) hW
  · replace h := if_n hc1 h
    refine lv_aload_n hx hb dX12_passesOn_7 rfl (lv_at hl 0 rfl) ?_
    refine gf_X12_168_m0 hC hW dX12_passesOn_8 ?_
    refine lv_iload_n hx hb dX12_passesOn_11 rfl (lv_at hl 1 rfl) ?_
    obtain ⟨x2, ex2, hin, h⟩ := mrd_ex h
    refine kr_iald hC hW (wm_53 g μ) hin ex2 dX12_passesOn_12 ?_
    refine lv_istore_n (lv' := [(3, .int x2), (0, .ref (ad g 0)), (2, .int xs2)]) hx hb dX12_passesOn_13 rfl hl (by decide) rfl (fun ls hl => ?_)
    refine lv_aload_n hx hb dX12_passesOn_14 rfl (lv_at hl 1 rfl) ?_
    refine gf_X12_165_m0 hC hW dX12_passesOn_15 ?_
    refine lv_iload_n hx hb dX12_passesOn_18 rfl (lv_at hl 0 rfl) ?_
    obtain ⟨x3, ex3, hin, h⟩ := mrd_ex h
    refine kr_iald hC hW (wm_52 g μ) hin ex3 dX12_passesOn_19 ?_
    refine lv_istore (lv' := [(4, .int x3), (3, .int x2), (0, .ref (ad g 0)), (2, .int xs2)]) hx hb dX12_passesOn_20 hl (by decide) rfl (fun ls hl => ?_)
    refine lv_aload_n hx hb dX12_passesOn_22 rfl (lv_at hl 2 rfl) ?_
    refine gf_X12_162_m0 hC hW dX12_passesOn_23 ?_
    refine lv_iload_n hx hb dX12_passesOn_26 rfl (lv_at hl 3 rfl) ?_
    refine lv_iload_n hx hb dX12_passesOn_27 rfl (lv_at hl 1 rfl) ?_
    obtain ⟨μ4, eμ4, hin, h⟩ := mwr_ex h
    refine kr_iast hC hW (wm_51 g μ) (wms_51 eμ4) hin dX12_passesOn_28 (fun H locs hW => ?_)
    refine lv_aload_n hx hb dX12_passesOn_29 rfl (lv_at hl 2 rfl) ?_
    refine gf_X12_165_m0 hC hW dX12_passesOn_30 ?_
    refine lv_iload_n hx hb dX12_passesOn_33 rfl (lv_at hl 1 rfl) ?_
    refine lv_iload_n hx hb dX12_passesOn_34 rfl (lv_at hl 3 rfl) ?_
    obtain ⟨μ5, eμ5, hin, h⟩ := mwr_ex h
    refine kr_iast hC hW (wm_52 g μ4) (wms_52 eμ5) hin dX12_passesOn_35 (fun H locs hW => ?_)
    refine lv_iload hx hb dX12_passesOn_36 (lv_at hl 0 rfl) ?_
    refine lv_istore_n (lv' := [(2, .int x3), (4, .int x3), (3, .int x2), (0, .ref (ad g 0))]) hx hb dX12_passesOn_38 rfl hl (by decide) rfl (fun ls hl => ?_)
    refine lv_goto (tgt := 2) hx hb dX12_passesOn_39 (by decide) ?_
    exact k1 (x3, μ5) (Option.some.inj h).symm _ _ _ (lv_sub hl [3, 0] rfl) hW
set_option maxHeartbeats 4000000 in
set_option maxRecDepth 100000 in
theorem t_md_passesOn {l : Launch} {g : Gx} {A : Nat → Prop} {μ : Mm} {a1 : Int32} {u : Mm} (h : md_passesOn μ a1 = some u) : Ctv l g A wm yX12_passesOn cX12_passesOn 5 none 0 [.ref (ad g 0), .int a1] μ u := by
  refine ent (lv := [(0, .ref (ad g 0)), (1, .int a1)]) (by decide) (Nat.le_of_ble_eq_true rfl) rfl ?_
  intro p e s m args below meth c hC hr hlocks hnm hW ls hl
  replace hC : Cx g RX12 cX12_passesOn 5 p s m args c := hC
  obtain ⟨hx, hb, hml, hown, hts, hK, hN⟩ := id hC
  unfold md_passesOn at h
  refine lv_iload_n hx hb dX12_passesOn_0 rfl (lv_at hl 1 rfl) ?_
  refine lv_istore_n (lv' := [(2, .int a1), (0, .ref (ad g 0)), (1, .int a1)]) hx hb dX12_passesOn_1 rfl hl (by decide) rfl (fun ls hl => ?_)
  obtain ⟨μ6, he7, h⟩ := mbv_some h
  refine tl_md_passesOn_2 hC (fun ls H locs hl hW => ?_) FU (a1, μ) he7 _ _ _ (lv_sub hl [1, 0] rfl) hW
  cases h
  exact kr_vret hC hr hlocks hW dX12_passesOn_42
set_option maxHeartbeats 4000000 in
set_option maxRecDepth 100000 in
theorem tl_md_finds_2 (a1 : Int32) (hC : Cx g RX12 cX12_finds 5 p s m args c) {e0 : (Mm)} (kx0 : ∀ (ls : Array Slot) (H : Heap) (locs : List Loc), lv_has ls 5 [(0, .ref (ad g 0)), (1, .int a1)] → wP g wm A s.heap e0 H locs → W p l e (rmD 1) s m args below meth c H locs 0 0 Q (F0 m 23 ls [])) : ∀ (n : Nat) (q : Int32 × Mm), miter (fun q => md_finds_b2 q.2 a1 q.1) n q = some e0 → ∀ (ls : Array Slot) (H : Heap) (locs : List Loc), lv_has ls 5 [(0, .ref (ad g 0)), (1, .int a1), (2, .int q.1)] → wP g wm A s.heap q.2 H locs → W p l e (rmD 1) s m args below meth c H locs 0 0 Q (F0 m 2 ls []) := by
  obtain ⟨hx, hb, hml, hown, hts, hK, hN⟩ := id hC
  refine miter_ind (fun q r hf k1 k2 => ?_)
  obtain ⟨xs2, μ⟩ := q
  intro ls H locs hl hW
  have h : md_finds_b2 μ a1 xs2 = some r := hf
  unfold md_finds_b2 at h
  refine lv_iload_n hx hb dX12_finds_2 rfl (lv_at hl 2 rfl) ?_
  refine lv_aload_n hx hb dX12_finds_3 rfl (lv_at hl 0 rfl) ?_
  refine gf_X12_193_m0 hC hW dX12_finds_4 ?_
  refine lv_icmp_ge (tgt := 23) hx hb dX12_finds_7 (by decide) (fun hc1 => ?_) (fun hc1 => ?_)
  · replace h := if_p hc1 h
    obtain rfl := k2 _ (Option.some.inj h).symm
    exact kx0 _ _ _ (lv_sub hl [0, 1] rfl) hW
  · replace h := if_n hc1 h
    refine lv_aload_n hx hb dX12_finds_10 rfl (lv_at hl 0 rfl) ?_
    refine gf_X12_168_m0 hC hW dX12_finds_11 ?_
    refine lv_iload_n hx hb dX12_finds_14 rfl (lv_at hl 2 rfl) ?_
    refine lv_iconst (v := (-1)) hx hb dX12_finds_15 (by decide) ?_
    obtain ⟨μ2, eμ2, hin, h⟩ := mwr_ex h
    refine kr_iast hC hW (wm_53 g μ) (wms_53 eμ2) hin dX12_finds_16 (fun H locs hW => ?_)
    refine lv_iinc (v := (xs2 + 1)) (lv' := [(2, .int (xs2 + 1)), (0, .ref (ad g 0)), (1, .int a1)]) hx hb dX12_finds_17 hl (k := 2) rfl (by rw [oi_1]) (by decide) rfl (fun ls hl => ?_)
    refine lv_goto (tgt := 2) hx hb dX12_finds_20 (by decide) ?_
    exact k1 ((xs2 + 1), μ2) (Option.some.inj h).symm _ _ _ (lv_sub hl [1, 2, 0] rfl) hW
set_option maxHeartbeats 4000000 in
set_option maxRecDepth 100000 in
theorem tl_md_finds_42 (a3 : Int32) (hC : Cx g RX12 cX12_finds 5 p s m args c) {e0 : (Int32 × Mm) ⊕ (Int32 × Mm)} (kx0 : (Sum.elim (fun a => ∀ (ls : Array Slot) (H : Heap) (locs : List Loc), lv_has ls 5 [(0, .ref (ad g 0)), (4, .int a.1)] → wP g wm A s.heap a.2 H locs → W p l e (rmD 1) s m args below meth c H locs 0 0 Q (F0 m 109 ls [])) (fun _ => True)) e0) (kx1 : (Sum.elim (fun _ => True) (fun a => ∀ (ls : Array Slot) (H : Heap) (locs : List Loc), lv_has ls 5 [(0, .ref (ad g 0)), (2, .int a.1), (3, .int a3)] → wP g wm A s.heap a.2 H locs → W p l e (rmD 1) s m args below meth c H locs 0 0 Q (F0 m 140 ls []))) e0) : ∀ (n : Nat) (q : Int32 × Int32 × Mm), miter (fun q => md_finds_b42 q.2.2 a3 q.1 q.2.1) n q = some e0 → ∀ (ls : Array Slot) (H : Heap) (locs : List Loc), lv_has ls 5 [(0, .ref (ad g 0)), (2, .int q.1), (3, .int a3), (4, .int q.2.1)] → wP g wm A s.heap q.2.2 H locs → W p l e (rmD 1) s m args below meth c H locs 0 0 Q (F0 m 42 ls []) := by
  obtain ⟨hx, hb, hml, hown, hts, hK, hN⟩ := id hC
  refine miter_ind (fun q r hf k1 k2 => ?_)
  obtain ⟨xs2, xs4, μ⟩ := q
  intro ls H locs hl hW
  have h : md_finds_b42 μ a3 xs2 xs4 = some r := hf
  unfold md_finds_b42 at h
  refine lv_iload hx hb dX12_finds_42 (lv_at hl 3 rfl) ?_
  refine lv_aload_n hx hb dX12_finds_44 rfl (lv_at hl 0 rfl) ?_
  refine gf_X12_193_m0 hC hW dX12_finds_45 ?_
  refine lv_icmp_ge (tgt := 140) hx hb dX12_finds_48 (by decide) (fun hc6 => ?_) (fun hc6 => ?_)
  · replace h := if_p hc6 h
    obtain rfl := k2 _ (Option.some.inj h).symm
    exact kx1 _ _ _ (lv_sub hl [0, 1, 2] rfl) hW
  · replace h := if_n hc6 h
    refine lv_aload_n hx hb dX12_finds_51 rfl (lv_at hl 0 rfl) ?_
    refine gf_X12_159_m0 hC hW dX12_finds_52 ?_
    refine lv_bipush (v := 32) hx hb dX12_finds_55 (by decide) ?_
    refine lv_iload hx hb dX12_finds_57 (lv_at hl 3 rfl) ?_
    refine lv_imul hx hb dX12_finds_59 ?_
    refine lv_aload_n hx hb dX12_finds_60 rfl (lv_at hl 0 rfl) ?_
    refine gf_X12_171_m0 hC hW dX12_finds_61 ?_
    refine lv_iload_n hx hb dX12_finds_64 rfl (lv_at hl 2 rfl) ?_
    obtain ⟨x7, ex7, hin, h⟩ := mrd_ex h
    refine kr_iald hC hW (wm_54 g μ) hin ex7 dX12_finds_65 ?_
    refine lv_iadd hx hb dX12_finds_66 ?_
    obtain ⟨x8, ex8, hin, h⟩ := mrd_ex h
    refine kr_zald hC hW (wm_50 g μ) hin ex8 dX12_finds_67 ?_
    refine lv_if_eq (tgt := 134) hx hb dX12_finds_68 (by decide) (fun hc9 => ?_) (fun hc9 => ?_)
    · replace h := if_p hc9 h
      refine lv_iinc (v := (xs4 + 1)) (lv' := [(4, .int (xs4 + 1)), (0, .ref (ad g 0)), (2, .int xs2), (3, .int a3)]) hx hb dX12_finds_134 hl (k := 3) rfl (by rw [oi_1]) (by decide) rfl (fun ls hl => ?_)
      refine lv_goto (tgt := 42) hx hb dX12_finds_137 (by decide) ?_
      exact k1 (xs2, (xs4 + 1), μ) (Option.some.inj h).symm _ _ _ (lv_sub hl [1, 2, 3, 0] rfl) hW
    · replace h := if_n hc9 h
      refine lv_aload_n hx hb dX12_finds_71 rfl (lv_at hl 0 rfl) ?_
      refine gf_X12_168_m0 hC hW dX12_finds_72 ?_
      refine lv_iload hx hb dX12_finds_75 (lv_at hl 3 rfl) ?_
      obtain ⟨x10, ex10, hin, h⟩ := mrd_ex h
      refine kr_iald hC hW (wm_53 g μ) hin ex10 dX12_finds_77 ?_
      refine lv_iconst (v := (-1)) hx hb dX12_finds_78 (by decide) ?_
      refine lv_icmp_eq (tgt := 85) hx hb dX12_finds_79 (by decide) (fun hc11 => ?_) (fun hc11 => ?_)
      · replace h := if_p hc11 h
        refine lv_aload_n hx hb dX12_finds_85 rfl (lv_at hl 0 rfl) ?_
        refine gf_X12_168_m0 hC hW dX12_finds_86 ?_
        refine lv_iload hx hb dX12_finds_89 (lv_at hl 3 rfl) ?_
        refine lv_aload_n hx hb dX12_finds_91 rfl (lv_at hl 0 rfl) ?_
        refine gf_X12_171_m0 hC hW dX12_finds_92 ?_
        refine lv_iload_n hx hb dX12_finds_95 rfl (lv_at hl 2 rfl) ?_
        obtain ⟨x12, ex12, hin, h⟩ := mrd_ex h
        refine kr_iald hC hW (wm_54 g μ) hin ex12 dX12_finds_96 ?_
        obtain ⟨μ13, eμ13, hin, h⟩ := mwr_ex h
        refine kr_iast hC hW (wm_53 g μ) (wms_53 eμ13) hin dX12_finds_97 (fun H locs hW => ?_)
        refine lv_aload_n hx hb dX12_finds_98 rfl (lv_at hl 0 rfl) ?_
        refine gf_X12_162_m0 hC hW dX12_finds_99 ?_
        refine lv_iload hx hb dX12_finds_102 (lv_at hl 3 rfl) ?_
        obtain ⟨x14, ex14, hin, h⟩ := mrd_ex h
        refine kr_iald hC hW (wm_51 g μ13) hin ex14 dX12_finds_104 ?_
        refine lv_iconst (v := (-1)) hx hb dX12_finds_105 (by decide) ?_
        refine lv_icmp_ne (tgt := 117) hx hb dX12_finds_106 (by decide) (fun hc15 => ?_) (fun hc15 => ?_)
        · replace h := if_n hc15 h
          refine lv_aload_n hx hb dX12_finds_117 rfl (lv_at hl 0 rfl) ?_
          refine gf_X12_171_m0 hC hW dX12_finds_118 ?_
          refine lv_iload_n hx hb dX12_finds_121 rfl (lv_at hl 1 rfl) ?_
          refine lv_aload_n hx hb dX12_finds_122 rfl (lv_at hl 0 rfl) ?_
          refine gf_X12_162_m0 hC hW dX12_finds_123 ?_
          refine lv_iload hx hb dX12_finds_126 (lv_at hl 3 rfl) ?_
          obtain ⟨x16, ex16, hin, h⟩ := mrd_ex h
          refine kr_iald hC hW (wm_51 g μ13) hin ex16 dX12_finds_128 ?_
          obtain ⟨μ17, eμ17, hin, h⟩ := mwr_ex h
          refine kr_iast hC hW (wm_54 g μ13) (wms_54 eμ17) hin dX12_finds_129 (fun H locs hW => ?_)
          refine lv_iload_n hx hb dX12_finds_130 rfl (lv_at hl 1 rfl) ?_
          refine lv_iconst (v := 1) hx hb dX12_finds_131 (by decide) ?_
          refine lv_iadd hx hb dX12_finds_132 ?_
          refine lv_istore_n (lv' := [(2, .int (xs2 + 1)), (0, .ref (ad g 0)), (3, .int a3), (4, .int xs4)]) hx hb dX12_finds_133 rfl hl (by decide) rfl (fun ls hl => ?_)
          refine lv_iinc (v := (xs4 + 1)) (lv' := [(4, .int (xs4 + 1)), (2, .int (xs2 + 1)), (0, .ref (ad g 0)), (3, .int a3)]) hx hb dX12_finds_134 hl (k := 3) rfl (by rw [oi_1]) (by decide) rfl (fun ls hl => ?_)
          refine lv_goto (tgt := 42) hx hb dX12_finds_137 (by decide) ?_
          exact k1 ((xs2 + 1), (xs4 + 1), μ17) (Option.some.inj h).symm _ _ _ (lv_sub hl [2, 1, 3, 0] rfl) hW
        · replace h := if_p hc15 h
          obtain rfl := k2 _ (Option.some.inj h).symm
          exact kx0 _ _ _ (lv_sub hl [0, 3] rfl) hW
      · replace h := if_n hc11 h
        refine lv_goto (tgt := 134) hx hb dX12_finds_82 (by decide) ?_
        refine lv_iinc (v := (xs4 + 1)) (lv' := [(4, .int (xs4 + 1)), (0, .ref (ad g 0)), (2, .int xs2), (3, .int a3)]) hx hb dX12_finds_134 hl (k := 3) rfl (by rw [oi_1]) (by decide) rfl (fun ls hl => ?_)
        refine lv_goto (tgt := 42) hx hb dX12_finds_137 (by decide) ?_
        exact k1 (xs2, (xs4 + 1), μ) (Option.some.inj h).symm _ _ _ (lv_sub hl [1, 2, 3, 0] rfl) hW
set_option maxHeartbeats 4000000 in
set_option maxRecDepth 100000 in
theorem tl_md_finds_34 (hC : Cx g RX12 cX12_finds 5 p s m args c) {e0 : (Int32 × Mm) ⊕ (Mm)} (kx0 : (Sum.elim (fun a => ∀ (ls : Array Slot) (H : Heap) (locs : List Loc), lv_has ls 5 [(0, .ref (ad g 0)), (4, .int a.1)] → wP g wm A s.heap a.2 H locs → W p l e (rmD 1) s m args below meth c H locs 0 0 Q (F0 m 109 ls [])) (fun _ => True)) e0) (kx1 : (Sum.elim (fun _ => True) (fun a => ∀ (ls : Array Slot) (H : Heap) (locs : List Loc), lv_has ls 5 [] → wP g wm A s.heap a H locs → W p l e (rmD 1) s m args below meth c H locs 0 0 Q (F0 m 146 ls []))) e0) : ∀ (n : Nat) (q : Int32 × Int32 × Mm), miter (fun q => md_finds_b34 q.2.2 q.1 q.2.1) n q = some e0 → ∀ (ls : Array Slot) (H : Heap) (locs : List Loc), lv_has ls 5 [(0, .ref (ad g 0)), (2, .int q.1), (3, .int q.2.1)] → wP g wm A s.heap q.2.2 H locs → W p l e (rmD 1) s m args below meth c H locs 0 0 Q (F0 m 34 ls []) := by
  obtain ⟨hx, hb, hml, hown, hts, hK, hN⟩ := id hC
  refine miter_ind (fun q r hf k1 k2 => ?_)
  obtain ⟨xs2, xs3, μ⟩ := q
  intro ls H locs hl hW
  have h : md_finds_b34 μ xs2 xs3 = some r := hf
  unfold md_finds_b34 at h
  refine lv_iload_n hx hb dX12_finds_34 rfl (lv_at hl 2 rfl) ?_
  refine lv_iload_n hx hb dX12_finds_35 rfl (lv_at hl 1 rfl) ?_
  refine lv_icmp_ge (tgt := 146) hx hb dX12_finds_36 (by decide) (fun hc5 => ?_) (fun hc5 => ?_)
  · replace h := if_p hc5 h
    obtain rfl := k2 _ (Option.some.inj h).symm
    exact kx1 _ _ _ (lv_sub hl [] rfl) hW
  · replace h := if_n hc5 h
    refine lv_iconst (v := 0) hx hb dX12_finds_39 (by decide) ?_
    refine lv_istore (lv' := [(4, .int 0), (0, .ref (ad g 0)), (2, .int xs2), (3, .int xs3)]) hx hb dX12_finds_40 hl (by decide) rfl (fun ls hl => ?_)
    rcases msum2_ex h with ⟨e0, he18, h⟩ | ⟨e0, he18, h⟩
    · obtain ⟨x19, μ20, ee, h9⟩ := un2_ex h
      clear h
      subst ee
      have h := h9
      clear h9
      refine tl_md_finds_42 xs3 hC (e0 := (.inl (x19, μ20))) (fun ls H locs hl hW => ?_) trivial FU (xs2, 0, μ) he18 _ _ _ (lv_sub hl [1, 2, 3, 0] rfl) hW
      obtain rfl := k2 _ (Option.some.inj h).symm
      exact kx0 _ _ _ (lv_sub hl [0, 1] rfl) hW
    · obtain ⟨x21, μ22, ee, h9⟩ := un2_ex h
      clear h
      subst ee
      have h := h9
      clear h9
      refine tl_md_finds_42 xs3 hC (e0 := (.inr (x21, μ22))) trivial (fun ls H locs hl hW => ?_) FU (xs2, 0, μ) he18 _ _ _ (lv_sub hl [1, 2, 3, 0] rfl) hW
      refine lv_iinc (v := (xs3 + 1)) (lv' := [(3, .int (xs3 + 1)), (0, .ref (ad g 0)), (2, .int x21)]) hx hb dX12_finds_140 hl (k := 2) rfl (by rw [oi_1]) (by decide) rfl (fun ls hl => ?_)
      refine lv_goto (tgt := 34) hx hb dX12_finds_143 (by decide) ?_
      exact k1 (x21, (xs3 + 1), μ22) (Option.some.inj h).symm _ _ _ (lv_sub hl [1, 2, 0] rfl) hW
set_option maxHeartbeats 4000000 in
set_option maxRecDepth 100000 in
theorem t_md_finds {l : Launch} {g : Gx} {A : Nat → Prop} {μ : Mm} {a1 : Int32} {v : Bool} {u : Mm} (h : md_finds μ a1 = some (v, u)) : Cti l g A wm yX12_finds cX12_finds 5 (some .boolean) 1 [.ref (ad g 0), .int a1] μ (bI v) u := by
  refine ent (lv := [(0, .ref (ad g 0)), (1, .int a1)]) (by decide) (Nat.le_of_ble_eq_true rfl) rfl ?_
  intro p e s m args below meth c hC hr hlocks hnm hW ls hl
  replace hC : Cx g RX12 cX12_finds 5 p s m args c := hC
  obtain ⟨hx, hb, hml, hown, hts, hK, hN⟩ := id hC
  unfold md_finds at h
  refine lv_iconst (v := 0) hx hb dX12_finds_0 (by decide) ?_
  refine lv_istore_n (lv' := [(2, .int 0), (0, .ref (ad g 0)), (1, .int a1)]) hx hb dX12_finds_1 rfl hl (by decide) rfl (fun ls hl => ?_)
  obtain ⟨μ3, he29, h⟩ := mbv_some h
  refine tl_md_finds_2 a1 hC (fun ls H locs hl hW => ?_) FU (0, μ) he29 _ _ _ (lv_sub hl [1, 2, 0] rfl) hW
  refine lv_aload_n hx hb dX12_finds_23 rfl (lv_at hl 0 rfl) ?_
  refine gf_X12_171_m0 hC hW dX12_finds_24 ?_
  refine lv_iconst (v := 0) hx hb dX12_finds_27 (by decide) ?_
  refine lv_iload_n hx hb dX12_finds_28 rfl (lv_at hl 1 rfl) ?_
  obtain ⟨μ4, eμ4, hin, h⟩ := mwr_ex h
  refine kr_iast hC hW (wm_54 g μ3) (wms_54 eμ4) hin dX12_finds_29 (fun H locs hW => ?_)
  refine lv_iconst (v := 1) hx hb dX12_finds_30 (by decide) ?_
  refine lv_istore_n (lv' := [(2, .int 1), (0, .ref (ad g 0)), (1, .int a1)]) hx hb dX12_finds_31 rfl hl (by decide) rfl (fun ls hl => ?_)
  refine lv_iconst (v := 0) hx hb dX12_finds_32 (by decide) ?_
  refine lv_istore_n (lv' := [(3, .int 0), (2, .int 1), (0, .ref (ad g 0)), (1, .int a1)]) hx hb dX12_finds_33 rfl hl (by decide) rfl (fun ls hl => ?_)
  rcases msum2_ex h with ⟨e0, he23, h⟩ | ⟨μ28, he23, h⟩
  · obtain ⟨x24, μ25, ee, h9⟩ := un2_ex h
    clear h
    subst ee
    have h := h9
    clear h9
    refine tl_md_finds_34 hC (e0 := (.inl (x24, μ25))) (fun ls H locs hl hW => ?_) trivial FU (1, 0, μ4) he23 _ _ _ (lv_sub hl [2, 1, 0] rfl) hW
    refine lv_aload_n hx hb dX12_finds_109 rfl (lv_at hl 0 rfl) ?_
    refine lv_iload hx hb dX12_finds_110 (lv_at hl 1 rfl) ?_
    obtain ⟨μ27, hxμ27, h⟩ := mbv_some h
    refine kr_cv hC hW (kr_runV hC hW hl.1 (t_md_passesOn hxμ27) cw_X12_413 (wm_0 g μ25) rfl rfl rfl (Nat.le_of_ble_eq_true rfl) dX12_finds_112 (by decide)) (fun H locs hW => ?_)
    refine lv_iconst (v := 1) hx hb dX12_finds_115 (by decide) ?_
    cases h
    exact kr_zret hC hr hlocks _ rfl hW dX12_finds_116
  · refine tl_md_finds_34 hC (e0 := (.inr μ28)) trivial (fun ls H locs hl hW => ?_) FU (1, 0, μ4) he23 _ _ _ (lv_sub hl [2, 1, 0] rfl) hW
    refine lv_iconst (v := 0) hx hb dX12_finds_146 (by decide) ?_
    cases h
    exact kr_zret hC hr hlocks _ rfl hW dX12_finds_147
set_option maxHeartbeats 4000000 in
set_option maxRecDepth 100000 in
theorem tl_md_paired_2 (a1 : Int64) (hC : Cx g RX12 cX12_paired 5 p s m args c) {e0 : (Mm)} (kx0 : ∀ (ls : Array Slot) (H : Heap) (locs : List Loc), lv_has ls 5 [(0, .ref (ad g 0)), (1, .long a1)] → wP g wm A s.heap e0 H locs → W p l e (rmD 2) s m args below meth c H locs 0 0 Q (F0 m 23 ls [])) : ∀ (n : Nat) (q : Int32 × Mm), miter (fun q => md_paired_b2 q.2 a1 q.1) n q = some e0 → ∀ (ls : Array Slot) (H : Heap) (locs : List Loc), lv_has ls 5 [(0, .ref (ad g 0)), (1, .long a1), (3, .int q.1)] → wP g wm A s.heap q.2 H locs → W p l e (rmD 2) s m args below meth c H locs 0 0 Q (F0 m 2 ls []) := by
  obtain ⟨hx, hb, hml, hown, hts, hK, hN⟩ := id hC
  refine miter_ind (fun q r hf k1 k2 => ?_)
  obtain ⟨xs3, μ⟩ := q
  intro ls H locs hl hW
  have h : md_paired_b2 μ a1 xs3 = some r := hf
  unfold md_paired_b2 at h
  refine lv_iload_n hx hb dX12_paired_2 rfl (lv_at hl 2 rfl) ?_
  refine lv_aload_n hx hb dX12_paired_3 rfl (lv_at hl 0 rfl) ?_
  refine gf_X12_193_m0 hC hW dX12_paired_4 ?_
  refine lv_icmp_ge (tgt := 23) hx hb dX12_paired_7 (by decide) (fun hc1 => ?_) (fun hc1 => ?_)
  · replace h := if_p hc1 h
    obtain rfl := k2 _ (Option.some.inj h).symm
    exact kx0 _ _ _ (lv_sub hl [0, 1] rfl) hW
  · replace h := if_n hc1 h
    refine lv_aload_n hx hb dX12_paired_10 rfl (lv_at hl 0 rfl) ?_
    refine gf_X12_162_m0 hC hW dX12_paired_11 ?_
    refine lv_iload_n hx hb dX12_paired_14 rfl (lv_at hl 2 rfl) ?_
    refine lv_iconst (v := (-1)) hx hb dX12_paired_15 (by decide) ?_
    obtain ⟨μ2, eμ2, hin, h⟩ := mwr_ex h
    refine kr_iast hC hW (wm_51 g μ) (wms_51 eμ2) hin dX12_paired_16 (fun H locs hW => ?_)
    refine lv_iinc (v := (xs3 + 1)) (lv' := [(3, .int (xs3 + 1)), (0, .ref (ad g 0)), (1, .long a1)]) hx hb dX12_paired_17 hl (k := 2) rfl (by rw [oi_1]) (by decide) rfl (fun ls hl => ?_)
    refine lv_goto (tgt := 2) hx hb dX12_paired_20 (by decide) ?_
    exact k1 ((xs3 + 1), μ2) (Option.some.inj h).symm _ _ _ (lv_sub hl [1, 2, 0] rfl) hW
set_option maxHeartbeats 4000000 in
set_option maxRecDepth 100000 in
theorem tl_md_paired_25 (a1 : Int64) (hC : Cx g RX12 cX12_paired 5 p s m args c) {e0 : (Mm)} (kx0 : ∀ (ls : Array Slot) (H : Heap) (locs : List Loc), lv_has ls 5 [(0, .ref (ad g 0)), (1, .long a1)] → wP g wm A s.heap e0 H locs → W p l e (rmD 2) s m args below meth c H locs 0 0 Q (F0 m 46 ls [])) : ∀ (n : Nat) (q : Int32 × Mm), miter (fun q => md_paired_b25 q.2 a1 q.1) n q = some e0 → ∀ (ls : Array Slot) (H : Heap) (locs : List Loc), lv_has ls 5 [(0, .ref (ad g 0)), (1, .long a1), (3, .int q.1)] → wP g wm A s.heap q.2 H locs → W p l e (rmD 2) s m args below meth c H locs 0 0 Q (F0 m 25 ls []) := by
  obtain ⟨hx, hb, hml, hown, hts, hK, hN⟩ := id hC
  refine miter_ind (fun q r hf k1 k2 => ?_)
  obtain ⟨xs3, μ⟩ := q
  intro ls H locs hl hW
  have h : md_paired_b25 μ a1 xs3 = some r := hf
  unfold md_paired_b25 at h
  refine lv_iload_n hx hb dX12_paired_25 rfl (lv_at hl 2 rfl) ?_
  refine lv_aload_n hx hb dX12_paired_26 rfl (lv_at hl 0 rfl) ?_
  refine gf_X12_187_m0 hC hW dX12_paired_27 ?_
  refine lv_icmp_ge (tgt := 46) hx hb dX12_paired_30 (by decide) (fun hc4 => ?_) (fun hc4 => ?_)
  · replace h := if_p hc4 h
    obtain rfl := k2 _ (Option.some.inj h).symm
    exact kx0 _ _ _ (lv_sub hl [0, 1] rfl) hW
  · replace h := if_n hc4 h
    refine lv_aload_n hx hb dX12_paired_33 rfl (lv_at hl 0 rfl) ?_
    refine gf_X12_165_m0 hC hW dX12_paired_34 ?_
    refine lv_iload_n hx hb dX12_paired_37 rfl (lv_at hl 2 rfl) ?_
    refine lv_iconst (v := (-1)) hx hb dX12_paired_38 (by decide) ?_
    obtain ⟨μ5, eμ5, hin, h⟩ := mwr_ex h
    refine kr_iast hC hW (wm_52 g μ) (wms_52 eμ5) hin dX12_paired_39 (fun H locs hW => ?_)
    refine lv_iinc (v := (xs3 + 1)) (lv' := [(3, .int (xs3 + 1)), (0, .ref (ad g 0)), (1, .long a1)]) hx hb dX12_paired_40 hl (k := 2) rfl (by rw [oi_1]) (by decide) rfl (fun ls hl => ?_)
    refine lv_goto (tgt := 25) hx hb dX12_paired_43 (by decide) ?_
    exact k1 ((xs3 + 1), μ5) (Option.some.inj h).symm _ _ _ (lv_sub hl [1, 2, 0] rfl) hW
set_option maxHeartbeats 4000000 in
set_option maxRecDepth 100000 in
theorem tl_md_paired_51 (a1 : Int64) (hC : Cx g RX12 cX12_paired 5 p s m args c) {e0 : (Int32 × Mm)} (kx0 : ∀ (ls : Array Slot) (H : Heap) (locs : List Loc), lv_has ls 5 [(3, .int e0.1)] → wP g wm A s.heap e0.2 H locs → W p l e (rmD 2) s m args below meth c H locs 0 0 Q (F0 m 90 ls [])) : ∀ (n : Nat) (q : Int32 × Int32 × Mm), miter (fun q => md_paired_b51 q.2.2 a1 q.1 q.2.1) n q = some e0 → ∀ (ls : Array Slot) (H : Heap) (locs : List Loc), lv_has ls 5 [(0, .ref (ad g 0)), (1, .long a1), (3, .int q.1), (4, .int q.2.1)] → wP g wm A s.heap q.2.2 H locs → W p l e (rmD 2) s m args below meth c H locs 0 0 Q (F0 m 51 ls []) := by
  obtain ⟨hx, hb, hml, hown, hts, hK, hN⟩ := id hC
  refine miter_ind (fun q r hf k1 k2 => ?_)
  obtain ⟨xs3, xs4, μ⟩ := q
  intro ls H locs hl hW
  have h : md_paired_b51 μ a1 xs3 xs4 = some r := hf
  unfold md_paired_b51 at h
  refine lv_iload hx hb dX12_paired_51 (lv_at hl 3 rfl) ?_
  refine lv_aload_n hx hb dX12_paired_53 rfl (lv_at hl 0 rfl) ?_
  refine gf_X12_187_m0 hC hW dX12_paired_54 ?_
  refine lv_icmp_ge (tgt := 90) hx hb dX12_paired_57 (by decide) (fun hc7 => ?_) (fun hc7 => ?_)
  · replace h := if_p hc7 h
    obtain rfl := k2 _ (Option.some.inj h).symm
    exact kx0 _ _ _ (lv_sub hl [2] rfl) hW
  · replace h := if_n hc7 h
    refine lv_lload_n hx hb dX12_paired_60 rfl (lv_at hl 1 rfl) ?_
    refine lv_iload hx hb dX12_paired_61 (lv_at hl 3 rfl) ?_
    refine lv_lshr (v := (a1 >>> ((xs4 : Int32).toInt64 &&& 63))) hx hb dX12_paired_63 rfl ?_
    refine lv_lconst (v := 1) hx hb dX12_paired_64 (by decide) ?_
    refine lv_land hx hb dX12_paired_65 ?_
    refine lv_lconst (v := 1) hx hb dX12_paired_66 (by decide) ?_
    refine W.lcmp hx hb dX12_paired_67 ?_
    refine lv_if_ne (tgt := 84) hx hb dX12_paired_68 (by decide) (fun hc8 => ?_) (fun hc8 => ?_)
    · replace h := if_n hc8 h
      refine lv_iinc (v := (xs4 + 1)) (lv' := [(4, .int (xs4 + 1)), (0, .ref (ad g 0)), (1, .long a1), (3, .int xs3)]) hx hb dX12_paired_84 hl (k := 3) rfl (by rw [oi_1]) (by decide) rfl (fun ls hl => ?_)
      refine lv_goto (tgt := 51) hx hb dX12_paired_87 (by decide) ?_
      exact k1 (xs3, (xs4 + 1), μ) (Option.some.inj h).symm _ _ _ (lv_sub hl [1, 2, 3, 0] rfl) hW
    · replace h := if_p hc8 h
      refine lv_aload_n hx hb dX12_paired_71 rfl (lv_at hl 0 rfl) ?_
      refine lv_iload hx hb dX12_paired_72 (lv_at hl 3 rfl) ?_
      obtain ⟨x9, μ10, hx9, h⟩ := mbm_some h
      refine kr_ci hC hW (kr_runV hC hW hl.1 (t_md_finds hx9) cw_X12_416 (wm_0 g μ) rfl rfl rfl (Nat.le_of_ble_eq_true rfl) dX12_paired_74 (by decide)) (fun H locs hW => ?_)
      refine lv_if_eq (tgt := 84) hx hb dX12_paired_77 (by decide) (fun hc11 => ?_) (fun hc11 => ?_)
      · replace h := if_p hc11 h
        refine lv_iinc (v := (xs4 + 1)) (lv' := [(4, .int (xs4 + 1)), (0, .ref (ad g 0)), (1, .long a1), (3, .int xs3)]) hx hb dX12_paired_84 hl (k := 3) rfl (by rw [oi_1]) (by decide) rfl (fun ls hl => ?_)
        refine lv_goto (tgt := 51) hx hb dX12_paired_87 (by decide) ?_
        exact k1 (xs3, (xs4 + 1), μ10) (Option.some.inj h).symm _ _ _ (lv_sub hl [1, 2, 3, 0] rfl) hW
      · replace h := if_n hc11 h
        refine lv_iload_n hx hb dX12_paired_80 rfl (lv_at hl 2 rfl) ?_
        refine lv_iconst (v := 1) hx hb dX12_paired_81 (by decide) ?_
        refine lv_iadd hx hb dX12_paired_82 ?_
        refine lv_istore_n (lv' := [(3, .int (xs3 + 1)), (0, .ref (ad g 0)), (1, .long a1), (4, .int xs4)]) hx hb dX12_paired_83 rfl hl (by decide) rfl (fun ls hl => ?_)
        refine lv_iinc (v := (xs4 + 1)) (lv' := [(4, .int (xs4 + 1)), (3, .int (xs3 + 1)), (0, .ref (ad g 0)), (1, .long a1)]) hx hb dX12_paired_84 hl (k := 3) rfl (by rw [oi_1]) (by decide) rfl (fun ls hl => ?_)
        refine lv_goto (tgt := 51) hx hb dX12_paired_87 (by decide) ?_
        exact k1 ((xs3 + 1), (xs4 + 1), μ10) (Option.some.inj h).symm _ _ _ (lv_sub hl [2, 3, 1, 0] rfl) hW
set_option maxHeartbeats 4000000 in
set_option maxRecDepth 100000 in
theorem t_md_paired {l : Launch} {g : Gx} {A : Nat → Prop} {μ : Mm} {a1 : Int64} {v : Int32} {u : Mm} (h : md_paired μ a1 = some (v, u)) : Cti l g A wm yX12_paired cX12_paired 5 (some .int) 2 [.ref (ad g 0), .long a1] μ v u := by
  refine ent (lv := [(0, .ref (ad g 0)), (1, .long a1)]) (by decide) (Nat.le_of_ble_eq_true rfl) rfl ?_
  intro p e s m args below meth c hC hr hlocks hnm hW ls hl
  replace hC : Cx g RX12 cX12_paired 5 p s m args c := hC
  obtain ⟨hx, hb, hml, hown, hts, hK, hN⟩ := id hC
  unfold md_paired at h
  refine lv_iconst (v := 0) hx hb dX12_paired_0 (by decide) ?_
  refine lv_istore_n (lv' := [(3, .int 0), (0, .ref (ad g 0)), (1, .long a1)]) hx hb dX12_paired_1 rfl hl (by decide) rfl (fun ls hl => ?_)
  obtain ⟨μ3, he16, h⟩ := mbv_some h
  refine tl_md_paired_2 a1 hC (fun ls H locs hl hW => ?_) FU (0, μ) he16 _ _ _ (lv_sub hl [1, 2, 0] rfl) hW
  refine lv_iconst (v := 0) hx hb dX12_paired_23 (by decide) ?_
  refine lv_istore_n (lv' := [(3, .int 0), (0, .ref (ad g 0)), (1, .long a1)]) hx hb dX12_paired_24 rfl hl (by decide) rfl (fun ls hl => ?_)
  obtain ⟨μ6, he15, h⟩ := mbv_some h
  refine tl_md_paired_25 a1 hC (fun ls H locs hl hW => ?_) FU (0, μ3) he15 _ _ _ (lv_sub hl [1, 2, 0] rfl) hW
  refine lv_iconst (v := 0) hx hb dX12_paired_46 (by decide) ?_
  refine lv_istore_n (lv' := [(3, .int 0), (0, .ref (ad g 0)), (1, .long a1)]) hx hb dX12_paired_47 rfl hl (by decide) rfl (fun ls hl => ?_)
  refine lv_iconst (v := 0) hx hb dX12_paired_48 (by decide) ?_
  refine lv_istore (lv' := [(4, .int 0), (3, .int 0), (0, .ref (ad g 0)), (1, .long a1)]) hx hb dX12_paired_49 hl (by decide) rfl (fun ls hl => ?_)
  obtain ⟨e0, he14, h⟩ := mbv_some h
  obtain ⟨x12, μ13, ee, h9⟩ := un2_ex h
  clear h
  subst ee
  have h := h9
  clear h9
  refine tl_md_paired_51 a1 hC (fun ls H locs hl hW => ?_) FU (0, 0, μ6) he14 _ _ _ (lv_sub hl [2, 3, 1, 0] rfl) hW
  refine lv_iload_n hx hb dX12_paired_90 rfl (lv_at hl 0 rfl) ?_
  cases h
  exact kr_iret hC hr hlocks hW dX12_paired_91
set_option maxHeartbeats 4000000 in
set_option maxRecDepth 100000 in
theorem tl_md_isWantedToday_2 (μ : Mm) (a1 : Int32) (hC : Cx g RX12 cX12_isWantedToday 3 p s m args c) {e0 : (Unit) ⊕ (Unit)} (kx0 : (Sum.elim (fun a => ∀ (ls : Array Slot) (H : Heap) (locs : List Loc), lv_has ls 3 [] → wP g wm A s.heap μ H locs → W p l e (rmD 0) s m args below meth c H locs 0 0 Q (F0 m 24 ls [])) (fun _ => True)) e0) (kx1 : (Sum.elim (fun _ => True) (fun a => ∀ (ls : Array Slot) (H : Heap) (locs : List Loc), lv_has ls 3 [] → wP g wm A s.heap μ H locs → W p l e (rmD 0) s m args below meth c H locs 0 0 Q (F0 m 32 ls []))) e0) : ∀ (n : Nat) (q : Int32), miter (fun q => md_isWantedToday_b2 μ a1 q) n q = some e0 → ∀ (ls : Array Slot) (H : Heap) (locs : List Loc), lv_has ls 3 [(0, .ref (ad g 0)), (1, .int a1), (2, .int q)] → wP g wm A s.heap μ H locs → W p l e (rmD 0) s m args below meth c H locs 0 0 Q (F0 m 2 ls []) := by
  obtain ⟨hx, hb, hml, hown, hts, hK, hN⟩ := id hC
  refine miter_ind (fun q r hf k1 k2 => ?_)
  obtain ⟨xs2, rfl⟩ : ∃ z, z = q := ⟨_, rfl⟩
  intro ls H locs hl hW
  have h : md_isWantedToday_b2 μ a1 xs2 = some r := hf
  unfold md_isWantedToday_b2 at h
  refine lv_iload_n hx hb dX12_isWantedToday_2 rfl (lv_at hl 2 rfl) ?_
  refine lv_aload_n hx hb dX12_isWantedToday_3 rfl (lv_at hl 0 rfl) ?_
  refine gf_X12_193_m0 hC hW dX12_isWantedToday_4 ?_
  refine lv_icmp_ge (tgt := 32) hx hb dX12_isWantedToday_7 (by decide) (fun hc1 => ?_) (fun hc1 => ?_)
  · replace h := if_p hc1 h
    obtain rfl := k2 _ (Option.some.inj h).symm
    exact kx1 _ _ _ (lv_sub hl [] rfl) hW
  · replace h := if_n hc1 h
    refine lv_aload_n hx hb dX12_isWantedToday_10 rfl (lv_at hl 0 rfl) ?_
    refine gf_X12_159_m0 hC hW dX12_isWantedToday_11 ?_
    refine lv_bipush (v := 32) hx hb dX12_isWantedToday_14 (by decide) ?_
    refine lv_iload_n hx hb dX12_isWantedToday_16 rfl (lv_at hl 2 rfl) ?_
    refine lv_imul hx hb dX12_isWantedToday_17 ?_
    refine lv_iload_n hx hb dX12_isWantedToday_18 rfl (lv_at hl 1 rfl) ?_
    refine lv_iadd hx hb dX12_isWantedToday_19 ?_
    obtain ⟨x2, ex2, hin, h⟩ := mrd_ex h
    refine kr_zald hC hW (wm_50 g μ) hin ex2 dX12_isWantedToday_20 ?_
    refine lv_if_eq (tgt := 26) hx hb dX12_isWantedToday_21 (by decide) (fun hc3 => ?_) (fun hc3 => ?_)
    · replace h := if_p hc3 h
      refine lv_iinc (v := (xs2 + 1)) (lv' := [(2, .int (xs2 + 1)), (0, .ref (ad g 0)), (1, .int a1)]) hx hb dX12_isWantedToday_26 hl (k := 2) rfl (by rw [oi_1]) (by decide) rfl (fun ls hl => ?_)
      refine lv_goto (tgt := 2) hx hb dX12_isWantedToday_29 (by decide) ?_
      exact k1 (xs2 + 1) (Option.some.inj h).symm _ _ _ (lv_sub hl [1, 2, 0] rfl) hW
    · replace h := if_n hc3 h
      obtain rfl := k2 _ (Option.some.inj h).symm
      exact kx0 _ _ _ (lv_sub hl [] rfl) hW
set_option maxHeartbeats 4000000 in
set_option maxRecDepth 100000 in
theorem t_md_isWantedToday {l : Launch} {g : Gx} {A : Nat → Prop} {μ : Mm} {a1 : Int32} {v : Bool} (h : md_isWantedToday μ a1 = some v) : Cti l g A wm yX12_isWantedToday cX12_isWantedToday 3 (some .boolean) 0 [.ref (ad g 0), .int a1] μ (bI v) μ := by
  refine ent (lv := [(0, .ref (ad g 0)), (1, .int a1)]) (by decide) (Nat.le_of_ble_eq_true rfl) rfl ?_
  intro p e s m args below meth c hC hr hlocks hnm hW ls hl
  replace hC : Cx g RX12 cX12_isWantedToday 3 p s m args c := hC
  obtain ⟨hx, hb, hml, hown, hts, hK, hN⟩ := id hC
  unfold md_isWantedToday at h
  refine lv_iconst (v := 0) hx hb dX12_isWantedToday_0 (by decide) ?_
  refine lv_istore_n (lv' := [(2, .int 0), (0, .ref (ad g 0)), (1, .int a1)]) hx hb dX12_isWantedToday_1 rfl hl (by decide) rfl (fun ls hl => ?_)
  rcases msum2_ex h with ⟨e0, he4, h⟩ | ⟨e0, he4, h⟩
  · refine tl_md_isWantedToday_2 μ a1 hC (e0 := (.inl ())) (fun ls H locs hl hW => ?_) trivial FU 0 he4 _ _ _ (lv_sub hl [1, 2, 0] rfl) hW
    refine lv_iconst (v := 1) hx hb dX12_isWantedToday_24 (by decide) ?_
    cases h
    exact kr_zret hC hr hlocks _ rfl hW dX12_isWantedToday_25
  · refine tl_md_isWantedToday_2 μ a1 hC (e0 := (.inr ())) trivial (fun ls H locs hl hW => ?_) FU 0 he4 _ _ _ (lv_sub hl [1, 2, 0] rfl) hW
    refine lv_iconst (v := 0) hx hb dX12_isWantedToday_32 (by decide) ?_
    cases h
    exact kr_zret hC hr hlocks _ rfl hW dX12_isWantedToday_33
set_option maxHeartbeats 4000000 in
set_option maxRecDepth 100000 in
theorem tl_md_bits_4 (μ : Mm) (a0 : Int32) (hC : Cx g RX12 cX12_bits 3 p s m args c) {e0 : (Int32)} (kx0 : ∀ (ls : Array Slot) (H : Heap) (locs : List Loc), lv_has ls 3 [(1, .int e0)] → wP g Wd A s.heap μ H locs → W p l e (rmD 0) s m args below meth c H locs 0 0 Q (F0 m 24 ls [])) : ∀ (n : Nat) (q : Int32 × Int32), miter (fun q => md_bits_b4 a0 q.1 q.2) n q = some e0 → ∀ (ls : Array Slot) (H : Heap) (locs : List Loc), lv_has ls 3 [(0, .int a0), (1, .int q.1), (2, .int q.2)] → wP g Wd A s.heap μ H locs → W p l e (rmD 0) s m args below meth c H locs 0 0 Q (F0 m 4 ls []) := by
  obtain ⟨hx, hb, hml, hown, hts, hK, hN⟩ := id hC
  refine miter_ind (fun q r hf k1 k2 => ?_)
  obtain ⟨xs1, xs2⟩ := q
  intro ls H locs hl hW
  have h : md_bits_b4 a0 xs1 xs2 = some r := hf
  unfold md_bits_b4 at h
  refine lv_iload_n hx hb dX12_bits_4 rfl (lv_at hl 2 rfl) ?_
  refine lv_bipush (v := 16) hx hb dX12_bits_5 (by decide) ?_
  refine lv_icmp_ge (tgt := 24) hx hb dX12_bits_7 (by decide) (fun hc1 => ?_) (fun hc1 => ?_)
  · replace h := if_p hc1 h
    obtain rfl := k2 _ (Option.some.inj h).symm
    exact kx0 _ _ _ (lv_sub hl [1] rfl) hW
  · replace h := if_n hc1 h
    refine lv_iload_n hx hb dX12_bits_10 rfl (lv_at hl 1 rfl) ?_
    refine lv_iload_n hx hb dX12_bits_11 rfl (lv_at hl 0 rfl) ?_
    refine lv_iload_n hx hb dX12_bits_12 rfl (lv_at hl 2 rfl) ?_
    refine lv_ishr hx hb dX12_bits_13 ?_
    refine lv_iconst (v := 1) hx hb dX12_bits_14 (by decide) ?_
    refine lv_iand hx hb dX12_bits_15 ?_
    refine lv_iadd hx hb dX12_bits_16 ?_
    refine lv_istore_n (lv' := [(1, .int (xs1 + ((a0 >>> (xs2 &&& 31)) &&& 1))), (0, .int a0), (2, .int xs2)]) hx hb dX12_bits_17 rfl hl (by decide) rfl (fun ls hl => ?_)
    refine lv_iinc (v := (xs2 + 1)) (lv' := [(2, .int (xs2 + 1)), (1, .int (xs1 + ((a0 >>> (xs2 &&& 31)) &&& 1))), (0, .int a0)]) hx hb dX12_bits_18 hl (k := 2) rfl (by rw [oi_1]) (by decide) rfl (fun ls hl => ?_)
    refine lv_goto (tgt := 4) hx hb dX12_bits_21 (by decide) ?_
    exact k1 ((xs1 + ((a0 >>> (xs2 &&& 31)) &&& 1)), (xs2 + 1)) (Option.some.inj h).symm _ _ _ (lv_sub hl [2, 1, 0] rfl) hW
set_option maxHeartbeats 4000000 in
set_option maxRecDepth 100000 in
theorem t_md_bits {l : Launch} {g : Gx} {A : Nat → Prop} {Wd : Gx → Mm → va_W} {μ : Mm} {a0 : Int32} {v : Int32} (h : md_bits a0 = some v) : Cti l g A Wd yX12_bits cX12_bits 3 (some .int) 0 [.int a0] μ v μ := by
  refine ent (lv := [(0, .int a0)]) (by decide) (Nat.le_of_ble_eq_true rfl) rfl ?_
  intro p e s m args below meth c hC hr hlocks hnm hW ls hl
  replace hC : Cx g RX12 cX12_bits 3 p s m args c := hC
  obtain ⟨hx, hb, hml, hown, hts, hK, hN⟩ := id hC
  unfold md_bits at h
  refine lv_iconst (v := 0) hx hb dX12_bits_0 (by decide) ?_
  refine lv_istore_n (lv' := [(1, .int 0), (0, .int a0)]) hx hb dX12_bits_1 rfl hl (by decide) rfl (fun ls hl => ?_)
  refine lv_iconst (v := 0) hx hb dX12_bits_2 (by decide) ?_
  refine lv_istore_n (lv' := [(2, .int 0), (1, .int 0), (0, .int a0)]) hx hb dX12_bits_3 rfl hl (by decide) rfl (fun ls hl => ?_)
  obtain ⟨x2, he3, h⟩ := mbv_some h
  refine tl_md_bits_4 μ a0 hC (fun ls H locs hl hW => ?_) FU (0, 0) he3 _ _ _ (lv_sub hl [2, 1, 0] rfl) hW
  refine lv_iload_n hx hb dX12_bits_24 rfl (lv_at hl 0 rfl) ?_
  cases h
  exact kr_iret hC hr hlocks hW dX12_bits_25
set_option maxHeartbeats 4000000 in
set_option maxRecDepth 100000 in
theorem tj_md_load_173 {μ : Mm} (a1 : Int32) (a3 : Int32) (a4 : Int32) (a5 : Int64) (a7 : Int32) (a9 : Int32) (a10 : Int32) (y0 : Int32) (hC : Cx g RX12 cX12_load 20 p s m args c) {e0 : (Int32 × Int32 × Int32 × Mm)} {r : (Int32 × Int32 × Int32 × Int32 × Mm) ⊕ (Int32 × Int32 × Int32 × Mm)} (k1 : ∀ q, r = .inl q → ∀ (ls : Array Slot) (H : Heap) (locs : List Loc), lv_has ls 20 [(0, .ref (ad g 0)), (1, .int a1), (3, .int a3), (4, .int a4), (5, .long a5), (7, .int q.1), (8, .int q.2.1), (9, .int q.2.2.1), (10, .int q.2.2.2.1)] → wP g wm A s.heap q.2.2.2.2 H locs → W p l e (rmD 5) s m args below meth c H locs 0 0 Q (F0 m 72 ls [])) (k2 : ∀ e', r = .inr e' → e' = e0) (kx0 : ∀ (ls : Array Slot) (H : Heap) (locs : List Loc), lv_has ls 20 [(0, .ref (ad g 0)), (1, .int a1), (3, .int a3), (4, .int a4), (7, .int e0.1), (8, .int e0.2.1), (9, .int e0.2.2.1)] → wP g wm A s.heap e0.2.2.2 H locs → W p l e (rmD 5) s m args below meth c H locs 0 0 Q (F0 m 201 ls []))  (hl : lv_has ls 20 [(0, .ref (ad g 0)), (1, .int a1), (3, .int a3), (4, .int a4), (5, .long a5), (7, .int a7), (9, .int a9), (10, .int a10)]) (hW : wP g wm A s.heap μ H locs) (h : md_load_j173 μ a1 a3 a4 a5 a7 a9 a10 y0 = some r) : W p l e (rmD 5) s m args below meth c H locs 0 0 Q (F0 m 173 ls [.int y0]) := by
  obtain ⟨hx, hb, hml, hown, hts, hK, hN⟩ := id hC
  unfold md_load_j173 at h
  refine lv_istore (lv' := [(8, .int y0), (0, .ref (ad g 0)), (1, .int a1), (3, .int a3), (4, .int a4), (5, .long a5), (7, .int a7), (9, .int a9), (10, .int a10)]) hx hb dX12_load_173 hl (by decide) rfl (fun ls hl => ?_)
  refine lv_iload hx hb dX12_load_175 (lv_at hl 7 rfl) ?_
  refine lv_iconst (v := 1) hx hb dX12_load_177 (by decide) ?_
  refine lv_aload_n hx hb dX12_load_178 rfl (lv_at hl 1 rfl) ?_
  refine gf_X12_7_m0 hC hW dX12_load_179 ?_
  refine lv_iload hx hb dX12_load_182 (lv_at hl 8 rfl) ?_
  obtain ⟨x20, ex20, hin, h⟩ := mrd_ex h
  refine kr_iald hC hW (wm_1 g μ) hin ex20 dX12_load_184 ?_
  refine lv_ishl hx hb dX12_load_185 ?_
  refine lv_ior hx hb dX12_load_186 ?_
  refine lv_istore (lv' := [(9, .int (a9 ||| ((1 : Int32) <<< (x20 &&& 31)))), (8, .int y0), (0, .ref (ad g 0)), (1, .int a1), (3, .int a3), (4, .int a4), (5, .long a5), (7, .int a7), (10, .int a10)]) hx hb dX12_load_187 hl (by decide) rfl (fun ls hl => ?_)
  refine lv_iload hx hb dX12_load_189 (lv_at hl 7 rfl) ?_
  refine lv_iconst (v := 1) hx hb dX12_load_191 (by decide) ?_
  refine lv_iadd hx hb dX12_load_192 ?_
  refine lv_istore (lv' := [(7, .int (a7 + 1)), (9, .int (a9 ||| ((1 : Int32) <<< (x20 &&& 31)))), (8, .int y0), (0, .ref (ad g 0)), (1, .int a1), (3, .int a3), (4, .int a4), (5, .long a5), (10, .int a10)]) hx hb dX12_load_193 hl (by decide) rfl (fun ls hl => ?_)
  refine lv_iinc (v := (a10 + 1)) (lv' := [(10, .int (a10 + 1)), (7, .int (a7 + 1)), (9, .int (a9 ||| ((1 : Int32) <<< (x20 &&& 31)))), (8, .int y0), (0, .ref (ad g 0)), (1, .int a1), (3, .int a3), (4, .int a4), (5, .long a5)]) hx hb dX12_load_195 hl (k := 8) rfl (by rw [oi_1]) (by decide) rfl (fun ls hl => ?_)
  refine lv_goto (tgt := 72) hx hb dX12_load_198 (by decide) ?_
  exact k1 ((a7 + 1), y0, (a9 ||| ((1 : Int32) <<< (x20 &&& 31))), (a10 + 1), μ) (Option.some.inj h).symm _ _ _ (lv_sub hl [4, 5, 6, 7, 8, 1, 3, 2, 0] rfl) hW
set_option maxHeartbeats 4000000 in
set_option maxRecDepth 100000 in
theorem tj_md_load_147 {μ : Mm} (a1 : Int32) (a3 : Int32) (a4 : Int32) (a5 : Int64) (a7 : Int32) (a8 : Int32) (a9 : Int32) (a10 : Int32) (a11 : Int32) (hC : Cx g RX12 cX12_load 20 p s m args c) {e0 : (Int32 × Int32 × Int32 × Mm)} {r : (Int32 × Int32 × Int32 × Int32 × Mm) ⊕ (Int32 × Int32 × Int32 × Mm)} (k1 : ∀ q, r = .inl q → ∀ (ls : Array Slot) (H : Heap) (locs : List Loc), lv_has ls 20 [(0, .ref (ad g 0)), (1, .int a1), (3, .int a3), (4, .int a4), (5, .long a5), (7, .int q.1), (8, .int q.2.1), (9, .int q.2.2.1), (10, .int q.2.2.2.1)] → wP g wm A s.heap q.2.2.2.2 H locs → W p l e (rmD 5) s m args below meth c H locs 0 0 Q (F0 m 72 ls [])) (k2 : ∀ e', r = .inr e' → e' = e0) (kx0 : ∀ (ls : Array Slot) (H : Heap) (locs : List Loc), lv_has ls 20 [(0, .ref (ad g 0)), (1, .int a1), (3, .int a3), (4, .int a4), (7, .int e0.1), (8, .int e0.2.1), (9, .int e0.2.2.1)] → wP g wm A s.heap e0.2.2.2 H locs → W p l e (rmD 5) s m args below meth c H locs 0 0 Q (F0 m 201 ls []))  (hl : lv_has ls 20 [(0, .ref (ad g 0)), (1, .int a1), (3, .int a3), (4, .int a4), (5, .long a5), (7, .int a7), (8, .int a8), (9, .int a9), (10, .int a10), (11, .int a11)]) (hW : wP g wm A s.heap μ H locs) (h : md_load_j147 μ a1 a3 a4 a5 a7 a8 a9 a10 a11 = some r) : W p l e (rmD 5) s m args below meth c H locs 0 0 Q (F0 m 147 ls []) := by
  obtain ⟨hx, hb, hml, hown, hts, hK, hN⟩ := id hC
  unfold md_load_j147 at h
  refine lv_aload_n hx hb dX12_load_147 rfl (lv_at hl 0 rfl) ?_
  refine gf_X12_174_m0 hC hW dX12_load_148 ?_
  refine lv_iload hx hb dX12_load_151 (lv_at hl 5 rfl) ?_
  refine lv_iload hx hb dX12_load_153 (lv_at hl 8 rfl) ?_
  obtain ⟨μ18, eμ18, hin, h⟩ := mwr_ex h
  refine kr_iast hC hW (wm_55 g μ) (wms_55 eμ18) hin dX12_load_155 (fun H locs hW => ?_)
  refine lv_iload hx hb dX12_load_156 (lv_at hl 9 rfl) ?_
  refine lv_if_eq (tgt := 171) hx hb dX12_load_158 (by decide) (fun hc19 => ?_) (fun hc19 => ?_)
  · replace h := if_p hc19 h
    refine lv_iload hx hb dX12_load_171 (lv_at hl 6 rfl) ?_
    exact tj_md_load_173 a1 a3 a4 a5 a7 a9 a10 a8 hC k1 k2 kx0 (lv_sub hl [0, 1, 2, 3, 4, 5, 7, 8] rfl) hW h
  · replace h := if_n hc19 h
    refine lv_iload hx hb dX12_load_161 (lv_at hl 6 rfl) ?_
    refine lv_iconst (v := 1) hx hb dX12_load_163 (by decide) ?_
    refine lv_iload hx hb dX12_load_164 (lv_at hl 5 rfl) ?_
    refine lv_ishl hx hb dX12_load_166 ?_
    refine lv_ior hx hb dX12_load_167 ?_
    refine lv_goto (tgt := 173) hx hb dX12_load_168 (by decide) ?_
    exact tj_md_load_173 a1 a3 a4 a5 a7 a9 a10 (a8 ||| ((1 : Int32) <<< (a7 &&& 31))) hC k1 k2 kx0 (lv_sub hl [0, 1, 2, 3, 4, 5, 7, 8] rfl) hW h
set_option maxHeartbeats 4000000 in
set_option maxRecDepth 100000 in
theorem tj_md_load_130 {μ : Mm} (a1 : Int32) (a3 : Int32) (a4 : Int32) (a5 : Int64) (a7 : Int32) (a8 : Int32) (a9 : Int32) (a10 : Int32) (a11 : Int32) (hC : Cx g RX12 cX12_load 20 p s m args c) {e0 : (Int32 × Int32 × Int32 × Mm)} {r : (Int32 × Int32 × Int32 × Int32 × Mm) ⊕ (Int32 × Int32 × Int32 × Mm)} (k1 : ∀ q, r = .inl q → ∀ (ls : Array Slot) (H : Heap) (locs : List Loc), lv_has ls 20 [(0, .ref (ad g 0)), (1, .int a1), (3, .int a3), (4, .int a4), (5, .long a5), (7, .int q.1), (8, .int q.2.1), (9, .int q.2.2.1), (10, .int q.2.2.2.1)] → wP g wm A s.heap q.2.2.2.2 H locs → W p l e (rmD 5) s m args below meth c H locs 0 0 Q (F0 m 72 ls [])) (k2 : ∀ e', r = .inr e' → e' = e0) (kx0 : ∀ (ls : Array Slot) (H : Heap) (locs : List Loc), lv_has ls 20 [(0, .ref (ad g 0)), (1, .int a1), (3, .int a3), (4, .int a4), (7, .int e0.1), (8, .int e0.2.1), (9, .int e0.2.2.1)] → wP g wm A s.heap e0.2.2.2 H locs → W p l e (rmD 5) s m args below meth c H locs 0 0 Q (F0 m 201 ls []))  (hl : lv_has ls 20 [(0, .ref (ad g 0)), (1, .int a1), (3, .int a3), (4, .int a4), (5, .long a5), (7, .int a7), (8, .int a8), (9, .int a9), (10, .int a10), (11, .int a11)]) (hW : wP g wm A s.heap μ H locs) (h : md_load_j130 μ a1 a3 a4 a5 a7 a8 a9 a10 a11 = some r) : W p l e (rmD 5) s m args below meth c H locs 0 0 Q (F0 m 130 ls []) := by
  obtain ⟨hx, hb, hml, hown, hts, hK, hN⟩ := id hC
  unfold md_load_j130 at h
  refine lv_iload hx hb dX12_load_130 (lv_at hl 9 rfl) ?_
  refine lv_if_ne (tgt := 147) hx hb dX12_load_132 (by decide) (fun hc17 => ?_) (fun hc17 => ?_)
  · replace h := if_n hc17 h
    exact tj_md_load_147 a1 a3 a4 a5 a7 a8 a9 a10 a11 hC k1 k2 kx0 (lv_sub hl [0, 1, 2, 3, 4, 5, 6, 7, 8, 9] rfl) hW h
  · replace h := if_p hc17 h
    refine lv_aload_n hx hb dX12_load_135 rfl (lv_at hl 0 rfl) ?_
    refine lv_iload hx hb dX12_load_136 (lv_at hl 8 rfl) ?_
    obtain ⟨x21, hx21, h⟩ := mbv_some h
    refine kr_ci hC hW (kr_runV hC hW hl.1 (t_md_isWantedToday hx21) cw_X12_422 (wm_0 g μ) rfl rfl rfl (Nat.le_of_ble_eq_true rfl) dX12_load_138 (by decide)) (fun H locs hW => ?_)
    refine lv_if_ne (tgt := 147) hx hb dX12_load_141 (by decide) (fun hc22 => ?_) (fun hc22 => ?_)
    · replace h := if_n hc22 h
      exact tj_md_load_147 a1 a3 a4 a5 a7 a8 a9 a10 a11 hC k1 k2 kx0 (lv_sub hl [0, 1, 2, 3, 4, 5, 6, 7, 8, 9] rfl) hW h
    · replace h := if_p hc22 h
      refine lv_goto (tgt := 195) hx hb dX12_load_144 (by decide) ?_
      refine lv_iinc (v := (a10 + 1)) (lv' := [(10, .int (a10 + 1)), (0, .ref (ad g 0)), (1, .int a1), (3, .int a3), (4, .int a4), (5, .long a5), (7, .int a7), (8, .int a8), (9, .int a9), (11, .int a11)]) hx hb dX12_load_195 hl (k := 8) rfl (by rw [oi_1]) (by decide) rfl (fun ls hl => ?_)
      refine lv_goto (tgt := 72) hx hb dX12_load_198 (by decide) ?_
      exact k1 (a7, a8, a9, (a10 + 1), μ) (Option.some.inj h).symm _ _ _ (lv_sub hl [1, 2, 3, 4, 5, 6, 7, 8, 0] rfl) hW
set_option maxHeartbeats 4000000 in
set_option maxRecDepth 100000 in
theorem tj_md_load_105 {μ : Mm} (a1 : Int32) (a3 : Int32) (a4 : Int32) (a5 : Int64) (a7 : Int32) (a8 : Int32) (a9 : Int32) (a10 : Int32) (y0 : Int32) (hC : Cx g RX12 cX12_load 20 p s m args c) {e0 : (Int32 × Int32 × Int32 × Mm)} {r : (Int32 × Int32 × Int32 × Int32 × Mm) ⊕ (Int32 × Int32 × Int32 × Mm)} (k1 : ∀ q, r = .inl q → ∀ (ls : Array Slot) (H : Heap) (locs : List Loc), lv_has ls 20 [(0, .ref (ad g 0)), (1, .int a1), (3, .int a3), (4, .int a4), (5, .long a5), (7, .int q.1), (8, .int q.2.1), (9, .int q.2.2.1), (10, .int q.2.2.2.1)] → wP g wm A s.heap q.2.2.2.2 H locs → W p l e (rmD 5) s m args below meth c H locs 0 0 Q (F0 m 72 ls [])) (k2 : ∀ e', r = .inr e' → e' = e0) (kx0 : ∀ (ls : Array Slot) (H : Heap) (locs : List Loc), lv_has ls 20 [(0, .ref (ad g 0)), (1, .int a1), (3, .int a3), (4, .int a4), (7, .int e0.1), (8, .int e0.2.1), (9, .int e0.2.2.1)] → wP g wm A s.heap e0.2.2.2 H locs → W p l e (rmD 5) s m args below meth c H locs 0 0 Q (F0 m 201 ls []))  (hl : lv_has ls 20 [(0, .ref (ad g 0)), (1, .int a1), (3, .int a3), (4, .int a4), (5, .long a5), (7, .int a7), (8, .int a8), (9, .int a9), (10, .int a10)]) (hW : wP g wm A s.heap μ H locs) (h : md_load_j105 μ a1 a3 a4 a5 a7 a8 a9 a10 y0 = some r) : W p l e (rmD 5) s m args below meth c H locs 0 0 Q (F0 m 105 ls [.int y0]) := by
  obtain ⟨hx, hb, hml, hown, hts, hK, hN⟩ := id hC
  unfold md_load_j105 at h
  refine lv_istore (lv' := [(11, .int y0), (0, .ref (ad g 0)), (1, .int a1), (3, .int a3), (4, .int a4), (5, .long a5), (7, .int a7), (8, .int a8), (9, .int a9), (10, .int a10)]) hx hb dX12_load_105 hl (by decide) rfl (fun ls hl => ?_)
  refine lv_aload_n hx hb dX12_load_107 rfl (lv_at hl 1 rfl) ?_
  refine gf_X12_22_m0 hC hW dX12_load_108 ?_
  refine lv_iload hx hb dX12_load_111 (lv_at hl 9 rfl) ?_
  obtain ⟨x15, ex15, hin, h⟩ := mrd_ex h
  refine kr_iald hC hW (wm_5 g μ) hin ex15 dX12_load_113 ?_
  refine lv_if_eq (tgt := 130) hx hb dX12_load_114 (by decide) (fun hc16 => ?_) (fun hc16 => ?_)
  · replace h := if_p hc16 h
    exact tj_md_load_130 a1 a3 a4 a5 a7 a8 a9 a10 y0 hC k1 k2 kx0 (lv_sub hl [1, 2, 3, 4, 5, 6, 7, 8, 9, 0] rfl) hW h
  · replace h := if_n hc16 h
    refine lv_aload_n hx hb dX12_load_117 rfl (lv_at hl 1 rfl) ?_
    refine gf_X12_22_m0 hC hW dX12_load_118 ?_
    refine lv_iload hx hb dX12_load_121 (lv_at hl 9 rfl) ?_
    obtain ⟨x23, ex23, hin, h⟩ := mrd_ex h
    refine kr_iald hC hW (wm_5 g μ) hin ex23 dX12_load_123 ?_
    refine lv_iconst (v := 1) hx hb dX12_load_124 (by decide) ?_
    refine lv_iload_n hx hb dX12_load_125 rfl (lv_at hl 2 rfl) ?_
    refine lv_iadd hx hb dX12_load_126 ?_
    refine lv_icmp_ne (tgt := 195) hx hb dX12_load_127 (by decide) (fun hc24 => ?_) (fun hc24 => ?_)
    · replace h := if_n hc24 h
      refine lv_iinc (v := (a10 + 1)) (lv' := [(10, .int (a10 + 1)), (11, .int y0), (0, .ref (ad g 0)), (1, .int a1), (3, .int a3), (4, .int a4), (5, .long a5), (7, .int a7), (8, .int a8), (9, .int a9)]) hx hb dX12_load_195 hl (k := 9) rfl (by rw [oi_1]) (by decide) rfl (fun ls hl => ?_)
      refine lv_goto (tgt := 72) hx hb dX12_load_198 (by decide) ?_
      exact k1 (a7, a8, a9, (a10 + 1), μ) (Option.some.inj h).symm _ _ _ (lv_sub hl [2, 3, 4, 5, 6, 7, 8, 9, 0] rfl) hW
    · replace h := if_p hc24 h
      exact tj_md_load_130 a1 a3 a4 a5 a7 a8 a9 a10 y0 hC k1 k2 kx0 (lv_sub hl [1, 2, 3, 4, 5, 6, 7, 8, 9, 0] rfl) hW h
set_option maxHeartbeats 4000000 in
set_option maxRecDepth 100000 in
theorem tl_md_load_72 (a1 : Int32) (a3 : Int32) (a4 : Int32) (a5 : Int64) (hC : Cx g RX12 cX12_load 20 p s m args c) {e0 : (Int32 × Int32 × Int32 × Mm)} (kx0 : ∀ (ls : Array Slot) (H : Heap) (locs : List Loc), lv_has ls 20 [(0, .ref (ad g 0)), (1, .int a1), (3, .int a3), (4, .int a4), (7, .int e0.1), (8, .int e0.2.1), (9, .int e0.2.2.1)] → wP g wm A s.heap e0.2.2.2 H locs → W p l e (rmD 5) s m args below meth c H locs 0 0 Q (F0 m 201 ls [])) : ∀ (n : Nat) (q : Int32 × Int32 × Int32 × Int32 × Mm), miter (fun q => md_load_b72 q.2.2.2.2 a1 a3 a4 a5 q.1 q.2.1 q.2.2.1 q.2.2.2.1) n q = some e0 → ∀ (ls : Array Slot) (H : Heap) (locs : List Loc), lv_has ls 20 [(0, .ref (ad g 0)), (1, .int a1), (3, .int a3), (4, .int a4), (5, .long a5), (7, .int q.1), (8, .int q.2.1), (9, .int q.2.2.1), (10, .int q.2.2.2.1)] → wP g wm A s.heap q.2.2.2.2 H locs → W p l e (rmD 5) s m args below meth c H locs 0 0 Q (F0 m 72 ls []) := by
  obtain ⟨hx, hb, hml, hown, hts, hK, hN⟩ := id hC
  refine miter_ind (fun q r hf k1 k2 => ?_)
  obtain ⟨xs7, xs8, xs9, xs10, μ⟩ := q
  intro ls H locs hl hW
  have h : md_load_b72 μ a1 a3 a4 a5 xs7 xs8 xs9 xs10 = some r := hf
  unfold md_load_b72 at h
  refine lv_iload hx hb dX12_load_72 (lv_at hl 8 rfl) ?_
  refine lv_aload_n hx hb dX12_load_74 rfl (lv_at hl 0 rfl) ?_
  refine gf_X12_187_m0 hC hW dX12_load_75 ?_
  refine lv_icmp_ge (tgt := 201) hx hb dX12_load_78 (by decide) (fun hc12 => ?_) (fun hc12 => ?_)
  · replace h := if_p hc12 h
    obtain rfl := k2 _ (Option.some.inj h).symm
    exact kx0 _ _ _ (lv_sub hl [0, 1, 2, 3, 5, 6, 7] rfl) hW
  · replace h := if_n hc12 h
    refine lv_iload hx hb dX12_load_81 (lv_at hl 5 rfl) ?_
    refine lv_bipush (v := 12) hx hb dX12_load_83 (by decide) ?_
    refine lv_icmp_ge (tgt := 201) hx hb dX12_load_85 (by decide) (fun hc13 => ?_) (fun hc13 => ?_)
    · replace h := if_p hc13 h
      obtain rfl := k2 _ (Option.some.inj h).symm
      exact kx0 _ _ _ (lv_sub hl [0, 1, 2, 3, 5, 6, 7] rfl) hW
    · replace h := if_n hc13 h
      refine lv_lload hx hb dX12_load_88 (lv_at hl 4 rfl) ?_
      refine lv_iload hx hb dX12_load_90 (lv_at hl 8 rfl) ?_
      refine lv_lshr (v := (a5 >>> ((xs10 : Int32).toInt64 &&& 63))) hx hb dX12_load_92 rfl ?_
      refine lv_lconst (v := 1) hx hb dX12_load_93 (by decide) ?_
      refine lv_land hx hb dX12_load_94 ?_
      refine lv_lconst (v := 1) hx hb dX12_load_95 (by decide) ?_
      refine W.lcmp hx hb dX12_load_96 ?_
      refine lv_if_ne (tgt := 104) hx hb dX12_load_97 (by decide) (fun hc14 => ?_) (fun hc14 => ?_)
      · replace h := if_n hc14 h
        refine lv_iconst (v := 0) hx hb dX12_load_104 (by decide) ?_
        exact tj_md_load_105 a1 a3 a4 a5 xs7 xs8 xs9 xs10 0 hC k1 k2 kx0 (lv_sub hl [0, 1, 2, 3, 4, 5, 6, 7, 8] rfl) hW h
      · replace h := if_p hc14 h
        refine lv_iconst (v := 1) hx hb dX12_load_100 (by decide) ?_
        refine lv_goto (tgt := 105) hx hb dX12_load_101 (by decide) ?_
        exact tj_md_load_105 a1 a3 a4 a5 xs7 xs8 xs9 xs10 1 hC k1 k2 kx0 (lv_sub hl [0, 1, 2, 3, 4, 5, 6, 7, 8] rfl) hW h
set_option maxHeartbeats 4000000 in
set_option maxRecDepth 100000 in
theorem tl_md_load_246 (μ : Mm) (a1 : Int32) (a3 : Int32) (a4 : Int32) (a7 : Int32) (a8 : Int32) (a9 : Int32) (a10 : Int64) (a12 : Int32) (a13 : Int32) (a14 : Int32) (hC : Cx g RX12 cX12_load 20 p s m args c) {e0 : (Int64 × Int32)} (kx0 : ∀ (ls : Array Slot) (H : Heap) (locs : List Loc), lv_has ls 20 [(0, .ref (ad g 0)), (1, .int a1), (3, .int a3), (4, .int a4), (7, .int a7), (8, .int a8), (9, .int a9), (10, .long a10), (12, .int a12), (13, .int a13), (14, .int a14), (15, .long e0.1), (17, .int e0.2)] → wP g wm A s.heap μ H locs → W p l e (rmD 5) s m args below meth c H locs 0 0 Q (F0 m 305 ls [])) : ∀ (n : Nat) (q : Int64 × Int32 × Int32), miter (fun q => md_load_b246 μ a1 a3 a4 a7 a8 a9 a10 a12 a13 a14 q.1 q.2.1 q.2.2) n q = some e0 → ∀ (ls : Array Slot) (H : Heap) (locs : List Loc), lv_has ls 20 [(0, .ref (ad g 0)), (1, .int a1), (3, .int a3), (4, .int a4), (7, .int a7), (8, .int a8), (9, .int a9), (10, .long a10), (12, .int a12), (13, .int a13), (14, .int a14), (15, .long q.1), (17, .int q.2.1), (18, .int q.2.2)] → wP g wm A s.heap μ H locs → W p l e (rmD 5) s m args below meth c H locs 0 0 Q (F0 m 246 ls []) := by
  obtain ⟨hx, hb, hml, hown, hts, hK, hN⟩ := id hC
  refine miter_ind (fun q r hf k1 k2 => ?_)
  obtain ⟨xs15, xs17, xs18⟩ := q
  intro ls H locs hl hW
  have h : md_load_b246 μ a1 a3 a4 a7 a8 a9 a10 a12 a13 a14 xs15 xs17 xs18 = some r := hf
  unfold md_load_b246 at h
  refine lv_iload hx hb dX12_load_246 (lv_at hl 13 rfl) ?_
  refine lv_iload hx hb dX12_load_248 (lv_at hl 4 rfl) ?_
  refine lv_icmp_ge (tgt := 305) hx hb dX12_load_250 (by decide) (fun hc31 => ?_) (fun hc31 => ?_)
  · replace h := if_p hc31 h
    obtain rfl := k2 _ (Option.some.inj h).symm
    exact kx0 _ _ _ (lv_sub hl [0, 1, 2, 3, 4, 5, 6, 7, 8, 9, 10, 11, 12] rfl) hW
  · replace h := if_n hc31 h
    refine lv_iload hx hb dX12_load_253 (lv_at hl 10 rfl) ?_
    refine lv_iload hx hb dX12_load_255 (lv_at hl 13 rfl) ?_
    refine lv_ishr hx hb dX12_load_257 ?_
    refine lv_iconst (v := 1) hx hb dX12_load_258 (by decide) ?_
    refine lv_iand hx hb dX12_load_259 ?_
    refine lv_if_ne (tgt := 266) hx hb dX12_load_260 (by decide) (fun hc32 => ?_) (fun hc32 => ?_)
    · replace h := if_n hc32 h
      refine lv_lload hx hb dX12_load_266 (lv_at hl 11 rfl) ?_
      refine lv_lconst (v := 1) hx hb dX12_load_268 (by decide) ?_
      refine lv_aload_n hx hb dX12_load_269 rfl (lv_at hl 0 rfl) ?_
      refine gf_X12_174_m0 hC hW dX12_load_270 ?_
      refine lv_iload hx hb dX12_load_273 (lv_at hl 13 rfl) ?_
      obtain ⟨x33, ex33, hin, h⟩ := mrd_ex h
      refine kr_iald hC hW (wm_55 g μ) hin ex33 dX12_load_275 ?_
      refine lv_lshl (v := ((1 : Int64) <<< ((x33 : Int32).toInt64 &&& 63))) hx hb dX12_load_276 rfl ?_
      refine lv_lor hx hb dX12_load_277 ?_
      refine lv_lstore (lv' := [(15, .long (xs15 ||| ((1 : Int64) <<< ((x33 : Int32).toInt64 &&& 63)))), (0, .ref (ad g 0)), (1, .int a1), (3, .int a3), (4, .int a4), (7, .int a7), (8, .int a8), (9, .int a9), (10, .long a10), (12, .int a12), (13, .int a13), (14, .int a14), (17, .int xs17), (18, .int xs18)]) hx hb dX12_load_278 hl (by decide) rfl (fun ls hl => ?_)
      refine lv_iload hx hb dX12_load_280 (lv_at hl 12 rfl) ?_
      refine lv_iconst (v := 1) hx hb dX12_load_282 (by decide) ?_
      refine lv_aload_n hx hb dX12_load_283 rfl (lv_at hl 1 rfl) ?_
      refine gf_X12_7_m0 hC hW dX12_load_284 ?_
      refine lv_aload_n hx hb dX12_load_287 rfl (lv_at hl 1 rfl) ?_
      refine gf_X12_174_m0 hC hW dX12_load_288 ?_
      refine lv_iload hx hb dX12_load_291 (lv_at hl 13 rfl) ?_
      obtain ⟨x34, ex34, hin, h⟩ := mrd_ex h
      refine kr_iald hC hW (wm_55 g μ) hin ex34 dX12_load_293 ?_
      obtain ⟨x35, ex35, hin, h⟩ := mrd_ex h
      refine kr_iald hC hW (wm_1 g μ) hin ex35 dX12_load_294 ?_
      refine lv_ishl hx hb dX12_load_295 ?_
      refine lv_ior hx hb dX12_load_296 ?_
      refine lv_istore (lv' := [(17, .int (xs17 ||| ((1 : Int32) <<< (x35 &&& 31)))), (15, .long (xs15 ||| ((1 : Int64) <<< ((x33 : Int32).toInt64 &&& 63)))), (0, .ref (ad g 0)), (1, .int a1), (3, .int a3), (4, .int a4), (7, .int a7), (8, .int a8), (9, .int a9), (10, .long a10), (12, .int a12), (13, .int a13), (14, .int a14), (18, .int xs18)]) hx hb dX12_load_297 hl (by decide) rfl (fun ls hl => ?_)
      refine lv_iinc (v := (xs18 + 1)) (lv' := [(18, .int (xs18 + 1)), (17, .int (xs17 ||| ((1 : Int32) <<< (x35 &&& 31)))), (15, .long (xs15 ||| ((1 : Int64) <<< ((x33 : Int32).toInt64 &&& 63)))), (0, .ref (ad g 0)), (1, .int a1), (3, .int a3), (4, .int a4), (7, .int a7), (8, .int a8), (9, .int a9), (10, .long a10), (12, .int a12), (13, .int a13), (14, .int a14)]) hx hb dX12_load_299 hl (k := 13) rfl (by rw [oi_1]) (by decide) rfl (fun ls hl => ?_)
      refine lv_goto (tgt := 246) hx hb dX12_load_302 (by decide) ?_
      exact k1 ((xs15 ||| ((1 : Int64) <<< ((x33 : Int32).toInt64 &&& 63))), (xs17 ||| ((1 : Int32) <<< (x35 &&& 31))), (xs18 + 1)) (Option.some.inj h).symm _ _ _ (lv_sub hl [3, 4, 5, 6, 7, 8, 9, 10, 11, 12, 13, 2, 1, 0] rfl) hW
    · replace h := if_p hc32 h
      refine lv_goto (tgt := 299) hx hb dX12_load_263 (by decide) ?_
      refine lv_iinc (v := (xs18 + 1)) (lv' := [(18, .int (xs18 + 1)), (0, .ref (ad g 0)), (1, .int a1), (3, .int a3), (4, .int a4), (7, .int a7), (8, .int a8), (9, .int a9), (10, .long a10), (12, .int a12), (13, .int a13), (14, .int a14), (15, .long xs15), (17, .int xs17)]) hx hb dX12_load_299 hl (k := 13) rfl (by rw [oi_1]) (by decide) rfl (fun ls hl => ?_)
      refine lv_goto (tgt := 246) hx hb dX12_load_302 (by decide) ?_
      exact k1 (xs15, xs17, (xs18 + 1)) (Option.some.inj h).symm _ _ _ (lv_sub hl [1, 2, 3, 4, 5, 6, 7, 8, 9, 10, 11, 12, 13, 0] rfl) hW
set_option maxHeartbeats 4000000 in
set_option maxRecDepth 100000 in
theorem tj_md_load_361 {μ : Mm} (a1 : Int32) (a3 : Int32) (a4 : Int32) (a7 : Int32) (a8 : Int32) (a9 : Int32) (a10 : Int64) (a12 : Int32) (a13 : Int32) (a14 : Int32) (a15 : Int64) (a18 : Int32) (hC : Cx g RX12 cX12_load 20 p s m args c) {e0 : (Int64 × Int32 × Int32 × Mm)} {r : (Int64 × Int32 × Int32 × Int32 × Mm) ⊕ (Int64 × Int32 × Int32 × Mm)} (k1 : ∀ q, r = .inl q → ∀ (ls : Array Slot) (H : Heap) (locs : List Loc), lv_has ls 20 [(0, .ref (ad g 0)), (1, .int a1), (3, .int a3), (4, .int a4), (7, .int a7), (8, .int a8), (9, .int a9), (10, .long q.1), (12, .int q.2.1), (13, .int q.2.2.1), (14, .int q.2.2.2.1)] → wP g wm A s.heap q.2.2.2.2 H locs → W p l e (rmD 5) s m args below meth c H locs 0 0 Q (F0 m 215 ls [])) (k2 : ∀ e', r = .inr e' → e' = e0) (kx0 : ∀ (ls : Array Slot) (H : Heap) (locs : List Loc), lv_has ls 20 [(4, .int a4), (10, .long e0.1), (12, .int e0.2.1), (13, .int e0.2.2.1)] → wP g wm A s.heap e0.2.2.2 H locs → W p l e (rmD 5) s m args below meth c H locs 0 0 Q (F0 m 420 ls []))  (hl : lv_has ls 20 [(0, .ref (ad g 0)), (1, .int a1), (3, .int a3), (4, .int a4), (7, .int a7), (8, .int a8), (9, .int a9), (10, .long a10), (12, .int a12), (13, .int a13), (14, .int a14), (15, .long a15), (18, .int a18)]) (hW : wP g wm A s.heap μ H locs) (h : md_load_j361 μ a1 a3 a4 a7 a8 a9 a10 a12 a13 a14 a15 a18 = some r) : W p l e (rmD 5) s m args below meth c H locs 0 0 Q (F0 m 361 ls []) := by
  obtain ⟨hx, hb, hml, hown, hts, hK, hN⟩ := id hC
  unfold md_load_j361 at h
  refine lv_aload_n hx hb dX12_load_361 rfl (lv_at hl 0 rfl) ?_
  refine lv_lload hx hb dX12_load_362 (lv_at hl 11 rfl) ?_
  obtain ⟨x43, μ44, hx43, h⟩ := mbm_some h
  refine kr_ci hC hW (kr_runV hC hW hl.1 (t_md_paired hx43) cw_X12_430 (wm_0 g μ) rfl rfl rfl (Nat.le_of_ble_eq_true rfl) dX12_load_364 (by decide)) (fun H locs hW => ?_)
  refine lv_istore (lv' := [(19, .int x43), (0, .ref (ad g 0)), (1, .int a1), (3, .int a3), (4, .int a4), (7, .int a7), (8, .int a8), (9, .int a9), (10, .long a10), (12, .int a12), (13, .int a13), (14, .int a14), (15, .long a15), (18, .int a18)]) hx hb dX12_load_367 hl (by decide) rfl (fun ls hl => ?_)
  refine lv_lload hx hb dX12_load_369 (lv_at hl 8 rfl) ?_
  refine lv_ldc2 hx hb hown (hts _ tw_1708) dX12_load_371 ?_
  refine W.lcmp hx hb dX12_load_374 ?_
  refine lv_if_eq (tgt := 402) hx hb dX12_load_375 (by decide) (fun hc45 => ?_) (fun hc45 => ?_)
  · replace h := if_p hc45 h
    refine lv_lload hx hb dX12_load_402 (lv_at hl 12 rfl) ?_
    refine lv_lstore (lv' := [(10, .long a15), (19, .int x43), (0, .ref (ad g 0)), (1, .int a1), (3, .int a3), (4, .int a4), (7, .int a7), (8, .int a8), (9, .int a9), (12, .int a12), (13, .int a13), (14, .int a14), (15, .long a15), (18, .int a18)]) hx hb dX12_load_404 hl (by decide) rfl (fun ls hl => ?_)
    refine lv_iload hx hb dX12_load_406 (lv_at hl 1 rfl) ?_
    refine lv_istore (lv' := [(12, .int x43), (10, .long a15), (19, .int x43), (0, .ref (ad g 0)), (1, .int a1), (3, .int a3), (4, .int a4), (7, .int a7), (8, .int a8), (9, .int a9), (13, .int a13), (14, .int a14), (15, .long a15), (18, .int a18)]) hx hb dX12_load_408 hl (by decide) rfl (fun ls hl => ?_)
    refine lv_iload hx hb dX12_load_410 (lv_at hl 13 rfl) ?_
    refine lv_istore (lv' := [(13, .int a18), (12, .int x43), (10, .long a15), (19, .int x43), (0, .ref (ad g 0)), (1, .int a1), (3, .int a3), (4, .int a4), (7, .int a7), (8, .int a8), (9, .int a9), (14, .int a14), (15, .long a15), (18, .int a18)]) hx hb dX12_load_412 hl (by decide) rfl (fun ls hl => ?_)
    refine lv_iinc (v := (a14 + 1)) (lv' := [(14, .int (a14 + 1)), (13, .int a18), (12, .int x43), (10, .long a15), (19, .int x43), (0, .ref (ad g 0)), (1, .int a1), (3, .int a3), (4, .int a4), (7, .int a7), (8, .int a8), (9, .int a9), (15, .long a15), (18, .int a18)]) hx hb dX12_load_414 hl (k := 11) rfl (by rw [oi_1]) (by decide) rfl (fun ls hl => ?_)
    refine lv_goto (tgt := 215) hx hb dX12_load_417 (by decide) ?_
    exact k1 (a15, x43, a18, (a14 + 1), μ44) (Option.some.inj h).symm _ _ _ (lv_sub hl [5, 6, 7, 8, 9, 10, 11, 3, 2, 1, 0] rfl) hW
  · replace h := if_n hc45 h
    refine lv_iload hx hb dX12_load_378 (lv_at hl 0 rfl) ?_
    refine lv_iload hx hb dX12_load_380 (lv_at hl 9 rfl) ?_
    refine lv_icmp_lt (tgt := 414) hx hb dX12_load_382 (by decide) (fun hc46 => ?_) (fun hc46 => ?_)
    · replace h := if_p hc46 h
      refine lv_iinc (v := (a14 + 1)) (lv' := [(14, .int (a14 + 1)), (19, .int x43), (0, .ref (ad g 0)), (1, .int a1), (3, .int a3), (4, .int a4), (7, .int a7), (8, .int a8), (9, .int a9), (10, .long a10), (12, .int a12), (13, .int a13), (15, .long a15), (18, .int a18)]) hx hb dX12_load_414 hl (k := 11) rfl (by rw [oi_1]) (by decide) rfl (fun ls hl => ?_)
      refine lv_goto (tgt := 215) hx hb dX12_load_417 (by decide) ?_
      exact k1 (a10, a12, a13, (a14 + 1), μ44) (Option.some.inj h).symm _ _ _ (lv_sub hl [2, 3, 4, 5, 6, 7, 8, 9, 10, 11, 0] rfl) hW
    · replace h := if_n hc46 h
      refine lv_iload hx hb dX12_load_385 (lv_at hl 0 rfl) ?_
      refine lv_iload hx hb dX12_load_387 (lv_at hl 9 rfl) ?_
      refine lv_icmp_ne (tgt := 402) hx hb dX12_load_389 (by decide) (fun hc47 => ?_) (fun hc47 => ?_)
      · replace h := if_n hc47 h
        refine lv_lload hx hb dX12_load_402 (lv_at hl 12 rfl) ?_
        refine lv_lstore (lv' := [(10, .long a15), (19, .int x43), (0, .ref (ad g 0)), (1, .int a1), (3, .int a3), (4, .int a4), (7, .int a7), (8, .int a8), (9, .int a9), (12, .int a12), (13, .int a13), (14, .int a14), (15, .long a15), (18, .int a18)]) hx hb dX12_load_404 hl (by decide) rfl (fun ls hl => ?_)
        refine lv_iload hx hb dX12_load_406 (lv_at hl 1 rfl) ?_
        refine lv_istore (lv' := [(12, .int x43), (10, .long a15), (19, .int x43), (0, .ref (ad g 0)), (1, .int a1), (3, .int a3), (4, .int a4), (7, .int a7), (8, .int a8), (9, .int a9), (13, .int a13), (14, .int a14), (15, .long a15), (18, .int a18)]) hx hb dX12_load_408 hl (by decide) rfl (fun ls hl => ?_)
        refine lv_iload hx hb dX12_load_410 (lv_at hl 13 rfl) ?_
        refine lv_istore (lv' := [(13, .int a18), (12, .int x43), (10, .long a15), (19, .int x43), (0, .ref (ad g 0)), (1, .int a1), (3, .int a3), (4, .int a4), (7, .int a7), (8, .int a8), (9, .int a9), (14, .int a14), (15, .long a15), (18, .int a18)]) hx hb dX12_load_412 hl (by decide) rfl (fun ls hl => ?_)
        refine lv_iinc (v := (a14 + 1)) (lv' := [(14, .int (a14 + 1)), (13, .int a18), (12, .int x43), (10, .long a15), (19, .int x43), (0, .ref (ad g 0)), (1, .int a1), (3, .int a3), (4, .int a4), (7, .int a7), (8, .int a8), (9, .int a9), (15, .long a15), (18, .int a18)]) hx hb dX12_load_414 hl (k := 11) rfl (by rw [oi_1]) (by decide) rfl (fun ls hl => ?_)
        refine lv_goto (tgt := 215) hx hb dX12_load_417 (by decide) ?_
        exact k1 (a15, x43, a18, (a14 + 1), μ44) (Option.some.inj h).symm _ _ _ (lv_sub hl [5, 6, 7, 8, 9, 10, 11, 3, 2, 1, 0] rfl) hW
      · replace h := if_p hc47 h
        refine lv_iload hx hb dX12_load_392 (lv_at hl 13 rfl) ?_
        refine lv_iload hx hb dX12_load_394 (lv_at hl 10 rfl) ?_
        refine lv_icmp_lt (tgt := 402) hx hb dX12_load_396 (by decide) (fun hc48 => ?_) (fun hc48 => ?_)
        · replace h := if_p hc48 h
          refine lv_lload hx hb dX12_load_402 (lv_at hl 12 rfl) ?_
          refine lv_lstore (lv' := [(10, .long a15), (19, .int x43), (0, .ref (ad g 0)), (1, .int a1), (3, .int a3), (4, .int a4), (7, .int a7), (8, .int a8), (9, .int a9), (12, .int a12), (13, .int a13), (14, .int a14), (15, .long a15), (18, .int a18)]) hx hb dX12_load_404 hl (by decide) rfl (fun ls hl => ?_)
          refine lv_iload hx hb dX12_load_406 (lv_at hl 1 rfl) ?_
          refine lv_istore (lv' := [(12, .int x43), (10, .long a15), (19, .int x43), (0, .ref (ad g 0)), (1, .int a1), (3, .int a3), (4, .int a4), (7, .int a7), (8, .int a8), (9, .int a9), (13, .int a13), (14, .int a14), (15, .long a15), (18, .int a18)]) hx hb dX12_load_408 hl (by decide) rfl (fun ls hl => ?_)
          refine lv_iload hx hb dX12_load_410 (lv_at hl 13 rfl) ?_
          refine lv_istore (lv' := [(13, .int a18), (12, .int x43), (10, .long a15), (19, .int x43), (0, .ref (ad g 0)), (1, .int a1), (3, .int a3), (4, .int a4), (7, .int a7), (8, .int a8), (9, .int a9), (14, .int a14), (15, .long a15), (18, .int a18)]) hx hb dX12_load_412 hl (by decide) rfl (fun ls hl => ?_)
          refine lv_iinc (v := (a14 + 1)) (lv' := [(14, .int (a14 + 1)), (13, .int a18), (12, .int x43), (10, .long a15), (19, .int x43), (0, .ref (ad g 0)), (1, .int a1), (3, .int a3), (4, .int a4), (7, .int a7), (8, .int a8), (9, .int a9), (15, .long a15), (18, .int a18)]) hx hb dX12_load_414 hl (k := 11) rfl (by rw [oi_1]) (by decide) rfl (fun ls hl => ?_)
          refine lv_goto (tgt := 215) hx hb dX12_load_417 (by decide) ?_
          exact k1 (a15, x43, a18, (a14 + 1), μ44) (Option.some.inj h).symm _ _ _ (lv_sub hl [5, 6, 7, 8, 9, 10, 11, 3, 2, 1, 0] rfl) hW
        · replace h := if_n hc48 h
          refine lv_goto (tgt := 414) hx hb dX12_load_399 (by decide) ?_
          refine lv_iinc (v := (a14 + 1)) (lv' := [(14, .int (a14 + 1)), (19, .int x43), (0, .ref (ad g 0)), (1, .int a1), (3, .int a3), (4, .int a4), (7, .int a7), (8, .int a8), (9, .int a9), (10, .long a10), (12, .int a12), (13, .int a13), (15, .long a15), (18, .int a18)]) hx hb dX12_load_414 hl (k := 11) rfl (by rw [oi_1]) (by decide) rfl (fun ls hl => ?_)
          refine lv_goto (tgt := 215) hx hb dX12_load_417 (by decide) ?_
          exact k1 (a10, a12, a13, (a14 + 1), μ44) (Option.some.inj h).symm _ _ _ (lv_sub hl [2, 3, 4, 5, 6, 7, 8, 9, 10, 11, 0] rfl) hW
set_option maxHeartbeats 4000000 in
set_option maxRecDepth 100000 in
theorem tl_md_load_215 (a1 : Int32) (a3 : Int32) (a4 : Int32) (a7 : Int32) (a8 : Int32) (a9 : Int32) (hC : Cx g RX12 cX12_load 20 p s m args c) {e0 : (Int64 × Int32 × Int32 × Mm)} (kx0 : ∀ (ls : Array Slot) (H : Heap) (locs : List Loc), lv_has ls 20 [(4, .int a4), (10, .long e0.1), (12, .int e0.2.1), (13, .int e0.2.2.1)] → wP g wm A s.heap e0.2.2.2 H locs → W p l e (rmD 5) s m args below meth c H locs 0 0 Q (F0 m 420 ls [])) : ∀ (n : Nat) (q : Int64 × Int32 × Int32 × Int32 × Mm), miter (fun q => md_load_b215 q.2.2.2.2 a1 a3 a4 a7 a8 a9 q.1 q.2.1 q.2.2.1 q.2.2.2.1) n q = some e0 → ∀ (ls : Array Slot) (H : Heap) (locs : List Loc), lv_has ls 20 [(0, .ref (ad g 0)), (1, .int a1), (3, .int a3), (4, .int a4), (7, .int a7), (8, .int a8), (9, .int a9), (10, .long q.1), (12, .int q.2.1), (13, .int q.2.2.1), (14, .int q.2.2.2.1)] → wP g wm A s.heap q.2.2.2.2 H locs → W p l e (rmD 5) s m args below meth c H locs 0 0 Q (F0 m 215 ls []) := by
  obtain ⟨hx, hb, hml, hown, hts, hK, hN⟩ := id hC
  refine miter_ind (fun q r hf k1 k2 => ?_)
  obtain ⟨xs10, xs12, xs13, xs14, μ⟩ := q
  intro ls H locs hl hW
  have h : md_load_b215 μ a1 a3 a4 a7 a8 a9 xs10 xs12 xs13 xs14 = some r := hf
  unfold md_load_b215 at h
  refine lv_iload hx hb dX12_load_215 (lv_at hl 10 rfl) ?_
  refine lv_iconst (v := 1) hx hb dX12_load_217 (by decide) ?_
  refine lv_iload hx hb dX12_load_218 (lv_at hl 4 rfl) ?_
  refine lv_ishl hx hb dX12_load_220 ?_
  refine lv_icmp_ge (tgt := 420) hx hb dX12_load_221 (by decide) (fun hc29 => ?_) (fun hc29 => ?_)
  · replace h := if_p hc29 h
    obtain rfl := k2 _ (Option.some.inj h).symm
    exact kx0 _ _ _ (lv_sub hl [3, 7, 8, 9] rfl) hW
  · replace h := if_n hc29 h
    refine lv_iload hx hb dX12_load_224 (lv_at hl 5 rfl) ?_
    refine lv_iload hx hb dX12_load_226 (lv_at hl 10 rfl) ?_
    refine lv_iconst (v := (-1)) hx hb dX12_load_228 (by decide) ?_
    refine lv_ixor hx hb dX12_load_229 ?_
    refine lv_iand hx hb dX12_load_230 ?_
    refine lv_if_eq (tgt := 237) hx hb dX12_load_231 (by decide) (fun hc30 => ?_) (fun hc30 => ?_)
    · replace h := if_p hc30 h
      refine lv_lconst (v := 0) hx hb dX12_load_237 (by decide) ?_
      refine lv_lstore (lv' := [(15, .long 0), (0, .ref (ad g 0)), (1, .int a1), (3, .int a3), (4, .int a4), (7, .int a7), (8, .int a8), (9, .int a9), (10, .long xs10), (12, .int xs12), (13, .int xs13), (14, .int xs14)]) hx hb dX12_load_238 hl (by decide) rfl (fun ls hl => ?_)
      refine lv_iconst (v := 0) hx hb dX12_load_240 (by decide) ?_
      refine lv_istore (lv' := [(17, .int 0), (15, .long 0), (0, .ref (ad g 0)), (1, .int a1), (3, .int a3), (4, .int a4), (7, .int a7), (8, .int a8), (9, .int a9), (10, .long xs10), (12, .int xs12), (13, .int xs13), (14, .int xs14)]) hx hb dX12_load_241 hl (by decide) rfl (fun ls hl => ?_)
      refine lv_iconst (v := 0) hx hb dX12_load_243 (by decide) ?_
      refine lv_istore (lv' := [(18, .int 0), (17, .int 0), (15, .long 0), (0, .ref (ad g 0)), (1, .int a1), (3, .int a3), (4, .int a4), (7, .int a7), (8, .int a8), (9, .int a9), (10, .long xs10), (12, .int xs12), (13, .int xs13), (14, .int xs14)]) hx hb dX12_load_244 hl (by decide) rfl (fun ls hl => ?_)
      obtain ⟨e0, he51, h⟩ := mbv_some h
      obtain ⟨x36, x37, ee, h9⟩ := un2_ex h
      clear h
      subst ee
      have h := h9
      clear h9
      refine tl_md_load_246 μ a1 a3 a4 a7 a8 a9 xs10 xs12 xs13 xs14 hC (fun ls H locs hl hW => ?_) FU (0, 0, 0) he51 _ _ _ (lv_sub hl [3, 4, 5, 6, 7, 8, 9, 10, 11, 12, 13, 2, 1, 0] rfl) hW
      refine lv_aload_n hx hb dX12_load_305 rfl (lv_at hl 0 rfl) ?_
      refine lv_lload hx hb dX12_load_306 (lv_at hl 11 rfl) ?_
      obtain ⟨x38, hx38, h⟩ := mbv_some h
      refine kr_ci hC hW (kr_runV hC hW hl.1 (t_md_lengthOfSet hx38) cw_X12_394 (wm_0 g μ) rfl rfl rfl (Nat.le_of_ble_eq_true rfl) dX12_load_308 (by decide)) (fun H locs hW => ?_)
      refine lv_istore (lv' := [(18, .int x38), (0, .ref (ad g 0)), (1, .int a1), (3, .int a3), (4, .int a4), (7, .int a7), (8, .int a8), (9, .int a9), (10, .long xs10), (12, .int xs12), (13, .int xs13), (14, .int xs14), (15, .long x36), (17, .int x37)]) hx hb dX12_load_311 hl (by decide) rfl (fun ls hl => ?_)
      refine lv_iload hx hb dX12_load_313 (lv_at hl 0 rfl) ?_
      refine lv_aload_n hx hb dX12_load_315 rfl (lv_at hl 1 rfl) ?_
      refine gf_X12_34_m0 hC hW dX12_load_316 ?_
      refine lv_iload_n hx hb dX12_load_319 rfl (lv_at hl 2 rfl) ?_
      obtain ⟨x39, ex39, hin, h⟩ := mrd_ex h
      refine kr_iald hC hW (wm_9 g μ) hin ex39 dX12_load_320 ?_
      refine lv_icmp_gt (tgt := 414) hx hb dX12_load_321 (by decide) (fun hc40 => ?_) (fun hc40 => ?_)
      · replace h := if_p hc40 h
        refine lv_iinc (v := (xs14 + 1)) (lv' := [(14, .int (xs14 + 1)), (18, .int x38), (0, .ref (ad g 0)), (1, .int a1), (3, .int a3), (4, .int a4), (7, .int a7), (8, .int a8), (9, .int a9), (10, .long xs10), (12, .int xs12), (13, .int xs13), (15, .long x36), (17, .int x37)]) hx hb dX12_load_414 hl (k := 11) rfl (by rw [oi_1]) (by decide) rfl (fun ls hl => ?_)
        refine lv_goto (tgt := 215) hx hb dX12_load_417 (by decide) ?_
        exact k1 (xs10, xs12, xs13, (xs14 + 1), μ) (Option.some.inj h).symm _ _ _ (lv_sub hl [2, 3, 4, 5, 6, 7, 8, 9, 10, 11, 0] rfl) hW
      · replace h := if_n hc40 h
        refine lv_iload_n hx hb dX12_load_324 rfl (lv_at hl 3 rfl) ?_
        refine lv_iload hx hb dX12_load_325 (lv_at hl 7 rfl) ?_
        refine lv_iand hx hb dX12_load_327 ?_
        refine lv_iload hx hb dX12_load_328 (lv_at hl 13 rfl) ?_
        refine lv_iconst (v := (-1)) hx hb dX12_load_330 (by decide) ?_
        refine lv_ixor hx hb dX12_load_331 ?_
        refine lv_iand hx hb dX12_load_332 ?_
        refine lv_if_eq (tgt := 339) hx hb dX12_load_333 (by decide) (fun hc41 => ?_) (fun hc41 => ?_)
        · replace h := if_p hc41 h
          refine lv_lload hx hb dX12_load_339 (lv_at hl 8 rfl) ?_
          refine lv_ldc2 hx hb hown (hts _ tw_1708) dX12_load_341 ?_
          refine W.lcmp hx hb dX12_load_344 ?_
          refine lv_if_eq (tgt := 361) hx hb dX12_load_345 (by decide) (fun hc42 => ?_) (fun hc42 => ?_)
          · replace h := if_p hc42 h
            exact tj_md_load_361 a1 a3 a4 a7 a8 a9 xs10 xs12 xs13 xs14 x36 x38 hC k1 k2 kx0 (lv_sub hl [1, 2, 3, 4, 5, 6, 7, 8, 9, 10, 11, 12, 0] rfl) hW h
          · replace h := if_n hc42 h
            refine lv_iload hx hb dX12_load_348 (lv_at hl 11 rfl) ?_
            obtain ⟨x49, hx49, h⟩ := mbv_some h
            refine kr_ci hC hW (kr_runS hC hW hl.1 (t_md_bits hx49) cw_X12_427 rfl rfl (Nat.le_of_ble_eq_true rfl) dX12_load_350 (by decide)) (fun H locs hW => ?_)
            refine lv_iload hx hb dX12_load_353 (lv_at hl 9 rfl) ?_
            refine lv_icmp_ge (tgt := 361) hx hb dX12_load_355 (by decide) (fun hc50 => ?_) (fun hc50 => ?_)
            · replace h := if_p hc50 h
              exact tj_md_load_361 a1 a3 a4 a7 a8 a9 xs10 xs12 xs13 xs14 x36 x38 hC k1 k2 kx0 (lv_sub hl [1, 2, 3, 4, 5, 6, 7, 8, 9, 10, 11, 12, 0] rfl) hW h
            · replace h := if_n hc50 h
              refine lv_goto (tgt := 414) hx hb dX12_load_358 (by decide) ?_
              refine lv_iinc (v := (xs14 + 1)) (lv' := [(14, .int (xs14 + 1)), (18, .int x38), (0, .ref (ad g 0)), (1, .int a1), (3, .int a3), (4, .int a4), (7, .int a7), (8, .int a8), (9, .int a9), (10, .long xs10), (12, .int xs12), (13, .int xs13), (15, .long x36), (17, .int x37)]) hx hb dX12_load_414 hl (k := 11) rfl (by rw [oi_1]) (by decide) rfl (fun ls hl => ?_)
              refine lv_goto (tgt := 215) hx hb dX12_load_417 (by decide) ?_
              exact k1 (xs10, xs12, xs13, (xs14 + 1), μ) (Option.some.inj h).symm _ _ _ (lv_sub hl [2, 3, 4, 5, 6, 7, 8, 9, 10, 11, 0] rfl) hW
        · replace h := if_n hc41 h
          refine lv_goto (tgt := 414) hx hb dX12_load_336 (by decide) ?_
          refine lv_iinc (v := (xs14 + 1)) (lv' := [(14, .int (xs14 + 1)), (18, .int x38), (0, .ref (ad g 0)), (1, .int a1), (3, .int a3), (4, .int a4), (7, .int a7), (8, .int a8), (9, .int a9), (10, .long xs10), (12, .int xs12), (13, .int xs13), (15, .long x36), (17, .int x37)]) hx hb dX12_load_414 hl (k := 11) rfl (by rw [oi_1]) (by decide) rfl (fun ls hl => ?_)
          refine lv_goto (tgt := 215) hx hb dX12_load_417 (by decide) ?_
          exact k1 (xs10, xs12, xs13, (xs14 + 1), μ) (Option.some.inj h).symm _ _ _ (lv_sub hl [2, 3, 4, 5, 6, 7, 8, 9, 10, 11, 0] rfl) hW
    · replace h := if_n hc30 h
      refine lv_goto (tgt := 414) hx hb dX12_load_234 (by decide) ?_
      refine lv_iinc (v := (xs14 + 1)) (lv' := [(14, .int (xs14 + 1)), (0, .ref (ad g 0)), (1, .int a1), (3, .int a3), (4, .int a4), (7, .int a7), (8, .int a8), (9, .int a9), (10, .long xs10), (12, .int xs12), (13, .int xs13)]) hx hb dX12_load_414 hl (k := 10) rfl (by rw [oi_1]) (by decide) rfl (fun ls hl => ?_)
      refine lv_goto (tgt := 215) hx hb dX12_load_417 (by decide) ?_
      exact k1 (xs10, xs12, xs13, (xs14 + 1), μ) (Option.some.inj h).symm _ _ _ (lv_sub hl [1, 2, 3, 4, 5, 6, 7, 8, 9, 10, 0] rfl) hW
set_option maxHeartbeats 4000000 in
set_option maxRecDepth 100000 in
theorem tj_md_load_201 {μ : Mm} (a1 : Int32) (a3 : Int32) (a4 : Int32) (a7 : Int32) (a8 : Int32) (a9 : Int32) (hC : Cx g RX12 cX12_load 20 p s m args c) (hr : meth.sig.returnType = some .long) (hlocks : meth.locks = false) {v : Int64} {u : Mm} (hl : lv_has ls 20 [(0, .ref (ad g 0)), (1, .int a1), (3, .int a3), (4, .int a4), (7, .int a7), (8, .int a8), (9, .int a9)]) (hW : wP g wm A s.heap μ H locs) (h : md_load_j201 μ a1 a3 a4 a7 a8 a9 = some (v, u)) : W p l e (rmD 5) s m args below meth c H locs 0 0 (MQ below (Ql g A wm v u) args s 0 0 A) (F0 m 201 ls []) := by
  obtain ⟨hx, hb, hml, hown, hts, hK, hN⟩ := id hC
  unfold md_load_j201 at h
  refine lv_ldc2 hx hb hown (hts _ tw_1708) dX12_load_201 ?_
  refine lv_lstore (lv' := [(10, .long (-2)), (0, .ref (ad g 0)), (1, .int a1), (3, .int a3), (4, .int a4), (7, .int a7), (8, .int a8), (9, .int a9)]) hx hb dX12_load_204 hl (by decide) rfl (fun ls hl => ?_)
  refine lv_iconst (v := 0) hx hb dX12_load_206 (by decide) ?_
  refine lv_istore (lv' := [(12, .int 0), (10, .long (-2)), (0, .ref (ad g 0)), (1, .int a1), (3, .int a3), (4, .int a4), (7, .int a7), (8, .int a8), (9, .int a9)]) hx hb dX12_load_207 hl (by decide) rfl (fun ls hl => ?_)
  refine lv_iconst (v := 0) hx hb dX12_load_209 (by decide) ?_
  refine lv_istore (lv' := [(13, .int 0), (12, .int 0), (10, .long (-2)), (0, .ref (ad g 0)), (1, .int a1), (3, .int a3), (4, .int a4), (7, .int a7), (8, .int a8), (9, .int a9)]) hx hb dX12_load_210 hl (by decide) rfl (fun ls hl => ?_)
  refine lv_iconst (v := 0) hx hb dX12_load_212 (by decide) ?_
  refine lv_istore (lv' := [(14, .int 0), (13, .int 0), (12, .int 0), (10, .long (-2)), (0, .ref (ad g 0)), (1, .int a1), (3, .int a3), (4, .int a4), (7, .int a7), (8, .int a8), (9, .int a9)]) hx hb dX12_load_213 hl (by decide) rfl (fun ls hl => ?_)
  obtain ⟨e0, he59, h⟩ := mbv_some h
  obtain ⟨x52, x53, x54, μ55, ee, h9⟩ := un4_ex h
  clear h
  subst ee
  have h := h9
  clear h9
  refine tl_md_load_215 a1 a3 a4 a7 a8 a9 hC (fun ls H locs hl hW => ?_) FU ((-2), 0, 0, 0, μ) he59 _ _ _ (lv_sub hl [4, 5, 6, 7, 8, 9, 10, 3, 2, 1, 0] rfl) hW
  refine lv_lload hx hb dX12_load_420 (lv_at hl 1 rfl) ?_
  refine lv_ldc2 hx hb hown (hts _ tw_1708) dX12_load_422 ?_
  refine W.lcmp hx hb dX12_load_425 ?_
  refine lv_if_ne (tgt := 435) hx hb dX12_load_426 (by decide) (fun hc56 => ?_) (fun hc56 => ?_)
  · replace h := if_n hc56 h
    refine lv_iload hx hb dX12_load_435 (lv_at hl 0 rfl) ?_
    refine lv_if_ne (tgt := 445) hx hb dX12_load_437 (by decide) (fun hc57 => ?_) (fun hc57 => ?_)
    · replace h := if_n hc57 h
      refine lv_iload hx hb dX12_load_445 (lv_at hl 0 rfl) ?_
      refine lv_iconst (v := 1) hx hb dX12_load_447 (by decide) ?_
      refine lv_icmp_ne (tgt := 457) hx hb dX12_load_448 (by decide) (fun hc58 => ?_) (fun hc58 => ?_)
      · replace h := if_n hc58 h
        refine lv_iload hx hb dX12_load_457 (lv_at hl 3 rfl) ?_
        refine lv_i2l (v := (x54 : Int32).toInt64) hx hb dX12_load_459 rfl ?_
        cases h
        exact kr_lret hC hr hlocks hW dX12_load_460
      · replace h := if_p hc58 h
        refine lv_iload hx hb dX12_load_451 (lv_at hl 2 rfl) ?_
        refine lv_i2l (v := (x53 : Int32).toInt64) hx hb dX12_load_453 rfl ?_
        refine lv_goto (tgt := 460) hx hb dX12_load_454 (by decide) ?_
        cases h
        exact kr_lret hC hr hlocks hW dX12_load_460
    · replace h := if_p hc57 h
      refine lv_lload hx hb dX12_load_440 (lv_at hl 1 rfl) ?_
      refine lv_goto (tgt := 460) hx hb dX12_load_442 (by decide) ?_
      cases h
      exact kr_lret hC hr hlocks hW dX12_load_460
  · replace h := if_p hc56 h
    refine lv_ldc2 hx hb hown (hts _ tw_1708) dX12_load_429 ?_
    refine lv_goto (tgt := 460) hx hb dX12_load_432 (by decide) ?_
    cases h
    exact kr_lret hC hr hlocks hW dX12_load_460
set_option maxHeartbeats 4000000 in
set_option maxRecDepth 100000 in
theorem t_md_load {l : Launch} {g : Gx} {A : Nat → Prop} {μ : Mm} {a1 : Int32} {a2 : Int32} {a3 : Int32} {a4 : Int32} {v : Int64} {u : Mm} (h : md_load μ a1 a2 a3 a4 = some (v, u)) : Ctl l g A wm yX12_load cX12_load 20 (some .long) 5 [.ref (ad g 0), .int a1, .int a2, .int a3, .int a4] μ v u := by
  refine ent (lv := [(0, .ref (ad g 0)), (1, .int a1), (2, .int a2), (3, .int a3), (4, .int a4)]) (by decide) (Nat.le_of_ble_eq_true rfl) rfl ?_
  intro p e s m args below meth c hC hr hlocks hnm hW ls hl
  replace hC : Cx g RX12 cX12_load 20 p s m args c := hC
  obtain ⟨hx, hb, hml, hown, hts, hK, hN⟩ := id hC
  unfold md_load at h
  refine lv_iload_n hx hb dX12_load_0 rfl (lv_at hl 1 rfl) ?_
  obtain ⟨x1, hx1, h⟩ := mbv_some h
  refine kr_ci hC hW (kr_runS hC hW hl.1 (t_md_isVan hx1) cw_X12_203 rfl rfl (Nat.le_of_ble_eq_true rfl) dX12_load_1 (by decide)) (fun H locs hW => ?_)
  refine lv_if_eq (tgt := 39) hx hb dX12_load_4 (by decide) (fun hc2 => ?_) (fun hc2 => ?_)
  · replace h := if_p hc2 h
    refine lv_ldc2 hx hb hown (hts _ tw_1651) dX12_load_39 ?_
    cases h
    exact kr_lret hC hr hlocks hW dX12_load_42
  · replace h := if_n hc2 h
    refine lv_iload_n hx hb dX12_load_7 rfl (lv_at hl 2 rfl) ?_
    refine lv_iconst (v := 1) hx hb dX12_load_8 (by decide) ?_
    refine lv_sipush (v := 1000) hx hb dX12_load_9 (by decide) ?_
    obtain ⟨x3, hx3, h⟩ := mbv_some h
    refine kr_ci hC hW (kr_runS hC hW hl.1 (t_md_in hx3) cw_X12_199 rfl rfl (Nat.le_of_ble_eq_true rfl) dX12_load_12 (by decide)) (fun H locs hW => ?_)
    refine lv_if_eq (tgt := 39) hx hb dX12_load_15 (by decide) (fun hc4 => ?_) (fun hc4 => ?_)
    · replace h := if_p hc4 h
      refine lv_ldc2 hx hb hown (hts _ tw_1651) dX12_load_39 ?_
      cases h
      exact kr_lret hC hr hlocks hW dX12_load_42
    · replace h := if_n hc4 h
      refine lv_iload_n hx hb dX12_load_18 rfl (lv_at hl 3 rfl) ?_
      refine lv_iconst (v := 0) hx hb dX12_load_19 (by decide) ?_
      refine lv_sipush (v := 255) hx hb dX12_load_20 (by decide) ?_
      obtain ⟨x5, hx5, h⟩ := mbv_some h
      refine kr_ci hC hW (kr_runS hC hW hl.1 (t_md_in hx5) cw_X12_199 rfl rfl (Nat.le_of_ble_eq_true rfl) dX12_load_23 (by decide)) (fun H locs hW => ?_)
      refine lv_if_eq (tgt := 39) hx hb dX12_load_26 (by decide) (fun hc6 => ?_) (fun hc6 => ?_)
      · replace h := if_p hc6 h
        refine lv_ldc2 hx hb hown (hts _ tw_1651) dX12_load_39 ?_
        cases h
        exact kr_lret hC hr hlocks hW dX12_load_42
      · replace h := if_n hc6 h
        refine lv_iload hx hb dX12_load_29 (lv_at hl 4 rfl) ?_
        refine lv_iconst (v := 0) hx hb dX12_load_31 (by decide) ?_
        refine lv_iconst (v := 2) hx hb dX12_load_32 (by decide) ?_
        obtain ⟨x7, hx7, h⟩ := mbv_some h
        refine kr_ci hC hW (kr_runS hC hW hl.1 (t_md_in hx7) cw_X12_199 rfl rfl (Nat.le_of_ble_eq_true rfl) dX12_load_33 (by decide)) (fun H locs hW => ?_)
        refine lv_if_ne (tgt := 43) hx hb dX12_load_36 (by decide) (fun hc8 => ?_) (fun hc8 => ?_)
        · replace h := if_n hc8 h
          refine lv_aload_n hx hb dX12_load_43 rfl (lv_at hl 0 rfl) ?_
          refine lv_iload_n hx hb dX12_load_44 rfl (lv_at hl 1 rfl) ?_
          refine lv_iload_n hx hb dX12_load_45 rfl (lv_at hl 2 rfl) ?_
          obtain ⟨μ10, hxμ10, h⟩ := mbv_some h
          refine kr_cv hC hW (kr_runV hC hW hl.1 (t_md_wishes hxμ10) cw_X12_419 (wm_0 g μ) rfl rfl rfl (Nat.le_of_ble_eq_true rfl) dX12_load_46 (by decide)) (fun H locs hW => ?_)
          refine lv_aload_n hx hb dX12_load_49 rfl (lv_at hl 0 rfl) ?_
          refine lv_aload_n hx hb dX12_load_50 rfl (lv_at hl 0 rfl) ?_
          refine gf_X12_196_m0 hC hW dX12_load_51 ?_
          refine lv_iload_n hx hb dX12_load_54 rfl (lv_at hl 1 rfl) ?_
          obtain ⟨x11, hx11, h⟩ := mbv_some h
          refine kr_cl hC hW (kr_runV hC hW hl.1 (t_md_aboardOf hx11) cw_X12_379 (wm_0 g μ10) rfl rfl rfl (Nat.le_of_ble_eq_true rfl) dX12_load_55 (by decide)) (fun H locs hW => ?_)
          refine lv_lstore (lv' := [(5, .long x11), (0, .ref (ad g 0)), (1, .int a1), (2, .int a2), (3, .int a3), (4, .int a4)]) hx hb dX12_load_58 hl (by decide) rfl (fun ls hl => ?_)
          refine lv_iconst (v := 0) hx hb dX12_load_60 (by decide) ?_
          refine lv_istore (lv' := [(7, .int 0), (5, .long x11), (0, .ref (ad g 0)), (1, .int a1), (2, .int a2), (3, .int a3), (4, .int a4)]) hx hb dX12_load_61 hl (by decide) rfl (fun ls hl => ?_)
          refine lv_iconst (v := 0) hx hb dX12_load_63 (by decide) ?_
          refine lv_istore (lv' := [(8, .int 0), (7, .int 0), (5, .long x11), (0, .ref (ad g 0)), (1, .int a1), (2, .int a2), (3, .int a3), (4, .int a4)]) hx hb dX12_load_64 hl (by decide) rfl (fun ls hl => ?_)
          refine lv_iconst (v := 0) hx hb dX12_load_66 (by decide) ?_
          refine lv_istore (lv' := [(9, .int 0), (8, .int 0), (7, .int 0), (5, .long x11), (0, .ref (ad g 0)), (1, .int a1), (2, .int a2), (3, .int a3), (4, .int a4)]) hx hb dX12_load_67 hl (by decide) rfl (fun ls hl => ?_)
          refine lv_iconst (v := 0) hx hb dX12_load_69 (by decide) ?_
          refine lv_istore (lv' := [(10, .int 0), (9, .int 0), (8, .int 0), (7, .int 0), (5, .long x11), (0, .ref (ad g 0)), (1, .int a1), (2, .int a2), (3, .int a3), (4, .int a4)]) hx hb dX12_load_70 hl (by decide) rfl (fun ls hl => ?_)
          obtain ⟨e0, he60, h⟩ := mbv_some h
          obtain ⟨x25, x26, x27, μ28, ee, h9⟩ := un4_ex h
          clear h
          subst ee
          have h := h9
          clear h9
          refine tl_md_load_72 a1 a3 a4 x11 hC (fun ls H locs hl hW => ?_) FU (0, 0, 0, 0, μ10) he60 _ _ _ (lv_sub hl [5, 6, 8, 9, 4, 3, 2, 1, 0] rfl) hW
          exact tj_md_load_201 a1 a3 a4 x25 x26 x27 hC hr hlocks (lv_sub hl [0, 1, 2, 3, 4, 5, 6] rfl) hW h
        · replace h := if_p hc8 h
          refine lv_ldc2 hx hb hown (hts _ tw_1651) dX12_load_39 ?_
          cases h
          exact kr_lret hC hr hlocks hW dX12_load_42
set_option maxHeartbeats 4000000 in
set_option maxRecDepth 100000 in
theorem t_md_served {l : Launch} {g : Gx} {A : Nat → Prop} {μ : Mm} {a1 : Int32} {a2 : Int64} {a4 : Int32} {v : Int32} {u : Mm} (h : md_served μ a1 a2 a4 = some (v, u)) : Cti l g A wm yX12_served cX12_served 5 (some .int) 5 [.ref (ad g 0), .int a1, .long a2, .int a4] μ v u := by
  refine ent (lv := [(0, .ref (ad g 0)), (1, .int a1), (2, .long a2), (4, .int a4)]) (by decide) (Nat.le_of_ble_eq_true rfl) rfl ?_
  intro p e s m args below meth c hC hr hlocks hnm hW ls hl
  replace hC : Cx g RX12 cX12_served 5 p s m args c := hC
  obtain ⟨hx, hb, hml, hown, hts, hK, hN⟩ := id hC
  unfold md_served at h
  refine lv_iload_n hx hb dX12_served_0 rfl (lv_at hl 1 rfl) ?_
  obtain ⟨x1, hx1, h⟩ := mbv_some h
  refine kr_ci hC hW (kr_runS hC hW hl.1 (t_md_isVan hx1) cw_X12_203 rfl rfl (Nat.le_of_ble_eq_true rfl) dX12_served_1 (by decide)) (fun H locs hW => ?_)
  refine lv_if_eq (tgt := 36) hx hb dX12_served_4 (by decide) (fun hc2 => ?_) (fun hc2 => ?_)
  · replace h := if_p hc2 h
    refine lv_iconst (v := (-1)) hx hb dX12_served_36 (by decide) ?_
    cases h
    exact kr_iret hC hr hlocks hW dX12_served_37
  · replace h := if_n hc2 h
    refine lv_lload_n hx hb dX12_served_7 rfl (lv_at hl 2 rfl) ?_
    refine lv_lconst (v := 0) hx hb dX12_served_8 (by decide) ?_
    refine W.lcmp hx hb dX12_served_9 ?_
    refine lv_if_lt (tgt := 36) hx hb dX12_served_10 (by decide) (fun hc3 => ?_) (fun hc3 => ?_)
    · replace h := if_p hc3 h
      refine lv_iconst (v := (-1)) hx hb dX12_served_36 (by decide) ?_
      cases h
      exact kr_iret hC hr hlocks hW dX12_served_37
    · replace h := if_n hc3 h
      refine lv_lload_n hx hb dX12_served_13 rfl (lv_at hl 2 rfl) ?_
      refine lv_lconst (v := 1) hx hb dX12_served_14 (by decide) ?_
      refine lv_aload_n hx hb dX12_served_15 rfl (lv_at hl 0 rfl) ?_
      refine gf_X12_187_m0 hC hW dX12_served_16 ?_
      refine lv_lshl (v := ((1 : Int64) <<< (((μ 0 1) : Int32).toInt64 &&& 63))) hx hb dX12_served_19 rfl ?_
      refine W.lcmp hx hb dX12_served_20 ?_
      refine lv_if_ge (tgt := 36) hx hb dX12_served_21 (by decide) (fun hc4 => ?_) (fun hc4 => ?_)
      · replace h := if_p hc4 h
        refine lv_iconst (v := (-1)) hx hb dX12_served_36 (by decide) ?_
        cases h
        exact kr_iret hC hr hlocks hW dX12_served_37
      · replace h := if_n hc4 h
        refine lv_iload hx hb dX12_served_24 (lv_at hl 3 rfl) ?_
        refine lv_iconst (v := 1) hx hb dX12_served_26 (by decide) ?_
        refine lv_sipush (v := 1000) hx hb dX12_served_27 (by decide) ?_
        obtain ⟨x5, hx5, h⟩ := mbv_some h
        refine kr_ci hC hW (kr_runS hC hW hl.1 (t_md_in hx5) cw_X12_199 rfl rfl (Nat.le_of_ble_eq_true rfl) dX12_served_30 (by decide)) (fun H locs hW => ?_)
        refine lv_if_ne (tgt := 38) hx hb dX12_served_33 (by decide) (fun hc6 => ?_) (fun hc6 => ?_)
        · replace h := if_n hc6 h
          refine lv_aload_n hx hb dX12_served_38 rfl (lv_at hl 0 rfl) ?_
          refine lv_iload_n hx hb dX12_served_39 rfl (lv_at hl 1 rfl) ?_
          refine lv_iload hx hb dX12_served_40 (lv_at hl 3 rfl) ?_
          obtain ⟨μ8, hxμ8, h⟩ := mbv_some h
          refine kr_cv hC hW (kr_runV hC hW hl.1 (t_md_wishes hxμ8) cw_X12_419 (wm_0 g μ) rfl rfl rfl (Nat.le_of_ble_eq_true rfl) dX12_served_42 (by decide)) (fun H locs hW => ?_)
          refine lv_aload_n hx hb dX12_served_45 rfl (lv_at hl 0 rfl) ?_
          refine lv_lload_n hx hb dX12_served_46 rfl (lv_at hl 2 rfl) ?_
          obtain ⟨x9, μ10, hx9, h⟩ := mbm_some h
          refine kr_ci hC hW (kr_runV hC hW hl.1 (t_md_paired hx9) cw_X12_430 (wm_0 g μ8) rfl rfl rfl (Nat.le_of_ble_eq_true rfl) dX12_served_47 (by decide)) (fun H locs hW => ?_)
          cases h
          exact kr_iret hC hr hlocks hW dX12_served_50
        · replace h := if_p hc6 h
          refine lv_iconst (v := (-1)) hx hb dX12_served_36 (by decide) ?_
          cases h
          exact kr_iret hC hr hlocks hW dX12_served_37
set_option maxHeartbeats 4000000 in
set_option maxRecDepth 100000 in
theorem tl_md_visitsOf_15 (μ : Mm) (a1 : Int32) (a3 : Int32) (hC : Cx g RX12 cX12_visitsOf 5 p s m args c) {e0 : (Int32)} (kx0 : ∀ (ls : Array Slot) (H : Heap) (locs : List Loc), lv_has ls 5 [(0, .ref (ad g 0)), (1, .int a1), (2, .int e0), (3, .int a3)] → wP g wm A s.heap μ H locs → W p l e (rmD 2) s m args below meth c H locs 0 0 Q (F0 m 46 ls [])) : ∀ (n : Nat) (q : Int32 × Int32), miter (fun q => md_visitsOf_b15 μ a1 a3 q.1 q.2) n q = some e0 → ∀ (ls : Array Slot) (H : Heap) (locs : List Loc), lv_has ls 5 [(0, .ref (ad g 0)), (1, .int a1), (2, .int q.1), (3, .int a3), (4, .int q.2)] → wP g wm A s.heap μ H locs → W p l e (rmD 2) s m args below meth c H locs 0 0 Q (F0 m 15 ls []) := by
  obtain ⟨hx, hb, hml, hown, hts, hK, hN⟩ := id hC
  refine miter_ind (fun q r hf k1 k2 => ?_)
  obtain ⟨xs2, xs4⟩ := q
  intro ls H locs hl hW
  have h : md_visitsOf_b15 μ a1 a3 xs2 xs4 = some r := hf
  unfold md_visitsOf_b15 at h
  refine lv_iload hx hb dX12_visitsOf_15 (lv_at hl 4 rfl) ?_
  refine lv_iconst (v := 3) hx hb dX12_visitsOf_17 (by decide) ?_
  refine lv_icmp_ge (tgt := 46) hx hb dX12_visitsOf_18 (by decide) (fun hc2 => ?_) (fun hc2 => ?_)
  · replace h := if_p hc2 h
    obtain rfl := k2 _ (Option.some.inj h).symm
    exact kx0 _ _ _ (lv_sub hl [0, 1, 2, 3] rfl) hW
  · replace h := if_n hc2 h
    refine lv_iload_n hx hb dX12_visitsOf_21 rfl (lv_at hl 2 rfl) ?_
    refine lv_aload_n hx hb dX12_visitsOf_22 rfl (lv_at hl 0 rfl) ?_
    refine lv_iload hx hb dX12_visitsOf_23 (lv_at hl 4 rfl) ?_
    refine lv_iload_n hx hb dX12_visitsOf_25 rfl (lv_at hl 1 rfl) ?_
    refine lv_iload_n hx hb dX12_visitsOf_26 rfl (lv_at hl 3 rfl) ?_
    obtain ⟨x3, hx3, h⟩ := mbv_some h
    refine kr_ci hC hW (kr_runV hC hW hl.1 (t_md_isVisited hx3) cw_X12_346 (wm_0 g μ) rfl rfl rfl (Nat.le_of_ble_eq_true rfl) dX12_visitsOf_27 (by decide)) (fun H locs hW => ?_)
    refine lv_if_eq (tgt := 37) hx hb dX12_visitsOf_30 (by decide) (fun hc4 => ?_) (fun hc4 => ?_)
    · replace h := if_p hc4 h
      refine lv_iconst (v := 0) hx hb dX12_visitsOf_37 (by decide) ?_
      refine lv_iadd hx hb dX12_visitsOf_38 ?_
      refine lv_istore_n (lv' := [(2, .int (xs2 + 0)), (0, .ref (ad g 0)), (1, .int a1), (3, .int a3), (4, .int xs4)]) hx hb dX12_visitsOf_39 rfl hl (by decide) rfl (fun ls hl => ?_)
      refine lv_iinc (v := (xs4 + 1)) (lv' := [(4, .int (xs4 + 1)), (2, .int (xs2 + 0)), (0, .ref (ad g 0)), (1, .int a1), (3, .int a3)]) hx hb dX12_visitsOf_40 hl (k := 4) rfl (by rw [oi_1]) (by decide) rfl (fun ls hl => ?_)
      refine lv_goto (tgt := 15) hx hb dX12_visitsOf_43 (by decide) ?_
      exact k1 ((xs2 + 0), (xs4 + 1)) (Option.some.inj h).symm _ _ _ (lv_sub hl [2, 3, 1, 4, 0] rfl) hW
    · replace h := if_n hc4 h
      refine lv_iconst (v := 1) hx hb dX12_visitsOf_33 (by decide) ?_
      refine lv_goto (tgt := 38) hx hb dX12_visitsOf_34 (by decide) ?_
      refine lv_iadd hx hb dX12_visitsOf_38 ?_
      refine lv_istore_n (lv' := [(2, .int (xs2 + 1)), (0, .ref (ad g 0)), (1, .int a1), (3, .int a3), (4, .int xs4)]) hx hb dX12_visitsOf_39 rfl hl (by decide) rfl (fun ls hl => ?_)
      refine lv_iinc (v := (xs4 + 1)) (lv' := [(4, .int (xs4 + 1)), (2, .int (xs2 + 1)), (0, .ref (ad g 0)), (1, .int a1), (3, .int a3)]) hx hb dX12_visitsOf_40 hl (k := 4) rfl (by rw [oi_1]) (by decide) rfl (fun ls hl => ?_)
      refine lv_goto (tgt := 15) hx hb dX12_visitsOf_43 (by decide) ?_
      exact k1 ((xs2 + 1), (xs4 + 1)) (Option.some.inj h).symm _ _ _ (lv_sub hl [2, 3, 1, 4, 0] rfl) hW
set_option maxHeartbeats 4000000 in
set_option maxRecDepth 100000 in
theorem tl_md_visitsOf_4 (μ : Mm) (a1 : Int32) (hC : Cx g RX12 cX12_visitsOf 5 p s m args c) {e0 : (Int32)} (kx0 : ∀ (ls : Array Slot) (H : Heap) (locs : List Loc), lv_has ls 5 [(2, .int e0)] → wP g wm A s.heap μ H locs → W p l e (rmD 2) s m args below meth c H locs 0 0 Q (F0 m 52 ls [])) : ∀ (n : Nat) (q : Int32 × Int32), miter (fun q => md_visitsOf_b4 μ a1 q.1 q.2) n q = some e0 → ∀ (ls : Array Slot) (H : Heap) (locs : List Loc), lv_has ls 5 [(0, .ref (ad g 0)), (1, .int a1), (2, .int q.1), (3, .int q.2)] → wP g wm A s.heap μ H locs → W p l e (rmD 2) s m args below meth c H locs 0 0 Q (F0 m 4 ls []) := by
  obtain ⟨hx, hb, hml, hown, hts, hK, hN⟩ := id hC
  refine miter_ind (fun q r hf k1 k2 => ?_)
  obtain ⟨xs2, xs3⟩ := q
  intro ls H locs hl hW
  have h : md_visitsOf_b4 μ a1 xs2 xs3 = some r := hf
  unfold md_visitsOf_b4 at h
  refine lv_iload_n hx hb dX12_visitsOf_4 rfl (lv_at hl 3 rfl) ?_
  refine lv_aload_n hx hb dX12_visitsOf_5 rfl (lv_at hl 0 rfl) ?_
  refine gf_X12_196_m0 hC hW dX12_visitsOf_6 ?_
  refine lv_icmp_gt (tgt := 52) hx hb dX12_visitsOf_9 (by decide) (fun hc1 => ?_) (fun hc1 => ?_)
  · replace h := if_p hc1 h
    obtain rfl := k2 _ (Option.some.inj h).symm
    exact kx0 _ _ _ (lv_sub hl [2] rfl) hW
  · replace h := if_n hc1 h
    refine lv_iconst (v := 0) hx hb dX12_visitsOf_12 (by decide) ?_
    refine lv_istore (lv' := [(4, .int 0), (0, .ref (ad g 0)), (1, .int a1), (2, .int xs2), (3, .int xs3)]) hx hb dX12_visitsOf_13 hl (by decide) rfl (fun ls hl => ?_)
    obtain ⟨x5, he6, h⟩ := mbv_some h
    refine tl_md_visitsOf_15 μ a1 xs3 hC (fun ls H locs hl hW => ?_) FU (xs2, 0) he6 _ _ _ (lv_sub hl [1, 2, 3, 4, 0] rfl) hW
    refine lv_iinc (v := (xs3 + 1)) (lv' := [(3, .int (xs3 + 1)), (0, .ref (ad g 0)), (1, .int a1), (2, .int x5)]) hx hb dX12_visitsOf_46 hl (k := 3) rfl (by rw [oi_1]) (by decide) rfl (fun ls hl => ?_)
    refine lv_goto (tgt := 4) hx hb dX12_visitsOf_49 (by decide) ?_
    exact k1 (x5, (xs3 + 1)) (Option.some.inj h).symm _ _ _ (lv_sub hl [1, 2, 3, 0] rfl) hW
set_option maxHeartbeats 4000000 in
set_option maxRecDepth 100000 in
theorem t_md_visitsOf {l : Launch} {g : Gx} {A : Nat → Prop} {μ : Mm} {a1 : Int32} {v : Int32} (h : md_visitsOf μ a1 = some v) : Cti l g A wm yX12_visitsOf cX12_visitsOf 5 (some .int) 2 [.ref (ad g 0), .int a1] μ v μ := by
  refine ent (lv := [(0, .ref (ad g 0)), (1, .int a1)]) (by decide) (Nat.le_of_ble_eq_true rfl) rfl ?_
  intro p e s m args below meth c hC hr hlocks hnm hW ls hl
  replace hC : Cx g RX12 cX12_visitsOf 5 p s m args c := hC
  obtain ⟨hx, hb, hml, hown, hts, hK, hN⟩ := id hC
  unfold md_visitsOf at h
  refine lv_iconst (v := 0) hx hb dX12_visitsOf_0 (by decide) ?_
  refine lv_istore_n (lv' := [(2, .int 0), (0, .ref (ad g 0)), (1, .int a1)]) hx hb dX12_visitsOf_1 rfl hl (by decide) rfl (fun ls hl => ?_)
  refine lv_iconst (v := 0) hx hb dX12_visitsOf_2 (by decide) ?_
  refine lv_istore_n (lv' := [(3, .int 0), (2, .int 0), (0, .ref (ad g 0)), (1, .int a1)]) hx hb dX12_visitsOf_3 rfl hl (by decide) rfl (fun ls hl => ?_)
  obtain ⟨x7, he8, h⟩ := mbv_some h
  refine tl_md_visitsOf_4 μ a1 hC (fun ls H locs hl hW => ?_) FU (0, 0) he8 _ _ _ (lv_sub hl [2, 3, 1, 0] rfl) hW
  refine lv_iload_n hx hb dX12_visitsOf_52 rfl (lv_at hl 0 rfl) ?_
  cases h
  exact kr_iret hC hr hlocks hW dX12_visitsOf_53
set_option maxHeartbeats 4000000 in
set_option maxRecDepth 100000 in
theorem tl_md_least_18 (μ : Mm) (a1 : Int32) (hC : Cx g RX12 cX12_least 6 p s m args c) {e0 : (Int32 × Int32)} (kx0 : ∀ (ls : Array Slot) (H : Heap) (locs : List Loc), lv_has ls 6 [(0, .ref (ad g 0)), (1, .int a1), (2, .int e0.1), (3, .int e0.2)] → wP g wm A s.heap μ H locs → W p l e (rmD 3) s m args below meth c H locs 0 0 Q (F0 m 86 ls [])) : ∀ (n : Nat) (q : Int32 × Int32 × Int32), miter (fun q => md_least_b18 μ a1 q.1 q.2.1 q.2.2) n q = some e0 → ∀ (ls : Array Slot) (H : Heap) (locs : List Loc), lv_has ls 6 [(0, .ref (ad g 0)), (1, .int a1), (2, .int q.1), (3, .int q.2.1), (4, .int q.2.2)] → wP g wm A s.heap μ H locs → W p l e (rmD 3) s m args below meth c H locs 0 0 Q (F0 m 18 ls []) := by
  obtain ⟨hx, hb, hml, hown, hts, hK, hN⟩ := id hC
  refine miter_ind (fun q r hf k1 k2 => ?_)
  obtain ⟨xs2, xs3, xs4⟩ := q
  intro ls H locs hl hW
  have h : md_least_b18 μ a1 xs2 xs3 xs4 = some r := hf
  unfold md_least_b18 at h
  refine lv_iload hx hb dX12_least_18 (lv_at hl 4 rfl) ?_
  refine lv_aload_n hx hb dX12_least_20 rfl (lv_at hl 0 rfl) ?_
  refine gf_X12_193_m0 hC hW dX12_least_21 ?_
  refine lv_icmp_ge (tgt := 86) hx hb dX12_least_24 (by decide) (fun hc3 => ?_) (fun hc3 => ?_)
  · replace h := if_p hc3 h
    obtain rfl := k2 _ (Option.some.inj h).symm
    exact kx0 _ _ _ (lv_sub hl [0, 1, 2, 3] rfl) hW
  · replace h := if_n hc3 h
    refine lv_aload_n hx hb dX12_least_27 rfl (lv_at hl 0 rfl) ?_
    refine lv_aload_n hx hb dX12_least_28 rfl (lv_at hl 0 rfl) ?_
    refine gf_X12_52_m0 hC hW dX12_least_29 ?_
    refine lv_iload hx hb dX12_least_32 (lv_at hl 4 rfl) ?_
    obtain ⟨x4, ex4, hin, h⟩ := mrd_ex h
    refine kr_iald hC hW (wm_15 g μ) hin ex4 dX12_least_34 ?_
    obtain ⟨x5, hx5, h⟩ := mbv_some h
    refine kr_ci hC hW (kr_runV hC hW hl.1 (t_md_visitsOf hx5) cw_X12_433 (wm_0 g μ) rfl rfl rfl (Nat.le_of_ble_eq_true rfl) dX12_least_35 (by decide)) (fun H locs hW => ?_)
    refine lv_istore (lv' := [(5, .int x5), (0, .ref (ad g 0)), (1, .int a1), (2, .int xs2), (3, .int xs3), (4, .int xs4)]) hx hb dX12_least_38 hl (by decide) rfl (fun ls hl => ?_)
    refine lv_iload hx hb dX12_least_40 (lv_at hl 0 rfl) ?_
    refine lv_if_eq (tgt := 80) hx hb dX12_least_42 (by decide) (fun hc6 => ?_) (fun hc6 => ?_)
    · replace h := if_p hc6 h
      refine lv_iinc (v := (xs4 + 1)) (lv' := [(4, .int (xs4 + 1)), (5, .int x5), (0, .ref (ad g 0)), (1, .int a1), (2, .int xs2), (3, .int xs3)]) hx hb dX12_least_80 hl (k := 5) rfl (by rw [oi_1]) (by decide) rfl (fun ls hl => ?_)
      refine lv_goto (tgt := 18) hx hb dX12_least_83 (by decide) ?_
      exact k1 (xs2, xs3, (xs4 + 1)) (Option.some.inj h).symm _ _ _ (lv_sub hl [2, 3, 4, 5, 0] rfl) hW
    · replace h := if_n hc6 h
      refine lv_iload_n hx hb dX12_least_45 rfl (lv_at hl 3 rfl) ?_
      refine lv_iconst (v := (-1)) hx hb dX12_least_46 (by decide) ?_
      refine lv_icmp_eq (tgt := 74) hx hb dX12_least_47 (by decide) (fun hc7 => ?_) (fun hc7 => ?_)
      · replace h := if_p hc7 h
        refine lv_iload hx hb dX12_least_74 (lv_at hl 5 rfl) ?_
        refine lv_istore_n (lv' := [(2, .int xs4), (5, .int x5), (0, .ref (ad g 0)), (1, .int a1), (3, .int xs3), (4, .int xs4)]) hx hb dX12_least_76 rfl hl (by decide) rfl (fun ls hl => ?_)
        refine lv_iload hx hb dX12_least_77 (lv_at hl 1 rfl) ?_
        refine lv_istore_n (lv' := [(3, .int x5), (2, .int xs4), (5, .int x5), (0, .ref (ad g 0)), (1, .int a1), (4, .int xs4)]) hx hb dX12_least_79 rfl hl (by decide) rfl (fun ls hl => ?_)
        refine lv_iinc (v := (xs4 + 1)) (lv' := [(4, .int (xs4 + 1)), (3, .int x5), (2, .int xs4), (5, .int x5), (0, .ref (ad g 0)), (1, .int a1)]) hx hb dX12_least_80 hl (k := 5) rfl (by rw [oi_1]) (by decide) rfl (fun ls hl => ?_)
        refine lv_goto (tgt := 18) hx hb dX12_least_83 (by decide) ?_
        exact k1 (xs4, x5, (xs4 + 1)) (Option.some.inj h).symm _ _ _ (lv_sub hl [4, 5, 2, 1, 0] rfl) hW
      · replace h := if_n hc7 h
        refine lv_aload_n hx hb dX12_least_50 rfl (lv_at hl 1 rfl) ?_
        refine gf_X12_64_m0 hC hW dX12_least_51 ?_
        refine lv_iload hx hb dX12_least_54 (lv_at hl 5 rfl) ?_
        obtain ⟨x8, ex8, hin, h⟩ := mrd_ex h
        refine kr_iald hC hW (wm_19 g μ) hin ex8 dX12_least_56 ?_
        refine lv_iload_n hx hb dX12_least_57 rfl (lv_at hl 4 rfl) ?_
        refine lv_imul hx hb dX12_least_58 ?_
        refine lv_aload_n hx hb dX12_least_59 rfl (lv_at hl 1 rfl) ?_
        refine gf_X12_64_m0 hC hW dX12_least_60 ?_
        refine lv_iload_n hx hb dX12_least_63 rfl (lv_at hl 3 rfl) ?_
        obtain ⟨x9, ex9, hin, h⟩ := mrd_ex h
        refine kr_iald hC hW (wm_19 g μ) hin ex9 dX12_least_64 ?_
        refine lv_iload hx hb dX12_least_65 (lv_at hl 0 rfl) ?_
        refine lv_imul hx hb dX12_least_67 ?_
        refine lv_icmp_lt (tgt := 74) hx hb dX12_least_68 (by decide) (fun hc10 => ?_) (fun hc10 => ?_)
        · replace h := if_p hc10 h
          refine lv_iload hx hb dX12_least_74 (lv_at hl 5 rfl) ?_
          refine lv_istore_n (lv' := [(2, .int xs4), (5, .int x5), (0, .ref (ad g 0)), (1, .int a1), (3, .int xs3), (4, .int xs4)]) hx hb dX12_least_76 rfl hl (by decide) rfl (fun ls hl => ?_)
          refine lv_iload hx hb dX12_least_77 (lv_at hl 1 rfl) ?_
          refine lv_istore_n (lv' := [(3, .int x5), (2, .int xs4), (5, .int x5), (0, .ref (ad g 0)), (1, .int a1), (4, .int xs4)]) hx hb dX12_least_79 rfl hl (by decide) rfl (fun ls hl => ?_)
          refine lv_iinc (v := (xs4 + 1)) (lv' := [(4, .int (xs4 + 1)), (3, .int x5), (2, .int xs4), (5, .int x5), (0, .ref (ad g 0)), (1, .int a1)]) hx hb dX12_least_80 hl (k := 5) rfl (by rw [oi_1]) (by decide) rfl (fun ls hl => ?_)
          refine lv_goto (tgt := 18) hx hb dX12_least_83 (by decide) ?_
          exact k1 (xs4, x5, (xs4 + 1)) (Option.some.inj h).symm _ _ _ (lv_sub hl [4, 5, 2, 1, 0] rfl) hW
        · replace h := if_n hc10 h
          refine lv_goto (tgt := 80) hx hb dX12_least_71 (by decide) ?_
          refine lv_iinc (v := (xs4 + 1)) (lv' := [(4, .int (xs4 + 1)), (5, .int x5), (0, .ref (ad g 0)), (1, .int a1), (2, .int xs2), (3, .int xs3)]) hx hb dX12_least_80 hl (k := 5) rfl (by rw [oi_1]) (by decide) rfl (fun ls hl => ?_)
          refine lv_goto (tgt := 18) hx hb dX12_least_83 (by decide) ?_
          exact k1 (xs2, xs3, (xs4 + 1)) (Option.some.inj h).symm _ _ _ (lv_sub hl [2, 3, 4, 5, 0] rfl) hW
set_option maxHeartbeats 4000000 in
set_option maxRecDepth 100000 in
theorem t_md_least {l : Launch} {g : Gx} {A : Nat → Prop} {μ : Mm} {a1 : Int32} {v : Int32} (h : md_least μ a1 = some v) : Cti l g A wm yX12_least cX12_least 6 (some .int) 3 [.ref (ad g 0), .int a1] μ v μ := by
  refine ent (lv := [(0, .ref (ad g 0)), (1, .int a1)]) (by decide) (Nat.le_of_ble_eq_true rfl) rfl ?_
  intro p e s m args below meth c hC hr hlocks hnm hW ls hl
  replace hC : Cx g RX12 cX12_least 6 p s m args c := hC
  obtain ⟨hx, hb, hml, hown, hts, hK, hN⟩ := id hC
  unfold md_least at h
  refine lv_iload_n hx hb dX12_least_0 rfl (lv_at hl 1 rfl) ?_
  refine lv_iconst (v := 0) hx hb dX12_least_1 (by decide) ?_
  refine lv_iconst (v := 2) hx hb dX12_least_2 (by decide) ?_
  obtain ⟨x1, hx1, h⟩ := mbv_some h
  refine kr_ci hC hW (kr_runS hC hW hl.1 (t_md_in hx1) cw_X12_199 rfl rfl (Nat.le_of_ble_eq_true rfl) dX12_least_3 (by decide)) (fun H locs hW => ?_)
  refine lv_if_ne (tgt := 11) hx hb dX12_least_6 (by decide) (fun hc2 => ?_) (fun hc2 => ?_)
  · replace h := if_n hc2 h
    refine lv_iconst (v := (-1)) hx hb dX12_least_11 (by decide) ?_
    refine lv_istore_n (lv' := [(2, .int (-1)), (0, .ref (ad g 0)), (1, .int a1)]) hx hb dX12_least_12 rfl hl (by decide) rfl (fun ls hl => ?_)
    refine lv_iconst (v := 0) hx hb dX12_least_13 (by decide) ?_
    refine lv_istore_n (lv' := [(3, .int 0), (2, .int (-1)), (0, .ref (ad g 0)), (1, .int a1)]) hx hb dX12_least_14 rfl hl (by decide) rfl (fun ls hl => ?_)
    refine lv_iconst (v := 0) hx hb dX12_least_15 (by decide) ?_
    refine lv_istore (lv' := [(4, .int 0), (3, .int 0), (2, .int (-1)), (0, .ref (ad g 0)), (1, .int a1)]) hx hb dX12_least_16 hl (by decide) rfl (fun ls hl => ?_)
    obtain ⟨e0, he17, h⟩ := mbv_some h
    obtain ⟨x11, x12, ee, h9⟩ := un2_ex h
    clear h
    subst ee
    have h := h9
    clear h9
    refine tl_md_least_18 μ a1 hC (fun ls H locs hl hW => ?_) FU ((-1), 0, 0) he17 _ _ _ (lv_sub hl [3, 4, 2, 1, 0] rfl) hW
    refine lv_iload_n hx hb dX12_least_86 rfl (lv_at hl 2 rfl) ?_
    refine lv_iconst (v := (-1)) hx hb dX12_least_87 (by decide) ?_
    refine lv_icmp_ne (tgt := 95) hx hb dX12_least_88 (by decide) (fun hc13 => ?_) (fun hc13 => ?_)
    · replace h := if_n hc13 h
      refine lv_iload_n hx hb dX12_least_95 rfl (lv_at hl 1 rfl) ?_
      refine lv_if_ne (tgt := 103) hx hb dX12_least_96 (by decide) (fun hc14 => ?_) (fun hc14 => ?_)
      · replace h := if_n hc14 h
        refine lv_iload_n hx hb dX12_least_103 rfl (lv_at hl 1 rfl) ?_
        refine lv_iconst (v := 1) hx hb dX12_least_104 (by decide) ?_
        refine lv_icmp_ne (tgt := 117) hx hb dX12_least_105 (by decide) (fun hc15 => ?_) (fun hc15 => ?_)
        · replace h := if_n hc15 h
          refine lv_iload_n hx hb dX12_least_117 rfl (lv_at hl 3 rfl) ?_
          cases h
          exact kr_iret hC hr hlocks hW dX12_least_118
        · replace h := if_p hc15 h
          refine lv_aload_n hx hb dX12_least_108 rfl (lv_at hl 0 rfl) ?_
          refine gf_X12_64_m0 hC hW dX12_least_109 ?_
          refine lv_iload_n hx hb dX12_least_112 rfl (lv_at hl 2 rfl) ?_
          obtain ⟨x16, ex16, hin, h⟩ := mrd_ex h
          refine kr_iald hC hW (wm_19 g μ) hin ex16 dX12_least_113 ?_
          refine lv_goto (tgt := 118) hx hb dX12_least_114 (by decide) ?_
          cases h
          exact kr_iret hC hr hlocks hW dX12_least_118
      · replace h := if_p hc14 h
        refine lv_iload_n hx hb dX12_least_99 rfl (lv_at hl 2 rfl) ?_
        refine lv_goto (tgt := 118) hx hb dX12_least_100 (by decide) ?_
        cases h
        exact kr_iret hC hr hlocks hW dX12_least_118
    · replace h := if_p hc13 h
      refine lv_iconst (v := (-1)) hx hb dX12_least_91 (by decide) ?_
      refine lv_goto (tgt := 118) hx hb dX12_least_92 (by decide) ?_
      cases h
      exact kr_iret hC hr hlocks hW dX12_least_118
  · replace h := if_p hc2 h
    refine lv_iconst (v := (-1)) hx hb dX12_least_9 (by decide) ?_
    cases h
    exact kr_iret hC hr hlocks hW dX12_least_10
set_option maxHeartbeats 4000000 in
set_option maxRecDepth 100000 in
theorem tl_md_wantedOn_6 (a1 : Int32) (a2 : Int32) (a3 : Int32) (hC : Cx g RX12 cX12_wantedOn 6 p s m args c) {e0 : (Int32 × Mm)} (kx0 : ∀ (ls : Array Slot) (H : Heap) (locs : List Loc), lv_has ls 6 [(4, .int e0.1)] → wP g wm A s.heap e0.2 H locs → W p l e (rmD 4) s m args below meth c H locs 0 0 Q (F0 m 59 ls [])) : ∀ (n : Nat) (q : Int32 × Int32 × Mm), miter (fun q => md_wantedOn_b6 q.2.2 a1 a2 a3 q.1 q.2.1) n q = some e0 → ∀ (ls : Array Slot) (H : Heap) (locs : List Loc), lv_has ls 6 [(0, .ref (ad g 0)), (1, .int a1), (2, .int a2), (3, .int a3), (4, .int q.1), (5, .int q.2.1)] → wP g wm A s.heap q.2.2 H locs → W p l e (rmD 4) s m args below meth c H locs 0 0 Q (F0 m 6 ls []) := by
  obtain ⟨hx, hb, hml, hown, hts, hK, hN⟩ := id hC
  refine miter_ind (fun q r hf k1 k2 => ?_)
  obtain ⟨xs4, xs5, μ⟩ := q
  intro ls H locs hl hW
  have h : md_wantedOn_b6 μ a1 a2 a3 xs4 xs5 = some r := hf
  unfold md_wantedOn_b6 at h
  refine lv_iload hx hb dX12_wantedOn_6 (lv_at hl 5 rfl) ?_
  refine lv_aload_n hx hb dX12_wantedOn_8 rfl (lv_at hl 0 rfl) ?_
  refine gf_X12_193_m0 hC hW dX12_wantedOn_9 ?_
  refine lv_icmp_ge (tgt := 59) hx hb dX12_wantedOn_12 (by decide) (fun hc1 => ?_) (fun hc1 => ?_)
  · replace h := if_p hc1 h
    obtain rfl := k2 _ (Option.some.inj h).symm
    exact kx0 _ _ _ (lv_sub hl [4] rfl) hW
  · replace h := if_n hc1 h
    refine lv_iload hx hb dX12_wantedOn_15 (lv_at hl 4 rfl) ?_
    refine lv_aload_n hx hb dX12_wantedOn_17 rfl (lv_at hl 0 rfl) ?_
    refine gf_X12_46_m0 hC hW dX12_wantedOn_18 ?_
    refine lv_aload_n hx hb dX12_wantedOn_21 rfl (lv_at hl 0 rfl) ?_
    refine gf_X12_52_m0 hC hW dX12_wantedOn_22 ?_
    refine lv_iload hx hb dX12_wantedOn_25 (lv_at hl 5 rfl) ?_
    obtain ⟨x2, ex2, hin, h⟩ := mrd_ex h
    refine kr_iald hC hW (wm_15 g μ) hin ex2 dX12_wantedOn_27 ?_
    obtain ⟨x3, ex3, hin, h⟩ := mrd_ex h
    refine kr_iald hC hW (wm_13 g μ) hin ex3 dX12_wantedOn_28 ?_
    refine lv_iload_n hx hb dX12_wantedOn_29 rfl (lv_at hl 1 rfl) ?_
    refine lv_icmp_ne (tgt := 49) hx hb dX12_wantedOn_30 (by decide) (fun hc4 => ?_) (fun hc4 => ?_)
    · replace h := if_n hc4 h
      refine lv_iconst (v := 0) hx hb dX12_wantedOn_49 (by decide) ?_
      refine lv_iadd hx hb dX12_wantedOn_50 ?_
      refine lv_istore (lv' := [(4, .int (xs4 + 0)), (0, .ref (ad g 0)), (1, .int a1), (2, .int a2), (3, .int a3), (5, .int xs5)]) hx hb dX12_wantedOn_51 hl (by decide) rfl (fun ls hl => ?_)
      refine lv_iinc (v := (xs5 + 1)) (lv' := [(5, .int (xs5 + 1)), (4, .int (xs4 + 0)), (0, .ref (ad g 0)), (1, .int a1), (2, .int a2), (3, .int a3)]) hx hb dX12_wantedOn_53 hl (k := 5) rfl (by rw [oi_1]) (by decide) rfl (fun ls hl => ?_)
      refine lv_goto (tgt := 6) hx hb dX12_wantedOn_56 (by decide) ?_
      exact k1 ((xs4 + 0), (xs5 + 1), μ) (Option.some.inj h).symm _ _ _ (lv_sub hl [2, 3, 4, 5, 1, 0] rfl) hW
    · replace h := if_p hc4 h
      refine lv_aload_n hx hb dX12_wantedOn_33 rfl (lv_at hl 0 rfl) ?_
      refine lv_iload hx hb dX12_wantedOn_34 (lv_at hl 5 rfl) ?_
      refine lv_iload_n hx hb dX12_wantedOn_36 rfl (lv_at hl 2 rfl) ?_
      refine lv_iconst (v := 0) hx hb dX12_wantedOn_37 (by decide) ?_
      obtain ⟨x5, μ6, hx5, h⟩ := mbm_some h
      refine kr_ci hC hW (kr_runV hC hW hl.1 (t_md_wantsBy hx5) cw_X12_339 (wm_0 g μ) rfl rfl rfl (Nat.le_of_ble_eq_true rfl) dX12_wantedOn_38 (by decide)) (fun H locs hW => ?_)
      refine lv_iload_n hx hb dX12_wantedOn_41 rfl (lv_at hl 3 rfl) ?_
      refine lv_icmp_lt (tgt := 49) hx hb dX12_wantedOn_42 (by decide) (fun hc7 => ?_) (fun hc7 => ?_)
      · replace h := if_p hc7 h
        refine lv_iconst (v := 0) hx hb dX12_wantedOn_49 (by decide) ?_
        refine lv_iadd hx hb dX12_wantedOn_50 ?_
        refine lv_istore (lv' := [(4, .int (xs4 + 0)), (0, .ref (ad g 0)), (1, .int a1), (2, .int a2), (3, .int a3), (5, .int xs5)]) hx hb dX12_wantedOn_51 hl (by decide) rfl (fun ls hl => ?_)
        refine lv_iinc (v := (xs5 + 1)) (lv' := [(5, .int (xs5 + 1)), (4, .int (xs4 + 0)), (0, .ref (ad g 0)), (1, .int a1), (2, .int a2), (3, .int a3)]) hx hb dX12_wantedOn_53 hl (k := 5) rfl (by rw [oi_1]) (by decide) rfl (fun ls hl => ?_)
        refine lv_goto (tgt := 6) hx hb dX12_wantedOn_56 (by decide) ?_
        exact k1 ((xs4 + 0), (xs5 + 1), μ6) (Option.some.inj h).symm _ _ _ (lv_sub hl [2, 3, 4, 5, 1, 0] rfl) hW
      · replace h := if_n hc7 h
        refine lv_iconst (v := 1) hx hb dX12_wantedOn_45 (by decide) ?_
        refine lv_goto (tgt := 50) hx hb dX12_wantedOn_46 (by decide) ?_
        refine lv_iadd hx hb dX12_wantedOn_50 ?_
        refine lv_istore (lv' := [(4, .int (xs4 + 1)), (0, .ref (ad g 0)), (1, .int a1), (2, .int a2), (3, .int a3), (5, .int xs5)]) hx hb dX12_wantedOn_51 hl (by decide) rfl (fun ls hl => ?_)
        refine lv_iinc (v := (xs5 + 1)) (lv' := [(5, .int (xs5 + 1)), (4, .int (xs4 + 1)), (0, .ref (ad g 0)), (1, .int a1), (2, .int a2), (3, .int a3)]) hx hb dX12_wantedOn_53 hl (k := 5) rfl (by rw [oi_1]) (by decide) rfl (fun ls hl => ?_)
        refine lv_goto (tgt := 6) hx hb dX12_wantedOn_56 (by decide) ?_
        exact k1 ((xs4 + 1), (xs5 + 1), μ6) (Option.some.inj h).symm _ _ _ (lv_sub hl [2, 3, 4, 5, 1, 0] rfl) hW
set_option maxHeartbeats 4000000 in
set_option maxRecDepth 100000 in
theorem t_md_wantedOn {l : Launch} {g : Gx} {A : Nat → Prop} {μ : Mm} {a1 : Int32} {a2 : Int32} {a3 : Int32} {v : Int32} {u : Mm} (h : md_wantedOn μ a1 a2 a3 = some (v, u)) : Cti l g A wm yX12_wantedOn cX12_wantedOn 6 (some .int) 4 [.ref (ad g 0), .int a1, .int a2, .int a3] μ v u := by
  refine ent (lv := [(0, .ref (ad g 0)), (1, .int a1), (2, .int a2), (3, .int a3)]) (by decide) (Nat.le_of_ble_eq_true rfl) rfl ?_
  intro p e s m args below meth c hC hr hlocks hnm hW ls hl
  replace hC : Cx g RX12 cX12_wantedOn 6 p s m args c := hC
  obtain ⟨hx, hb, hml, hown, hts, hK, hN⟩ := id hC
  unfold md_wantedOn at h
  refine lv_iconst (v := 0) hx hb dX12_wantedOn_0 (by decide) ?_
  refine lv_istore (lv' := [(4, .int 0), (0, .ref (ad g 0)), (1, .int a1), (2, .int a2), (3, .int a3)]) hx hb dX12_wantedOn_1 hl (by decide) rfl (fun ls hl => ?_)
  refine lv_iconst (v := 0) hx hb dX12_wantedOn_3 (by decide) ?_
  refine lv_istore (lv' := [(5, .int 0), (4, .int 0), (0, .ref (ad g 0)), (1, .int a1), (2, .int a2), (3, .int a3)]) hx hb dX12_wantedOn_4 hl (by decide) rfl (fun ls hl => ?_)
  obtain ⟨e0, he10, h⟩ := mbv_some h
  obtain ⟨x8, μ9, ee, h9⟩ := un2_ex h
  clear h
  subst ee
  have h := h9
  clear h9
  refine tl_md_wantedOn_6 a1 a2 a3 hC (fun ls H locs hl hW => ?_) FU (0, 0, μ) he10 _ _ _ (lv_sub hl [2, 3, 4, 5, 1, 0] rfl) hW
  refine lv_iload hx hb dX12_wantedOn_59 (lv_at hl 0 rfl) ?_
  cases h
  exact kr_iret hC hr hlocks hW dX12_wantedOn_61
set_option maxHeartbeats 4000000 in
set_option maxRecDepth 100000 in
theorem tl_md_dull_27 (a1 : Int32) (a2 : Int32) (hC : Cx g RX12 cX12_dull 6 p s m args c) {e0 : (Int64 × Mm)} (kx0 : ∀ (ls : Array Slot) (H : Heap) (locs : List Loc), lv_has ls 6 [(3, .long e0.1)] → wP g wm A s.heap e0.2 H locs → W p l e (rmD 5) s m args below meth c H locs 0 0 Q (F0 m 73 ls [])) : ∀ (n : Nat) (q : Int64 × Int32 × Mm), miter (fun q => md_dull_b27 q.2.2 a1 a2 q.1 q.2.1) n q = some e0 → ∀ (ls : Array Slot) (H : Heap) (locs : List Loc), lv_has ls 6 [(0, .ref (ad g 0)), (1, .int a1), (2, .int a2), (3, .long q.1), (5, .int q.2.1)] → wP g wm A s.heap q.2.2 H locs → W p l e (rmD 5) s m args below meth c H locs 0 0 Q (F0 m 27 ls []) := by
  obtain ⟨hx, hb, hml, hown, hts, hK, hN⟩ := id hC
  refine miter_ind (fun q r hf k1 k2 => ?_)
  obtain ⟨xs3, xs5, μ⟩ := q
  intro ls H locs hl hW
  have h : md_dull_b27 μ a1 a2 xs3 xs5 = some r := hf
  unfold md_dull_b27 at h
  refine lv_iload hx hb dX12_dull_27 (lv_at hl 4 rfl) ?_
  refine lv_aload_n hx hb dX12_dull_29 rfl (lv_at hl 0 rfl) ?_
  refine gf_X12_187_m0 hC hW dX12_dull_30 ?_
  refine lv_icmp_ge (tgt := 73) hx hb dX12_dull_33 (by decide) (fun hc5 => ?_) (fun hc5 => ?_)
  · replace h := if_p hc5 h
    obtain rfl := k2 _ (Option.some.inj h).symm
    exact kx0 _ _ _ (lv_sub hl [3] rfl) hW
  · replace h := if_n hc5 h
    refine lv_aload_n hx hb dX12_dull_36 rfl (lv_at hl 0 rfl) ?_
    refine gf_X12_22_m0 hC hW dX12_dull_37 ?_
    refine lv_iload hx hb dX12_dull_40 (lv_at hl 4 rfl) ?_
    obtain ⟨x6, ex6, hin, h⟩ := mrd_ex h
    refine kr_iald hC hW (wm_5 g μ) hin ex6 dX12_dull_42 ?_
    refine lv_iconst (v := 1) hx hb dX12_dull_43 (by decide) ?_
    refine lv_iload_n hx hb dX12_dull_44 rfl (lv_at hl 1 rfl) ?_
    refine lv_iadd hx hb dX12_dull_45 ?_
    refine lv_icmp_ne (tgt := 67) hx hb dX12_dull_46 (by decide) (fun hc7 => ?_) (fun hc7 => ?_)
    · replace h := if_n hc7 h
      refine lv_iinc (v := (xs5 + 1)) (lv' := [(5, .int (xs5 + 1)), (0, .ref (ad g 0)), (1, .int a1), (2, .int a2), (3, .long xs3)]) hx hb dX12_dull_67 hl (k := 4) rfl (by rw [oi_1]) (by decide) rfl (fun ls hl => ?_)
      refine lv_goto (tgt := 27) hx hb dX12_dull_70 (by decide) ?_
      exact k1 (xs3, (xs5 + 1), μ) (Option.some.inj h).symm _ _ _ (lv_sub hl [1, 2, 3, 4, 0] rfl) hW
    · replace h := if_p hc7 h
      refine lv_aload_n hx hb dX12_dull_49 rfl (lv_at hl 0 rfl) ?_
      refine lv_iload_n hx hb dX12_dull_50 rfl (lv_at hl 1 rfl) ?_
      refine lv_iload hx hb dX12_dull_51 (lv_at hl 4 rfl) ?_
      refine lv_iload_n hx hb dX12_dull_53 rfl (lv_at hl 2 rfl) ?_
      obtain ⟨x8, μ9, hx8, h⟩ := mbm_some h
      refine kr_ci hC hW (kr_runV hC hW hl.1 (t_md_wantedOn hx8) cw_X12_436 (wm_0 g μ) rfl rfl rfl (Nat.le_of_ble_eq_true rfl) dX12_dull_54 (by decide)) (fun H locs hW => ?_)
      refine lv_if_ne (tgt := 67) hx hb dX12_dull_57 (by decide) (fun hc10 => ?_) (fun hc10 => ?_)
      · replace h := if_n hc10 h
        refine lv_iinc (v := (xs5 + 1)) (lv' := [(5, .int (xs5 + 1)), (0, .ref (ad g 0)), (1, .int a1), (2, .int a2), (3, .long xs3)]) hx hb dX12_dull_67 hl (k := 4) rfl (by rw [oi_1]) (by decide) rfl (fun ls hl => ?_)
        refine lv_goto (tgt := 27) hx hb dX12_dull_70 (by decide) ?_
        exact k1 (xs3, (xs5 + 1), μ9) (Option.some.inj h).symm _ _ _ (lv_sub hl [1, 2, 3, 4, 0] rfl) hW
      · replace h := if_p hc10 h
        refine lv_lload_n hx hb dX12_dull_60 rfl (lv_at hl 3 rfl) ?_
        refine lv_lconst (v := 1) hx hb dX12_dull_61 (by decide) ?_
        refine lv_iload hx hb dX12_dull_62 (lv_at hl 4 rfl) ?_
        refine lv_lshl (v := ((1 : Int64) <<< ((xs5 : Int32).toInt64 &&& 63))) hx hb dX12_dull_64 rfl ?_
        refine lv_lor hx hb dX12_dull_65 ?_
        refine lv_lstore_n (lv' := [(3, .long (xs3 ||| ((1 : Int64) <<< ((xs5 : Int32).toInt64 &&& 63)))), (0, .ref (ad g 0)), (1, .int a1), (2, .int a2), (5, .int xs5)]) hx hb dX12_dull_66 rfl hl (by decide) rfl (fun ls hl => ?_)
        refine lv_iinc (v := (xs5 + 1)) (lv' := [(5, .int (xs5 + 1)), (3, .long (xs3 ||| ((1 : Int64) <<< ((xs5 : Int32).toInt64 &&& 63)))), (0, .ref (ad g 0)), (1, .int a1), (2, .int a2)]) hx hb dX12_dull_67 hl (k := 4) rfl (by rw [oi_1]) (by decide) rfl (fun ls hl => ?_)
        refine lv_goto (tgt := 27) hx hb dX12_dull_70 (by decide) ?_
        exact k1 ((xs3 ||| ((1 : Int64) <<< ((xs5 : Int32).toInt64 &&& 63))), (xs5 + 1), μ9) (Option.some.inj h).symm _ _ _ (lv_sub hl [2, 3, 4, 1, 0] rfl) hW
set_option maxHeartbeats 4000000 in
set_option maxRecDepth 100000 in
theorem t_md_dull {l : Launch} {g : Gx} {A : Nat → Prop} {μ : Mm} {a1 : Int32} {a2 : Int32} {v : Int64} {u : Mm} (h : md_dull μ a1 a2 = some (v, u)) : Ctl l g A wm yX12_dull cX12_dull 6 (some .long) 5 [.ref (ad g 0), .int a1, .int a2] μ v u := by
  refine ent (lv := [(0, .ref (ad g 0)), (1, .int a1), (2, .int a2)]) (by decide) (Nat.le_of_ble_eq_true rfl) rfl ?_
  intro p e s m args below meth c hC hr hlocks hnm hW ls hl
  replace hC : Cx g RX12 cX12_dull 6 p s m args c := hC
  obtain ⟨hx, hb, hml, hown, hts, hK, hN⟩ := id hC
  unfold md_dull at h
  refine lv_iload_n hx hb dX12_dull_0 rfl (lv_at hl 1 rfl) ?_
  obtain ⟨x1, hx1, h⟩ := mbv_some h
  refine kr_ci hC hW (kr_runS hC hW hl.1 (t_md_isVan hx1) cw_X12_203 rfl rfl (Nat.le_of_ble_eq_true rfl) dX12_dull_1 (by decide)) (fun H locs hW => ?_)
  refine lv_if_eq (tgt := 18) hx hb dX12_dull_4 (by decide) (fun hc2 => ?_) (fun hc2 => ?_)
  · replace h := if_p hc2 h
    refine lv_ldc2 hx hb hown (hts _ tw_1651) dX12_dull_18 ?_
    cases h
    exact kr_lret hC hr hlocks hW dX12_dull_21
  · replace h := if_n hc2 h
    refine lv_iload_n hx hb dX12_dull_7 rfl (lv_at hl 2 rfl) ?_
    refine lv_iconst (v := 1) hx hb dX12_dull_8 (by decide) ?_
    refine lv_sipush (v := 1000) hx hb dX12_dull_9 (by decide) ?_
    obtain ⟨x3, hx3, h⟩ := mbv_some h
    refine kr_ci hC hW (kr_runS hC hW hl.1 (t_md_in hx3) cw_X12_199 rfl rfl (Nat.le_of_ble_eq_true rfl) dX12_dull_12 (by decide)) (fun H locs hW => ?_)
    refine lv_if_ne (tgt := 22) hx hb dX12_dull_15 (by decide) (fun hc4 => ?_) (fun hc4 => ?_)
    · replace h := if_n hc4 h
      refine lv_lconst (v := 0) hx hb dX12_dull_22 (by decide) ?_
      refine lv_lstore_n (lv' := [(3, .long 0), (0, .ref (ad g 0)), (1, .int a1), (2, .int a2)]) hx hb dX12_dull_23 rfl hl (by decide) rfl (fun ls hl => ?_)
      refine lv_iconst (v := 0) hx hb dX12_dull_24 (by decide) ?_
      refine lv_istore (lv' := [(5, .int 0), (3, .long 0), (0, .ref (ad g 0)), (1, .int a1), (2, .int a2)]) hx hb dX12_dull_25 hl (by decide) rfl (fun ls hl => ?_)
      obtain ⟨e0, he13, h⟩ := mbv_some h
      obtain ⟨x11, μ12, ee, h9⟩ := un2_ex h
      clear h
      subst ee
      have h := h9
      clear h9
      refine tl_md_dull_27 a1 a2 hC (fun ls H locs hl hW => ?_) FU (0, 0, μ) he13 _ _ _ (lv_sub hl [2, 3, 4, 1, 0] rfl) hW
      refine lv_lload_n hx hb dX12_dull_73 rfl (lv_at hl 0 rfl) ?_
      cases h
      exact kr_lret hC hr hlocks hW dX12_dull_74
    · replace h := if_p hc4 h
      refine lv_ldc2 hx hb hown (hts _ tw_1651) dX12_dull_18 ?_
      cases h
      exact kr_lret hC hr hlocks hW dX12_dull_21
set_option maxHeartbeats 4000000 in
set_option maxRecDepth 100000 in
theorem tl_md_onward_30 (a1 : Int32) (a2 : Int32) (hC : Cx g RX12 cX12_onward 7 p s m args c) {e0 : (Int32 × Mm)} (kx0 : ∀ (ls : Array Slot) (H : Heap) (locs : List Loc), lv_has ls 7 [(3, .int e0.1)] → wP g wm A s.heap e0.2 H locs → W p l e (rmD 5) s m args below meth c H locs 0 0 Q (F0 m 69 ls [])) : ∀ (n : Nat) (q : Int32 × Int32 × Int32 × Mm), miter (fun q => md_onward_b30 q.2.2.2 a1 a2 q.1 q.2.1 q.2.2.1) n q = some e0 → ∀ (ls : Array Slot) (H : Heap) (locs : List Loc), lv_has ls 7 [(0, .ref (ad g 0)), (1, .int a1), (2, .int a2), (3, .int q.1), (4, .int q.2.1), (5, .int q.2.2.1)] → wP g wm A s.heap q.2.2.2 H locs → W p l e (rmD 5) s m args below meth c H locs 0 0 Q (F0 m 30 ls []) := by
  obtain ⟨hx, hb, hml, hown, hts, hK, hN⟩ := id hC
  refine miter_ind (fun q r hf k1 k2 => ?_)
  obtain ⟨xs3, xs4, xs5, μ⟩ := q
  intro ls H locs hl hW
  have h : md_onward_b30 μ a1 a2 xs3 xs4 xs5 = some r := hf
  unfold md_onward_b30 at h
  refine lv_iload hx hb dX12_onward_30 (lv_at hl 5 rfl) ?_
  refine lv_iconst (v := 3) hx hb dX12_onward_32 (by decide) ?_
  refine lv_icmp_ge (tgt := 69) hx hb dX12_onward_33 (by decide) (fun hc5 => ?_) (fun hc5 => ?_)
  · replace h := if_p hc5 h
    obtain rfl := k2 _ (Option.some.inj h).symm
    exact kx0 _ _ _ (lv_sub hl [3] rfl) hW
  · replace h := if_n hc5 h
    refine lv_aload_n hx hb dX12_onward_36 rfl (lv_at hl 0 rfl) ?_
    refine lv_iload hx hb dX12_onward_37 (lv_at hl 5 rfl) ?_
    refine lv_iload_n hx hb dX12_onward_39 rfl (lv_at hl 1 rfl) ?_
    refine lv_iload_n hx hb dX12_onward_40 rfl (lv_at hl 2 rfl) ?_
    obtain ⟨x6, μ7, hx6, h⟩ := mbm_some h
    refine kr_ci hC hW (kr_runV hC hW hl.1 (t_md_wantedOn hx6) cw_X12_436 (wm_0 g μ) rfl rfl rfl (Nat.le_of_ble_eq_true rfl) dX12_onward_41 (by decide)) (fun H locs hW => ?_)
    refine lv_istore (lv' := [(6, .int x6), (0, .ref (ad g 0)), (1, .int a1), (2, .int a2), (3, .int xs3), (4, .int xs4), (5, .int xs5)]) hx hb dX12_onward_44 hl (by decide) rfl (fun ls hl => ?_)
    refine lv_iload hx hb dX12_onward_46 (lv_at hl 0 rfl) ?_
    refine lv_iload hx hb dX12_onward_48 (lv_at hl 5 rfl) ?_
    refine lv_icmp_gt (tgt := 56) hx hb dX12_onward_50 (by decide) (fun hc8 => ?_) (fun hc8 => ?_)
    · replace h := if_p hc8 h
      refine lv_iload hx hb dX12_onward_56 (lv_at hl 0 rfl) ?_
      refine lv_istore (lv' := [(4, .int x6), (6, .int x6), (0, .ref (ad g 0)), (1, .int a1), (2, .int a2), (3, .int xs3), (5, .int xs5)]) hx hb dX12_onward_58 hl (by decide) rfl (fun ls hl => ?_)
      refine lv_iload hx hb dX12_onward_60 (lv_at hl 6 rfl) ?_
      refine lv_istore_n (lv' := [(3, .int xs5), (4, .int x6), (6, .int x6), (0, .ref (ad g 0)), (1, .int a1), (2, .int a2), (5, .int xs5)]) hx hb dX12_onward_62 rfl hl (by decide) rfl (fun ls hl => ?_)
      refine lv_iinc (v := (xs5 + 1)) (lv' := [(5, .int (xs5 + 1)), (3, .int xs5), (4, .int x6), (6, .int x6), (0, .ref (ad g 0)), (1, .int a1), (2, .int a2)]) hx hb dX12_onward_63 hl (k := 6) rfl (by rw [oi_1]) (by decide) rfl (fun ls hl => ?_)
      refine lv_goto (tgt := 30) hx hb dX12_onward_66 (by decide) ?_
      exact k1 (xs5, x6, (xs5 + 1), μ7) (Option.some.inj h).symm _ _ _ (lv_sub hl [4, 5, 6, 1, 2, 0] rfl) hW
    · replace h := if_n hc8 h
      refine lv_goto (tgt := 63) hx hb dX12_onward_53 (by decide) ?_
      refine lv_iinc (v := (xs5 + 1)) (lv' := [(5, .int (xs5 + 1)), (6, .int x6), (0, .ref (ad g 0)), (1, .int a1), (2, .int a2), (3, .int xs3), (4, .int xs4)]) hx hb dX12_onward_63 hl (k := 6) rfl (by rw [oi_1]) (by decide) rfl (fun ls hl => ?_)
      refine lv_goto (tgt := 30) hx hb dX12_onward_66 (by decide) ?_
      exact k1 (xs3, xs4, (xs5 + 1), μ7) (Option.some.inj h).symm _ _ _ (lv_sub hl [2, 3, 4, 5, 6, 0] rfl) hW
set_option maxHeartbeats 4000000 in
set_option maxRecDepth 100000 in
theorem t_md_onward {l : Launch} {g : Gx} {A : Nat → Prop} {μ : Mm} {a1 : Int32} {a2 : Int32} {v : Int32} {u : Mm} (h : md_onward μ a1 a2 = some (v, u)) : Cti l g A wm yX12_onward cX12_onward 7 (some .int) 5 [.ref (ad g 0), .int a1, .int a2] μ v u := by
  refine ent (lv := [(0, .ref (ad g 0)), (1, .int a1), (2, .int a2)]) (by decide) (Nat.le_of_ble_eq_true rfl) rfl ?_
  intro p e s m args below meth c hC hr hlocks hnm hW ls hl
  replace hC : Cx g RX12 cX12_onward 7 p s m args c := hC
  obtain ⟨hx, hb, hml, hown, hts, hK, hN⟩ := id hC
  unfold md_onward at h
  refine lv_aload_n hx hb dX12_onward_0 rfl (lv_at hl 0 rfl) ?_
  refine lv_iload_n hx hb dX12_onward_1 rfl (lv_at hl 1 rfl) ?_
  obtain ⟨x1, hx1, h⟩ := mbv_some h
  refine kr_ci hC hW (kr_runV hC hW hl.1 (t_md_isBook hx1) cw_X12_217 (wm_0 g μ) rfl rfl rfl (Nat.le_of_ble_eq_true rfl) dX12_onward_2 (by decide)) (fun H locs hW => ?_)
  refine lv_if_eq (tgt := 19) hx hb dX12_onward_5 (by decide) (fun hc2 => ?_) (fun hc2 => ?_)
  · replace h := if_p hc2 h
    refine lv_iconst (v := (-1)) hx hb dX12_onward_19 (by decide) ?_
    cases h
    exact kr_iret hC hr hlocks hW dX12_onward_20
  · replace h := if_n hc2 h
    refine lv_iload_n hx hb dX12_onward_8 rfl (lv_at hl 2 rfl) ?_
    refine lv_iconst (v := 1) hx hb dX12_onward_9 (by decide) ?_
    refine lv_sipush (v := 1000) hx hb dX12_onward_10 (by decide) ?_
    obtain ⟨x3, hx3, h⟩ := mbv_some h
    refine kr_ci hC hW (kr_runS hC hW hl.1 (t_md_in hx3) cw_X12_199 rfl rfl (Nat.le_of_ble_eq_true rfl) dX12_onward_13 (by decide)) (fun H locs hW => ?_)
    refine lv_if_ne (tgt := 21) hx hb dX12_onward_16 (by decide) (fun hc4 => ?_) (fun hc4 => ?_)
    · replace h := if_n hc4 h
      refine lv_bipush (v := (-2)) hx hb dX12_onward_21 (by decide) ?_
      refine lv_istore_n (lv' := [(3, .int (-2)), (0, .ref (ad g 0)), (1, .int a1), (2, .int a2)]) hx hb dX12_onward_23 rfl hl (by decide) rfl (fun ls hl => ?_)
      refine lv_iconst (v := 0) hx hb dX12_onward_24 (by decide) ?_
      refine lv_istore (lv' := [(4, .int 0), (3, .int (-2)), (0, .ref (ad g 0)), (1, .int a1), (2, .int a2)]) hx hb dX12_onward_25 hl (by decide) rfl (fun ls hl => ?_)
      refine lv_iconst (v := 0) hx hb dX12_onward_27 (by decide) ?_
      refine lv_istore (lv' := [(5, .int 0), (4, .int 0), (3, .int (-2)), (0, .ref (ad g 0)), (1, .int a1), (2, .int a2)]) hx hb dX12_onward_28 hl (by decide) rfl (fun ls hl => ?_)
      obtain ⟨e0, he11, h⟩ := mbv_some h
      obtain ⟨x9, μ10, ee, h9⟩ := un2_ex h
      clear h
      subst ee
      have h := h9
      clear h9
      refine tl_md_onward_30 a1 a2 hC (fun ls H locs hl hW => ?_) FU ((-2), 0, 0, μ) he11 _ _ _ (lv_sub hl [3, 4, 5, 2, 1, 0] rfl) hW
      refine lv_iload_n hx hb dX12_onward_69 rfl (lv_at hl 0 rfl) ?_
      cases h
      exact kr_iret hC hr hlocks hW dX12_onward_70
    · replace h := if_p hc4 h
      refine lv_iconst (v := (-1)) hx hb dX12_onward_19 (by decide) ?_
      cases h
      exact kr_iret hC hr hlocks hW dX12_onward_20
set_option maxHeartbeats 4000000 in
set_option maxRecDepth 100000 in
theorem tl_md_isKnownAt_2 (μ : Mm) (a1 : Int32) (a2 : Int32) (hC : Cx g RX12 cX12_isKnownAt 4 p s m args c) {e0 : (Unit) ⊕ (Unit)} (kx0 : (Sum.elim (fun a => ∀ (ls : Array Slot) (H : Heap) (locs : List Loc), lv_has ls 4 [] → wP g wm A s.heap μ H locs → W p l e (rmD 0) s m args below meth c H locs 0 0 Q (F0 m 34 ls [])) (fun _ => True)) e0) (kx1 : (Sum.elim (fun _ => True) (fun a => ∀ (ls : Array Slot) (H : Heap) (locs : List Loc), lv_has ls 4 [] → wP g wm A s.heap μ H locs → W p l e (rmD 0) s m args below meth c H locs 0 0 Q (F0 m 42 ls []))) e0) : ∀ (n : Nat) (q : Int32), miter (fun q => md_isKnownAt_b2 μ a1 a2 q) n q = some e0 → ∀ (ls : Array Slot) (H : Heap) (locs : List Loc), lv_has ls 4 [(0, .ref (ad g 0)), (1, .int a1), (2, .int a2), (3, .int q)] → wP g wm A s.heap μ H locs → W p l e (rmD 0) s m args below meth c H locs 0 0 Q (F0 m 2 ls []) := by
  obtain ⟨hx, hb, hml, hown, hts, hK, hN⟩ := id hC
  refine miter_ind (fun q r hf k1 k2 => ?_)
  obtain ⟨xs3, rfl⟩ : ∃ z, z = q := ⟨_, rfl⟩
  intro ls H locs hl hW
  have h : md_isKnownAt_b2 μ a1 a2 xs3 = some r := hf
  unfold md_isKnownAt_b2 at h
  refine lv_iload_n hx hb dX12_isKnownAt_2 rfl (lv_at hl 3 rfl) ?_
  refine lv_aload_n hx hb dX12_isKnownAt_3 rfl (lv_at hl 0 rfl) ?_
  refine gf_X12_193_m0 hC hW dX12_isKnownAt_4 ?_
  refine lv_icmp_ge (tgt := 42) hx hb dX12_isKnownAt_7 (by decide) (fun hc1 => ?_) (fun hc1 => ?_)
  · replace h := if_p hc1 h
    obtain rfl := k2 _ (Option.some.inj h).symm
    exact kx1 _ _ _ (lv_sub hl [] rfl) hW
  · replace h := if_n hc1 h
    refine lv_aload_n hx hb dX12_isKnownAt_10 rfl (lv_at hl 0 rfl) ?_
    refine gf_X12_52_m0 hC hW dX12_isKnownAt_11 ?_
    refine lv_iload_n hx hb dX12_isKnownAt_14 rfl (lv_at hl 3 rfl) ?_
    obtain ⟨x2, ex2, hin, h⟩ := mrd_ex h
    refine kr_iald hC hW (wm_15 g μ) hin ex2 dX12_isKnownAt_15 ?_
    refine lv_iload_n hx hb dX12_isKnownAt_16 rfl (lv_at hl 1 rfl) ?_
    refine lv_icmp_ne (tgt := 36) hx hb dX12_isKnownAt_17 (by decide) (fun hc3 => ?_) (fun hc3 => ?_)
    · replace h := if_n hc3 h
      refine lv_iinc (v := (xs3 + 1)) (lv' := [(3, .int (xs3 + 1)), (0, .ref (ad g 0)), (1, .int a1), (2, .int a2)]) hx hb dX12_isKnownAt_36 hl (k := 3) rfl (by rw [oi_1]) (by decide) rfl (fun ls hl => ?_)
      refine lv_goto (tgt := 2) hx hb dX12_isKnownAt_39 (by decide) ?_
      exact k1 (xs3 + 1) (Option.some.inj h).symm _ _ _ (lv_sub hl [1, 2, 3, 0] rfl) hW
    · replace h := if_p hc3 h
      refine lv_aload_n hx hb dX12_isKnownAt_20 rfl (lv_at hl 0 rfl) ?_
      refine gf_X12_70_m0 hC hW dX12_isKnownAt_21 ?_
      refine lv_bipush (v := 32) hx hb dX12_isKnownAt_24 (by decide) ?_
      refine lv_iload_n hx hb dX12_isKnownAt_26 rfl (lv_at hl 3 rfl) ?_
      refine lv_imul hx hb dX12_isKnownAt_27 ?_
      refine lv_iload_n hx hb dX12_isKnownAt_28 rfl (lv_at hl 2 rfl) ?_
      refine lv_iadd hx hb dX12_isKnownAt_29 ?_
      obtain ⟨x4, ex4, hin, h⟩ := mrd_ex h
      refine kr_zald hC hW (wm_21 g μ) hin ex4 dX12_isKnownAt_30 ?_
      refine lv_if_eq (tgt := 36) hx hb dX12_isKnownAt_31 (by decide) (fun hc5 => ?_) (fun hc5 => ?_)
      · replace h := if_p hc5 h
        refine lv_iinc (v := (xs3 + 1)) (lv' := [(3, .int (xs3 + 1)), (0, .ref (ad g 0)), (1, .int a1), (2, .int a2)]) hx hb dX12_isKnownAt_36 hl (k := 3) rfl (by rw [oi_1]) (by decide) rfl (fun ls hl => ?_)
        refine lv_goto (tgt := 2) hx hb dX12_isKnownAt_39 (by decide) ?_
        exact k1 (xs3 + 1) (Option.some.inj h).symm _ _ _ (lv_sub hl [1, 2, 3, 0] rfl) hW
      · replace h := if_n hc5 h
        obtain rfl := k2 _ (Option.some.inj h).symm
        exact kx0 _ _ _ (lv_sub hl [] rfl) hW
set_option maxHeartbeats 4000000 in
set_option maxRecDepth 100000 in
theorem t_md_isKnownAt {l : Launch} {g : Gx} {A : Nat → Prop} {μ : Mm} {a1 : Int32} {a2 : Int32} {v : Bool} (h : md_isKnownAt μ a1 a2 = some v) : Cti l g A wm yX12_isKnownAt cX12_isKnownAt 4 (some .boolean) 0 [.ref (ad g 0), .int a1, .int a2] μ (bI v) μ := by
  refine ent (lv := [(0, .ref (ad g 0)), (1, .int a1), (2, .int a2)]) (by decide) (Nat.le_of_ble_eq_true rfl) rfl ?_
  intro p e s m args below meth c hC hr hlocks hnm hW ls hl
  replace hC : Cx g RX12 cX12_isKnownAt 4 p s m args c := hC
  obtain ⟨hx, hb, hml, hown, hts, hK, hN⟩ := id hC
  unfold md_isKnownAt at h
  refine lv_iconst (v := 0) hx hb dX12_isKnownAt_0 (by decide) ?_
  refine lv_istore_n (lv' := [(3, .int 0), (0, .ref (ad g 0)), (1, .int a1), (2, .int a2)]) hx hb dX12_isKnownAt_1 rfl hl (by decide) rfl (fun ls hl => ?_)
  rcases msum2_ex h with ⟨e0, he6, h⟩ | ⟨e0, he6, h⟩
  · refine tl_md_isKnownAt_2 μ a1 a2 hC (e0 := (.inl ())) (fun ls H locs hl hW => ?_) trivial FU 0 he6 _ _ _ (lv_sub hl [1, 2, 3, 0] rfl) hW
    refine lv_iconst (v := 1) hx hb dX12_isKnownAt_34 (by decide) ?_
    cases h
    exact kr_zret hC hr hlocks _ rfl hW dX12_isKnownAt_35
  · refine tl_md_isKnownAt_2 μ a1 a2 hC (e0 := (.inr ())) trivial (fun ls H locs hl hW => ?_) FU 0 he6 _ _ _ (lv_sub hl [1, 2, 3, 0] rfl) hW
    refine lv_iconst (v := 0) hx hb dX12_isKnownAt_42 (by decide) ?_
    cases h
    exact kr_zret hC hr hlocks _ rfl hW dX12_isKnownAt_43
set_option maxHeartbeats 4000000 in
set_option maxRecDepth 100000 in
theorem tl_md_different_42 (μ : Mm) (a1 : Int32) (a2 : Int32) (a4 : Int32) (hC : Cx g RX12 cX12_different 6 p s m args c) {e0 : (Int32)} (kx0 : ∀ (ls : Array Slot) (H : Heap) (locs : List Loc), lv_has ls 6 [(0, .ref (ad g 0)), (1, .int a1), (2, .int a2), (3, .int e0), (4, .int a4)] → wP g wm A s.heap μ H locs → W p l e (rmD 2) s m args below meth c H locs 0 0 Q (F0 m 77 ls [])) : ∀ (n : Nat) (q : Int32 × Int32), miter (fun q => md_different_b42 μ a1 a2 a4 q.1 q.2) n q = some e0 → ∀ (ls : Array Slot) (H : Heap) (locs : List Loc), lv_has ls 6 [(0, .ref (ad g 0)), (1, .int a1), (2, .int a2), (3, .int q.1), (4, .int a4), (5, .int q.2)] → wP g wm A s.heap μ H locs → W p l e (rmD 2) s m args below meth c H locs 0 0 Q (F0 m 42 ls []) := by
  obtain ⟨hx, hb, hml, hown, hts, hK, hN⟩ := id hC
  refine miter_ind (fun q r hf k1 k2 => ?_)
  obtain ⟨xs3, xs5⟩ := q
  intro ls H locs hl hW
  have h : md_different_b42 μ a1 a2 a4 xs3 xs5 = some r := hf
  unfold md_different_b42 at h
  refine lv_iload hx hb dX12_different_42 (lv_at hl 5 rfl) ?_
  refine lv_iconst (v := 3) hx hb dX12_different_44 (by decide) ?_
  refine lv_icmp_ge (tgt := 77) hx hb dX12_different_45 (by decide) (fun hc7 => ?_) (fun hc7 => ?_)
  · replace h := if_p hc7 h
    obtain rfl := k2 _ (Option.some.inj h).symm
    exact kx0 _ _ _ (lv_sub hl [0, 1, 2, 3, 4] rfl) hW
  · replace h := if_n hc7 h
    refine lv_aload_n hx hb dX12_different_48 rfl (lv_at hl 0 rfl) ?_
    refine lv_iload hx hb dX12_different_49 (lv_at hl 5 rfl) ?_
    refine lv_iload_n hx hb dX12_different_51 rfl (lv_at hl 1 rfl) ?_
    refine lv_iload hx hb dX12_different_52 (lv_at hl 4 rfl) ?_
    obtain ⟨x8, hx8, h⟩ := mbv_some h
    refine kr_ci hC hW (kr_runV hC hW hl.1 (t_md_isVisited hx8) cw_X12_346 (wm_0 g μ) rfl rfl rfl (Nat.le_of_ble_eq_true rfl) dX12_different_54 (by decide)) (fun H locs hW => ?_)
    refine lv_if_eq (tgt := 69) hx hb dX12_different_57 (by decide) (fun hc9 => ?_) (fun hc9 => ?_)
    · replace h := if_p hc9 h
      refine lv_iload_n hx hb dX12_different_69 rfl (lv_at hl 3 rfl) ?_
      refine lv_istore_n (lv' := [(3, .int xs3), (0, .ref (ad g 0)), (1, .int a1), (2, .int a2), (4, .int a4), (5, .int xs5)]) hx hb dX12_different_70 rfl hl (by decide) rfl (fun ls hl => ?_)
      refine lv_iinc (v := (xs5 + 1)) (lv' := [(5, .int (xs5 + 1)), (3, .int xs3), (0, .ref (ad g 0)), (1, .int a1), (2, .int a2), (4, .int a4)]) hx hb dX12_different_71 hl (k := 5) rfl (by rw [oi_1]) (by decide) rfl (fun ls hl => ?_)
      refine lv_goto (tgt := 42) hx hb dX12_different_74 (by decide) ?_
      exact k1 (xs3, (xs5 + 1)) (Option.some.inj h).symm _ _ _ (lv_sub hl [2, 3, 4, 1, 5, 0] rfl) hW
    · replace h := if_n hc9 h
      refine lv_iload_n hx hb dX12_different_60 rfl (lv_at hl 3 rfl) ?_
      refine lv_iconst (v := 1) hx hb dX12_different_61 (by decide) ?_
      refine lv_iload hx hb dX12_different_62 (lv_at hl 5 rfl) ?_
      refine lv_ishl hx hb dX12_different_64 ?_
      refine lv_ior hx hb dX12_different_65 ?_
      refine lv_goto (tgt := 70) hx hb dX12_different_66 (by decide) ?_
      refine lv_istore_n (lv' := [(3, .int (xs3 ||| ((1 : Int32) <<< (xs5 &&& 31)))), (0, .ref (ad g 0)), (1, .int a1), (2, .int a2), (4, .int a4), (5, .int xs5)]) hx hb dX12_different_70 rfl hl (by decide) rfl (fun ls hl => ?_)
      refine lv_iinc (v := (xs5 + 1)) (lv' := [(5, .int (xs5 + 1)), (3, .int (xs3 ||| ((1 : Int32) <<< (xs5 &&& 31)))), (0, .ref (ad g 0)), (1, .int a1), (2, .int a2), (4, .int a4)]) hx hb dX12_different_71 hl (k := 5) rfl (by rw [oi_1]) (by decide) rfl (fun ls hl => ?_)
      refine lv_goto (tgt := 42) hx hb dX12_different_74 (by decide) ?_
      exact k1 ((xs3 ||| ((1 : Int32) <<< (xs5 &&& 31))), (xs5 + 1)) (Option.some.inj h).symm _ _ _ (lv_sub hl [2, 3, 4, 1, 5, 0] rfl) hW
set_option maxHeartbeats 4000000 in
set_option maxRecDepth 100000 in
theorem tl_md_different_22 (μ : Mm) (a1 : Int32) (a2 : Int32) (hC : Cx g RX12 cX12_different 6 p s m args c) {e0 : (Int32)} (kx0 : ∀ (ls : Array Slot) (H : Heap) (locs : List Loc), lv_has ls 6 [(0, .ref (ad g 0)), (1, .int a1), (3, .int e0)] → wP g wm A s.heap μ H locs → W p l e (rmD 2) s m args below meth c H locs 0 0 Q (F0 m 83 ls [])) : ∀ (n : Nat) (q : Int32 × Int32), miter (fun q => md_different_b22 μ a1 a2 q.1 q.2) n q = some e0 → ∀ (ls : Array Slot) (H : Heap) (locs : List Loc), lv_has ls 6 [(0, .ref (ad g 0)), (1, .int a1), (2, .int a2), (3, .int q.1), (4, .int q.2)] → wP g wm A s.heap μ H locs → W p l e (rmD 2) s m args below meth c H locs 0 0 Q (F0 m 22 ls []) := by
  obtain ⟨hx, hb, hml, hown, hts, hK, hN⟩ := id hC
  refine miter_ind (fun q r hf k1 k2 => ?_)
  obtain ⟨xs3, xs4⟩ := q
  intro ls H locs hl hW
  have h : md_different_b22 μ a1 a2 xs3 xs4 = some r := hf
  unfold md_different_b22 at h
  refine lv_iload hx hb dX12_different_22 (lv_at hl 4 rfl) ?_
  refine lv_iload_n hx hb dX12_different_24 rfl (lv_at hl 2 rfl) ?_
  refine lv_bipush (v := 14) hx hb dX12_different_25 (by decide) ?_
  refine lv_iadd hx hb dX12_different_27 ?_
  refine lv_icmp_ge (tgt := 83) hx hb dX12_different_28 (by decide) (fun hc5 => ?_) (fun hc5 => ?_)
  · replace h := if_p hc5 h
    obtain rfl := k2 _ (Option.some.inj h).symm
    exact kx0 _ _ _ (lv_sub hl [0, 1, 3] rfl) hW
  · replace h := if_n hc5 h
    refine lv_iload hx hb dX12_different_31 (lv_at hl 4 rfl) ?_
    refine lv_sipush (v := 199) hx hb dX12_different_33 (by decide) ?_
    refine lv_icmp_gt (tgt := 83) hx hb dX12_different_36 (by decide) (fun hc6 => ?_) (fun hc6 => ?_)
    · replace h := if_p hc6 h
      obtain rfl := k2 _ (Option.some.inj h).symm
      exact kx0 _ _ _ (lv_sub hl [0, 1, 3] rfl) hW
    · replace h := if_n hc6 h
      refine lv_iconst (v := 0) hx hb dX12_different_39 (by decide) ?_
      refine lv_istore (lv' := [(5, .int 0), (0, .ref (ad g 0)), (1, .int a1), (2, .int a2), (3, .int xs3), (4, .int xs4)]) hx hb dX12_different_40 hl (by decide) rfl (fun ls hl => ?_)
      obtain ⟨x10, he11, h⟩ := mbv_some h
      refine tl_md_different_42 μ a1 a2 xs4 hC (fun ls H locs hl hW => ?_) FU (xs3, 0) he11 _ _ _ (lv_sub hl [1, 2, 3, 4, 5, 0] rfl) hW
      refine lv_iinc (v := (xs4 + 1)) (lv' := [(4, .int (xs4 + 1)), (0, .ref (ad g 0)), (1, .int a1), (2, .int a2), (3, .int x10)]) hx hb dX12_different_77 hl (k := 4) rfl (by rw [oi_1]) (by decide) rfl (fun ls hl => ?_)
      refine lv_goto (tgt := 22) hx hb dX12_different_80 (by decide) ?_
      exact k1 (x10, (xs4 + 1)) (Option.some.inj h).symm _ _ _ (lv_sub hl [1, 2, 3, 4, 0] rfl) hW
set_option maxHeartbeats 4000000 in
set_option maxRecDepth 100000 in
theorem tl_md_different_95 (μ : Mm) (a1 : Int32) (a3 : Int32) (hC : Cx g RX12 cX12_different 6 p s m args c) {e0 : (Int32)} (kx0 : ∀ (ls : Array Slot) (H : Heap) (locs : List Loc), lv_has ls 6 [(4, .int e0)] → wP g wm A s.heap μ H locs → W p l e (rmD 2) s m args below meth c H locs 0 0 Q (F0 m 162 ls [])) : ∀ (n : Nat) (q : Int32 × Int32), miter (fun q => md_different_b95 μ a1 a3 q.1 q.2) n q = some e0 → ∀ (ls : Array Slot) (H : Heap) (locs : List Loc), lv_has ls 6 [(0, .ref (ad g 0)), (1, .int a1), (3, .int a3), (4, .int q.1), (5, .int q.2)] → wP g wm A s.heap μ H locs → W p l e (rmD 2) s m args below meth c H locs 0 0 Q (F0 m 95 ls []) := by
  obtain ⟨hx, hb, hml, hown, hts, hK, hN⟩ := id hC
  refine miter_ind (fun q r hf k1 k2 => ?_)
  obtain ⟨xs4, xs5⟩ := q
  intro ls H locs hl hW
  have h : md_different_b95 μ a1 a3 xs4 xs5 = some r := hf
  unfold md_different_b95 at h
  refine lv_iload hx hb dX12_different_95 (lv_at hl 4 rfl) ?_
  refine lv_aload_n hx hb dX12_different_97 rfl (lv_at hl 0 rfl) ?_
  refine gf_X12_187_m0 hC hW dX12_different_98 ?_
  refine lv_icmp_ge (tgt := 162) hx hb dX12_different_101 (by decide) (fun hc14 => ?_) (fun hc14 => ?_)
  · replace h := if_p hc14 h
    obtain rfl := k2 _ (Option.some.inj h).symm
    exact kx0 _ _ _ (lv_sub hl [3] rfl) hW
  · replace h := if_n hc14 h
    refine lv_iload hx hb dX12_different_104 (lv_at hl 3 rfl) ?_
    refine lv_aload_n hx hb dX12_different_106 rfl (lv_at hl 0 rfl) ?_
    refine gf_X12_22_m0 hC hW dX12_different_107 ?_
    refine lv_iload hx hb dX12_different_110 (lv_at hl 4 rfl) ?_
    obtain ⟨x15, ex15, hin, h⟩ := mrd_ex h
    refine kr_iald hC hW (wm_5 g μ) hin ex15 dX12_different_112 ?_
    refine lv_iconst (v := 1) hx hb dX12_different_113 (by decide) ?_
    refine lv_iconst (v := 3) hx hb dX12_different_114 (by decide) ?_
    obtain ⟨x16, hx16, h⟩ := mbv_some h
    refine kr_ci hC hW (kr_runS hC hW hl.1 (t_md_in hx16) cw_X12_199 rfl rfl (Nat.le_of_ble_eq_true rfl) dX12_different_115 (by decide)) (fun H locs hW => ?_)
    refine lv_if_eq (tgt := 152) hx hb dX12_different_118 (by decide) (fun hc17 => ?_) (fun hc17 => ?_)
    · replace h := if_p hc17 h
      refine lv_iconst (v := 0) hx hb dX12_different_152 (by decide) ?_
      refine lv_iadd hx hb dX12_different_153 ?_
      refine lv_istore (lv' := [(4, .int (xs4 + 0)), (0, .ref (ad g 0)), (1, .int a1), (3, .int a3), (5, .int xs5)]) hx hb dX12_different_154 hl (by decide) rfl (fun ls hl => ?_)
      refine lv_iinc (v := (xs5 + 1)) (lv' := [(5, .int (xs5 + 1)), (4, .int (xs4 + 0)), (0, .ref (ad g 0)), (1, .int a1), (3, .int a3)]) hx hb dX12_different_156 hl (k := 4) rfl (by rw [oi_1]) (by decide) rfl (fun ls hl => ?_)
      refine lv_goto (tgt := 95) hx hb dX12_different_159 (by decide) ?_
      exact k1 ((xs4 + 0), (xs5 + 1)) (Option.some.inj h).symm _ _ _ (lv_sub hl [2, 3, 4, 1, 0] rfl) hW
    · replace h := if_n hc17 h
      refine lv_iload_n hx hb dX12_different_121 rfl (lv_at hl 2 rfl) ?_
      refine lv_aload_n hx hb dX12_different_122 rfl (lv_at hl 0 rfl) ?_
      refine gf_X12_22_m0 hC hW dX12_different_123 ?_
      refine lv_iload hx hb dX12_different_126 (lv_at hl 4 rfl) ?_
      obtain ⟨x18, ex18, hin, h⟩ := mrd_ex h
      refine kr_iald hC hW (wm_5 g μ) hin ex18 dX12_different_128 ?_
      refine lv_iconst (v := 1) hx hb dX12_different_129 (by decide) ?_
      refine lv_isub hx hb dX12_different_130 ?_
      refine lv_ishr hx hb dX12_different_131 ?_
      refine lv_iconst (v := 1) hx hb dX12_different_132 (by decide) ?_
      refine lv_iand hx hb dX12_different_133 ?_
      refine lv_iconst (v := 1) hx hb dX12_different_134 (by decide) ?_
      refine lv_icmp_ne (tgt := 152) hx hb dX12_different_135 (by decide) (fun hc19 => ?_) (fun hc19 => ?_)
      · replace h := if_n hc19 h
        refine lv_iconst (v := 0) hx hb dX12_different_152 (by decide) ?_
        refine lv_iadd hx hb dX12_different_153 ?_
        refine lv_istore (lv' := [(4, .int (xs4 + 0)), (0, .ref (ad g 0)), (1, .int a1), (3, .int a3), (5, .int xs5)]) hx hb dX12_different_154 hl (by decide) rfl (fun ls hl => ?_)
        refine lv_iinc (v := (xs5 + 1)) (lv' := [(5, .int (xs5 + 1)), (4, .int (xs4 + 0)), (0, .ref (ad g 0)), (1, .int a1), (3, .int a3)]) hx hb dX12_different_156 hl (k := 4) rfl (by rw [oi_1]) (by decide) rfl (fun ls hl => ?_)
        refine lv_goto (tgt := 95) hx hb dX12_different_159 (by decide) ?_
        exact k1 ((xs4 + 0), (xs5 + 1)) (Option.some.inj h).symm _ _ _ (lv_sub hl [2, 3, 4, 1, 0] rfl) hW
      · replace h := if_p hc19 h
        refine lv_aload_n hx hb dX12_different_138 rfl (lv_at hl 0 rfl) ?_
        refine lv_iload_n hx hb dX12_different_139 rfl (lv_at hl 1 rfl) ?_
        refine lv_iload hx hb dX12_different_140 (lv_at hl 4 rfl) ?_
        obtain ⟨x20, hx20, h⟩ := mbv_some h
        refine kr_ci hC hW (kr_runV hC hW hl.1 (t_md_isKnownAt hx20) cw_X12_439 (wm_0 g μ) rfl rfl rfl (Nat.le_of_ble_eq_true rfl) dX12_different_142 (by decide)) (fun H locs hW => ?_)
        refine lv_if_ne (tgt := 152) hx hb dX12_different_145 (by decide) (fun hc21 => ?_) (fun hc21 => ?_)
        · replace h := if_n hc21 h
          refine lv_iconst (v := 0) hx hb dX12_different_152 (by decide) ?_
          refine lv_iadd hx hb dX12_different_153 ?_
          refine lv_istore (lv' := [(4, .int (xs4 + 0)), (0, .ref (ad g 0)), (1, .int a1), (3, .int a3), (5, .int xs5)]) hx hb dX12_different_154 hl (by decide) rfl (fun ls hl => ?_)
          refine lv_iinc (v := (xs5 + 1)) (lv' := [(5, .int (xs5 + 1)), (4, .int (xs4 + 0)), (0, .ref (ad g 0)), (1, .int a1), (3, .int a3)]) hx hb dX12_different_156 hl (k := 4) rfl (by rw [oi_1]) (by decide) rfl (fun ls hl => ?_)
          refine lv_goto (tgt := 95) hx hb dX12_different_159 (by decide) ?_
          exact k1 ((xs4 + 0), (xs5 + 1)) (Option.some.inj h).symm _ _ _ (lv_sub hl [2, 3, 4, 1, 0] rfl) hW
        · replace h := if_p hc21 h
          refine lv_iconst (v := 1) hx hb dX12_different_148 (by decide) ?_
          refine lv_goto (tgt := 153) hx hb dX12_different_149 (by decide) ?_
          refine lv_iadd hx hb dX12_different_153 ?_
          refine lv_istore (lv' := [(4, .int (xs4 + 1)), (0, .ref (ad g 0)), (1, .int a1), (3, .int a3), (5, .int xs5)]) hx hb dX12_different_154 hl (by decide) rfl (fun ls hl => ?_)
          refine lv_iinc (v := (xs5 + 1)) (lv' := [(5, .int (xs5 + 1)), (4, .int (xs4 + 1)), (0, .ref (ad g 0)), (1, .int a1), (3, .int a3)]) hx hb dX12_different_156 hl (k := 4) rfl (by rw [oi_1]) (by decide) rfl (fun ls hl => ?_)
          refine lv_goto (tgt := 95) hx hb dX12_different_159 (by decide) ?_
          exact k1 ((xs4 + 1), (xs5 + 1)) (Option.some.inj h).symm _ _ _ (lv_sub hl [2, 3, 4, 1, 0] rfl) hW
set_option maxHeartbeats 4000000 in
set_option maxRecDepth 100000 in
theorem tj_md_different_83 {μ : Mm} (a1 : Int32) (a3 : Int32) (hC : Cx g RX12 cX12_different 6 p s m args c) (hr : meth.sig.returnType = some .int) (hlocks : meth.locks = false) {v : Int32} (hl : lv_has ls 6 [(0, .ref (ad g 0)), (1, .int a1), (3, .int a3)]) (hW : wP g wm A s.heap μ H locs) (h : md_different_j83 μ a1 a3 = some v) : W p l e (rmD 2) s m args below meth c H locs 0 0 (MQ below (Qi g A wm v μ) args s 0 0 A) (F0 m 83 ls []) := by
  obtain ⟨hx, hb, hml, hown, hts, hK, hN⟩ := id hC
  unfold md_different_j83 at h
  refine lv_iload_n hx hb dX12_different_83 rfl (lv_at hl 2 rfl) ?_
  refine lv_if_ne (tgt := 89) hx hb dX12_different_84 (by decide) (fun hc13 => ?_) (fun hc13 => ?_)
  · replace h := if_n hc13 h
    refine lv_iconst (v := 0) hx hb dX12_different_89 (by decide) ?_
    refine lv_istore (lv' := [(4, .int 0), (0, .ref (ad g 0)), (1, .int a1), (3, .int a3)]) hx hb dX12_different_90 hl (by decide) rfl (fun ls hl => ?_)
    refine lv_iconst (v := 0) hx hb dX12_different_92 (by decide) ?_
    refine lv_istore (lv' := [(5, .int 0), (4, .int 0), (0, .ref (ad g 0)), (1, .int a1), (3, .int a3)]) hx hb dX12_different_93 hl (by decide) rfl (fun ls hl => ?_)
    obtain ⟨x22, he23, h⟩ := mbv_some h
    refine tl_md_different_95 μ a1 a3 hC (fun ls H locs hl hW => ?_) FU (0, 0) he23 _ _ _ (lv_sub hl [2, 3, 4, 1, 0] rfl) hW
    refine lv_iload hx hb dX12_different_162 (lv_at hl 0 rfl) ?_
    cases h
    exact kr_iret hC hr hlocks hW dX12_different_164
  · replace h := if_p hc13 h
    refine lv_iconst (v := (-1)) hx hb dX12_different_87 (by decide) ?_
    cases h
    exact kr_iret hC hr hlocks hW dX12_different_88
set_option maxHeartbeats 4000000 in
set_option maxRecDepth 100000 in
theorem t_md_different {l : Launch} {g : Gx} {A : Nat → Prop} {μ : Mm} {a1 : Int32} {a2 : Int32} {v : Int32} (h : md_different μ a1 a2 = some v) : Cti l g A wm yX12_different cX12_different 6 (some .int) 2 [.ref (ad g 0), .int a1, .int a2] μ v μ := by
  refine ent (lv := [(0, .ref (ad g 0)), (1, .int a1), (2, .int a2)]) (by decide) (Nat.le_of_ble_eq_true rfl) rfl ?_
  intro p e s m args below meth c hC hr hlocks hnm hW ls hl
  replace hC : Cx g RX12 cX12_different 6 p s m args c := hC
  obtain ⟨hx, hb, hml, hown, hts, hK, hN⟩ := id hC
  unfold md_different at h
  refine lv_aload_n hx hb dX12_different_0 rfl (lv_at hl 0 rfl) ?_
  refine lv_iload_n hx hb dX12_different_1 rfl (lv_at hl 1 rfl) ?_
  obtain ⟨x1, hx1, h⟩ := mbv_some h
  refine kr_ci hC hW (kr_runV hC hW hl.1 (t_md_isStop hx1) cw_X12_211 (wm_0 g μ) rfl rfl rfl (Nat.le_of_ble_eq_true rfl) dX12_different_2 (by decide)) (fun H locs hW => ?_)
  refine lv_if_eq (tgt := 15) hx hb dX12_different_5 (by decide) (fun hc2 => ?_) (fun hc2 => ?_)
  · replace h := if_p hc2 h
    refine lv_iconst (v := (-1)) hx hb dX12_different_15 (by decide) ?_
    cases h
    exact kr_iret hC hr hlocks hW dX12_different_16
  · replace h := if_n hc2 h
    refine lv_iload_n hx hb dX12_different_8 rfl (lv_at hl 2 rfl) ?_
    obtain ⟨x3, hx3, h⟩ := mbv_some h
    refine kr_ci hC hW (kr_runS hC hW hl.1 (t_md_isDay hx3) cw_X12_349 rfl rfl (Nat.le_of_ble_eq_true rfl) dX12_different_9 (by decide)) (fun H locs hW => ?_)
    refine lv_if_ne (tgt := 17) hx hb dX12_different_12 (by decide) (fun hc4 => ?_) (fun hc4 => ?_)
    · replace h := if_n hc4 h
      refine lv_iconst (v := 0) hx hb dX12_different_17 (by decide) ?_
      refine lv_istore_n (lv' := [(3, .int 0), (0, .ref (ad g 0)), (1, .int a1), (2, .int a2)]) hx hb dX12_different_18 rfl hl (by decide) rfl (fun ls hl => ?_)
      refine lv_iload_n hx hb dX12_different_19 rfl (lv_at hl 3 rfl) ?_
      refine lv_istore (lv' := [(4, .int a2), (3, .int 0), (0, .ref (ad g 0)), (1, .int a1), (2, .int a2)]) hx hb dX12_different_20 hl (by decide) rfl (fun ls hl => ?_)
      obtain ⟨x12, he24, h⟩ := mbv_some h
      refine tl_md_different_22 μ a1 a2 hC (fun ls H locs hl hW => ?_) FU (0, a2) he24 _ _ _ (lv_sub hl [2, 3, 4, 1, 0] rfl) hW
      exact tj_md_different_83 a1 x12 hC hr hlocks (lv_sub hl [0, 1, 2] rfl) hW h
    · replace h := if_p hc4 h
      refine lv_iconst (v := (-1)) hx hb dX12_different_15 (by decide) ?_
      cases h
      exact kr_iret hC hr hlocks hW dX12_different_16
end
