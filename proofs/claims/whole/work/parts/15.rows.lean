section
variable {p : Program} {l : Launch} {e : Env} {s : State} {m : MethodId} {args : Array Value} {below : List Frame} {meth : Method} {c : Code} {H : Heap} {locs : List Loc} {Q : State → Prop} {g : Gx} {A : Nat → Prop} {ls : Array Slot} {Wd : Gx → Mm → va_W}
set_option maxHeartbeats 4000000 in
set_option maxRecDepth 100000 in
theorem tl_md_byLaw_3 (a1 : Int32) (a2 : Int32) (a3 : Int32) (a4 : Int32) (hC : Cx g RX12 cX12_byLaw 7 p s m args c) {e0 : (Int32 × Mm) ⊕ (Mm)} (kx0 : (Sum.elim (fun a => ∀ (ls : Array Slot) (H : Heap) (locs : List Loc), lv_has ls 7 [(0, .ref (ad g 0)), (2, .int a2), (3, .int a3), (5, .int a.1)] → wP g wm A s.heap a.2 H locs → W p l e (rmD 2) s m args below meth c H locs 0 0 Q (F0 m 48 ls [])) (fun _ => True)) e0) (kx1 : (Sum.elim (fun _ => True) (fun a => ∀ (ls : Array Slot) (H : Heap) (locs : List Loc), lv_has ls 7 [(4, .int a4)] → wP g wm A s.heap a H locs → W p l e (rmD 2) s m args below meth c H locs 0 0 Q (F0 m 97 ls []))) e0) : ∀ (n : Nat) (q : Int32 × Mm), miter (fun q => md_byLaw_b3 q.2 a1 a2 a3 a4 q.1) n q = some e0 → ∀ (ls : Array Slot) (H : Heap) (locs : List Loc), lv_has ls 7 [(0, .ref (ad g 0)), (1, .int a1), (2, .int a2), (3, .int a3), (4, .int a4), (5, .int q.1)] → wP g wm A s.heap q.2 H locs → W p l e (rmD 2) s m args below meth c H locs 0 0 Q (F0 m 3 ls []) := by
  obtain ⟨hx, hb, hml, hown, hts, hK, hN⟩ := id hC
  refine miter_ind (fun q r hf k1 k2 => ?_)
  obtain ⟨xs5, μ⟩ := q
  intro ls H locs hl hW
  have h : md_byLaw_b3 μ a1 a2 a3 a4 xs5 = some r := hf
  unfold md_byLaw_b3 at h
  refine lv_iload hx hb dX12_byLaw_3 (lv_at hl 5 rfl) ?_
  refine lv_aload_n hx hb dX12_byLaw_5 rfl (lv_at hl 0 rfl) ?_
  refine gf_X12_317_m0 hC hW dX12_byLaw_6 ?_
  refine lv_icmp_ge (tgt := 97) hx hb dX12_byLaw_9 (by decide) (fun hc1 => ?_) (fun hc1 => ?_)
  · replace h := if_p hc1 h
    obtain rfl := k2 _ (Option.some.inj h).symm
    exact kx1 _ _ _ (lv_sub hl [4] rfl) hW
  · replace h := if_n hc1 h
    refine lv_aload_n hx hb dX12_byLaw_12 rfl (lv_at hl 0 rfl) ?_
    refine gf_X12_123_m0 hC hW dX12_byLaw_13 ?_
    refine lv_iload hx hb dX12_byLaw_16 (lv_at hl 5 rfl) ?_
    obtain ⟨x2, ex2, hin, h⟩ := mrd_ex h
    refine kr_iald hC hW (wm_38 g μ) hin ex2 dX12_byLaw_18 ?_
    refine lv_iload_n hx hb dX12_byLaw_19 rfl (lv_at hl 1 rfl) ?_
    refine lv_icmp_ne (tgt := 91) hx hb dX12_byLaw_20 (by decide) (fun hc3 => ?_) (fun hc3 => ?_)
    · replace h := if_n hc3 h
      refine lv_iinc (v := (xs5 + 1)) (lv' := [(5, .int (xs5 + 1)), (0, .ref (ad g 0)), (1, .int a1), (2, .int a2), (3, .int a3), (4, .int a4)]) hx hb dX12_byLaw_91 hl (k := 5) rfl (by rw [oi_1]) (by decide) rfl (fun ls hl => ?_)
      refine lv_goto (tgt := 3) hx hb dX12_byLaw_94 (by decide) ?_
      exact k1 ((xs5 + 1), μ) (Option.some.inj h).symm _ _ _ (lv_sub hl [1, 2, 3, 4, 5, 0] rfl) hW
    · replace h := if_p hc3 h
      refine lv_aload_n hx hb dX12_byLaw_23 rfl (lv_at hl 0 rfl) ?_
      refine lv_aload_n hx hb dX12_byLaw_24 rfl (lv_at hl 0 rfl) ?_
      refine gf_X12_129_m0 hC hW dX12_byLaw_25 ?_
      refine lv_iload hx hb dX12_byLaw_28 (lv_at hl 5 rfl) ?_
      obtain ⟨x4, ex4, hin, h⟩ := mrd_ex h
      refine kr_iald hC hW (wm_40 g μ) hin ex4 dX12_byLaw_30 ?_
      refine lv_aload_n hx hb dX12_byLaw_31 rfl (lv_at hl 0 rfl) ?_
      refine gf_X12_132_m0 hC hW dX12_byLaw_32 ?_
      refine lv_iload hx hb dX12_byLaw_35 (lv_at hl 5 rfl) ?_
      obtain ⟨x5, ex5, hin, h⟩ := mrd_ex h
      refine kr_iald hC hW (wm_41 g μ) hin ex5 dX12_byLaw_37 ?_
      obtain ⟨x6, μ7, hx6, h⟩ := mbm_some h
      refine kr_ci hC hW (kr_runV hC hW hl.1 (t_md_comesTo hx6) cw_X12_324 (wm_0 g μ) rfl rfl rfl (Nat.le_of_ble_eq_true rfl) dX12_byLaw_38 (by decide)) (fun H locs hW => ?_)
      refine lv_iconst (v := 1) hx hb dX12_byLaw_41 (by decide) ?_
      refine lv_icmp_eq (tgt := 48) hx hb dX12_byLaw_42 (by decide) (fun hc8 => ?_) (fun hc8 => ?_)
      · replace h := if_p hc8 h
        obtain rfl := k2 _ (Option.some.inj h).symm
        exact kx0 _ _ _ (lv_sub hl [0, 2, 3, 5] rfl) hW
      · replace h := if_n hc8 h
        refine lv_goto (tgt := 91) hx hb dX12_byLaw_45 (by decide) ?_
        refine lv_iinc (v := (xs5 + 1)) (lv' := [(5, .int (xs5 + 1)), (0, .ref (ad g 0)), (1, .int a1), (2, .int a2), (3, .int a3), (4, .int a4)]) hx hb dX12_byLaw_91 hl (k := 5) rfl (by rw [oi_1]) (by decide) rfl (fun ls hl => ?_)
        refine lv_goto (tgt := 3) hx hb dX12_byLaw_94 (by decide) ?_
        exact k1 ((xs5 + 1), μ7) (Option.some.inj h).symm _ _ _ (lv_sub hl [1, 2, 3, 4, 5, 0] rfl) hW
set_option maxHeartbeats 4000000 in
set_option maxRecDepth 100000 in
theorem t_md_byLaw {l : Launch} {g : Gx} {A : Nat → Prop} {μ : Mm} {a1 : Int32} {a2 : Int32} {a3 : Int32} {a4 : Int32} {v : Int32} {u : Mm} (h : md_byLaw μ a1 a2 a3 a4 = some (v, u)) : Cti l g A wm yX12_byLaw cX12_byLaw 7 (some .int) 2 [.ref (ad g 0), .int a1, .int a2, .int a3, .int a4] μ v u := by
  refine ent (lv := [(0, .ref (ad g 0)), (1, .int a1), (2, .int a2), (3, .int a3), (4, .int a4)]) (by decide) (Nat.le_of_ble_eq_true rfl) rfl ?_
  intro p e s m args below meth c hC hr hlocks hnm hW ls hl
  replace hC : Cx g RX12 cX12_byLaw 7 p s m args c := hC
  obtain ⟨hx, hb, hml, hown, hts, hK, hN⟩ := id hC
  unfold md_byLaw at h
  refine lv_iconst (v := 0) hx hb dX12_byLaw_0 (by decide) ?_
  refine lv_istore (lv' := [(5, .int 0), (0, .ref (ad g 0)), (1, .int a1), (2, .int a2), (3, .int a3), (4, .int a4)]) hx hb dX12_byLaw_1 hl (by decide) rfl (fun ls hl => ?_)
  rcases msum2_ex h with ⟨e0, he9, h⟩ | ⟨μ18, he9, h⟩
  · obtain ⟨x10, μ11, ee, h9⟩ := un2_ex h
    clear h
    subst ee
    have h := h9
    clear h9
    refine tl_md_byLaw_3 a1 a2 a3 a4 hC (e0 := (.inl (x10, μ11))) (fun ls H locs hl hW => ?_) trivial FU (0, μ) he9 _ _ _ (lv_sub hl [1, 2, 3, 4, 5, 0] rfl) hW
    refine lv_aload_n hx hb dX12_byLaw_48 rfl (lv_at hl 0 rfl) ?_
    refine lv_aload_n hx hb dX12_byLaw_49 rfl (lv_at hl 0 rfl) ?_
    refine gf_X12_126_m0 hC hW dX12_byLaw_50 ?_
    refine lv_iload hx hb dX12_byLaw_53 (lv_at hl 3 rfl) ?_
    obtain ⟨x12, ex12, hin, h⟩ := mrd_ex h
    refine kr_iald hC hW (wm_39 g μ11) hin ex12 dX12_byLaw_55 ?_
    refine lv_aload_n hx hb dX12_byLaw_56 rfl (lv_at hl 0 rfl) ?_
    refine gf_X12_129_m0 hC hW dX12_byLaw_57 ?_
    refine lv_iload hx hb dX12_byLaw_60 (lv_at hl 3 rfl) ?_
    obtain ⟨x13, ex13, hin, h⟩ := mrd_ex h
    refine kr_iald hC hW (wm_40 g μ11) hin ex13 dX12_byLaw_62 ?_
    obtain ⟨x14, μ15, hx14, h⟩ := mbm_some h
    refine kr_ci hC hW (kr_runV hC hW hl.1 (t_md_comesTo hx14) cw_X12_324 (wm_0 g μ11) rfl rfl rfl (Nat.le_of_ble_eq_true rfl) dX12_byLaw_63 (by decide)) (fun H locs hW => ?_)
    refine lv_istore (lv' := [(6, .int x14), (0, .ref (ad g 0)), (2, .int a2), (3, .int a3), (5, .int x10)]) hx hb dX12_byLaw_66 hl (by decide) rfl (fun ls hl => ?_)
    refine lv_iload hx hb dX12_byLaw_68 (lv_at hl 0 rfl) ?_
    refine lv_iload_n hx hb dX12_byLaw_70 rfl (lv_at hl 2 rfl) ?_
    refine lv_icmp_ge (tgt := 78) hx hb dX12_byLaw_71 (by decide) (fun hc16 => ?_) (fun hc16 => ?_)
    · replace h := if_p hc16 h
      refine lv_iload hx hb dX12_byLaw_78 (lv_at hl 0 rfl) ?_
      refine lv_iload_n hx hb dX12_byLaw_80 rfl (lv_at hl 3 rfl) ?_
      refine lv_icmp_le (tgt := 88) hx hb dX12_byLaw_81 (by decide) (fun hc17 => ?_) (fun hc17 => ?_)
      · replace h := if_p hc17 h
        refine lv_iload hx hb dX12_byLaw_88 (lv_at hl 0 rfl) ?_
        cases h
        exact kr_iret hC hr hlocks hW dX12_byLaw_90
      · replace h := if_n hc17 h
        refine lv_iload_n hx hb dX12_byLaw_84 rfl (lv_at hl 3 rfl) ?_
        refine lv_goto (tgt := 90) hx hb dX12_byLaw_85 (by decide) ?_
        cases h
        exact kr_iret hC hr hlocks hW dX12_byLaw_90
    · replace h := if_n hc16 h
      refine lv_iload_n hx hb dX12_byLaw_74 rfl (lv_at hl 2 rfl) ?_
      refine lv_goto (tgt := 90) hx hb dX12_byLaw_75 (by decide) ?_
      cases h
      exact kr_iret hC hr hlocks hW dX12_byLaw_90
  · refine tl_md_byLaw_3 a1 a2 a3 a4 hC (e0 := (.inr μ18)) trivial (fun ls H locs hl hW => ?_) FU (0, μ) he9 _ _ _ (lv_sub hl [1, 2, 3, 4, 5, 0] rfl) hW
    refine lv_iload hx hb dX12_byLaw_97 (lv_at hl 0 rfl) ?_
    cases h
    exact kr_iret hC hr hlocks hW dX12_byLaw_99
set_option maxHeartbeats 4000000 in
set_option maxRecDepth 100000 in
theorem tl_md_outWith_4 (μ : Mm) (a1 : Int32) (hC : Cx g RX12 cX12_outWith 4 p s m args c) {e0 : (Int32)} (kx0 : ∀ (ls : Array Slot) (H : Heap) (locs : List Loc), lv_has ls 4 [(2, .int e0)] → wP g wm A s.heap μ H locs → W p l e (rmD 0) s m args below meth c H locs 0 0 Q (F0 m 39 ls [])) : ∀ (n : Nat) (q : Int32 × Int32), miter (fun q => md_outWith_b4 μ a1 q.1 q.2) n q = some e0 → ∀ (ls : Array Slot) (H : Heap) (locs : List Loc), lv_has ls 4 [(0, .ref (ad g 0)), (1, .int a1), (2, .int q.1), (3, .int q.2)] → wP g wm A s.heap μ H locs → W p l e (rmD 0) s m args below meth c H locs 0 0 Q (F0 m 4 ls []) := by
  obtain ⟨hx, hb, hml, hown, hts, hK, hN⟩ := id hC
  refine miter_ind (fun q r hf k1 k2 => ?_)
  obtain ⟨xs2, xs3⟩ := q
  intro ls H locs hl hW
  have h : md_outWith_b4 μ a1 xs2 xs3 = some r := hf
  unfold md_outWith_b4 at h
  refine lv_iload_n hx hb dX12_outWith_4 rfl (lv_at hl 3 rfl) ?_
  refine lv_aload_n hx hb dX12_outWith_5 rfl (lv_at hl 0 rfl) ?_
  refine gf_X12_187_m0 hC hW dX12_outWith_6 ?_
  refine lv_icmp_ge (tgt := 39) hx hb dX12_outWith_9 (by decide) (fun hc1 => ?_) (fun hc1 => ?_)
  · replace h := if_p hc1 h
    obtain rfl := k2 _ (Option.some.inj h).symm
    exact kx0 _ _ _ (lv_sub hl [2] rfl) hW
  · replace h := if_n hc1 h
    refine lv_iload_n hx hb dX12_outWith_12 rfl (lv_at hl 2 rfl) ?_
    refine lv_aload_n hx hb dX12_outWith_13 rfl (lv_at hl 0 rfl) ?_
    refine gf_X12_22_m0 hC hW dX12_outWith_14 ?_
    refine lv_iload_n hx hb dX12_outWith_17 rfl (lv_at hl 3 rfl) ?_
    obtain ⟨x2, ex2, hin, h⟩ := mrd_ex h
    refine kr_iald hC hW (wm_5 g μ) hin ex2 dX12_outWith_18 ?_
    refine lv_bipush (v := 10) hx hb dX12_outWith_19 (by decide) ?_
    refine lv_iload_n hx hb dX12_outWith_21 rfl (lv_at hl 1 rfl) ?_
    refine lv_iadd hx hb dX12_outWith_22 ?_
    refine lv_icmp_ne (tgt := 30) hx hb dX12_outWith_23 (by decide) (fun hc3 => ?_) (fun hc3 => ?_)
    · replace h := if_n hc3 h
      refine lv_iconst (v := 0) hx hb dX12_outWith_30 (by decide) ?_
      refine lv_iadd hx hb dX12_outWith_31 ?_
      refine lv_istore_n (lv' := [(2, .int (xs2 + 0)), (0, .ref (ad g 0)), (1, .int a1), (3, .int xs3)]) hx hb dX12_outWith_32 rfl hl (by decide) rfl (fun ls hl => ?_)
      refine lv_iinc (v := (xs3 + 1)) (lv' := [(3, .int (xs3 + 1)), (2, .int (xs2 + 0)), (0, .ref (ad g 0)), (1, .int a1)]) hx hb dX12_outWith_33 hl (k := 3) rfl (by rw [oi_1]) (by decide) rfl (fun ls hl => ?_)
      refine lv_goto (tgt := 4) hx hb dX12_outWith_36 (by decide) ?_
      exact k1 ((xs2 + 0), (xs3 + 1)) (Option.some.inj h).symm _ _ _ (lv_sub hl [2, 3, 1, 0] rfl) hW
    · replace h := if_p hc3 h
      refine lv_iconst (v := 1) hx hb dX12_outWith_26 (by decide) ?_
      refine lv_goto (tgt := 31) hx hb dX12_outWith_27 (by decide) ?_
      refine lv_iadd hx hb dX12_outWith_31 ?_
      refine lv_istore_n (lv' := [(2, .int (xs2 + 1)), (0, .ref (ad g 0)), (1, .int a1), (3, .int xs3)]) hx hb dX12_outWith_32 rfl hl (by decide) rfl (fun ls hl => ?_)
      refine lv_iinc (v := (xs3 + 1)) (lv' := [(3, .int (xs3 + 1)), (2, .int (xs2 + 1)), (0, .ref (ad g 0)), (1, .int a1)]) hx hb dX12_outWith_33 hl (k := 3) rfl (by rw [oi_1]) (by decide) rfl (fun ls hl => ?_)
      refine lv_goto (tgt := 4) hx hb dX12_outWith_36 (by decide) ?_
      exact k1 ((xs2 + 1), (xs3 + 1)) (Option.some.inj h).symm _ _ _ (lv_sub hl [2, 3, 1, 0] rfl) hW
set_option maxHeartbeats 4000000 in
set_option maxRecDepth 100000 in
theorem t_md_outWith {l : Launch} {g : Gx} {A : Nat → Prop} {μ : Mm} {a1 : Int32} {v : Int32} (h : md_outWith μ a1 = some v) : Cti l g A wm yX12_outWith cX12_outWith 4 (some .int) 0 [.ref (ad g 0), .int a1] μ v μ := by
  refine ent (lv := [(0, .ref (ad g 0)), (1, .int a1)]) (by decide) (Nat.le_of_ble_eq_true rfl) rfl ?_
  intro p e s m args below meth c hC hr hlocks hnm hW ls hl
  replace hC : Cx g RX12 cX12_outWith 4 p s m args c := hC
  obtain ⟨hx, hb, hml, hown, hts, hK, hN⟩ := id hC
  unfold md_outWith at h
  refine lv_iconst (v := 0) hx hb dX12_outWith_0 (by decide) ?_
  refine lv_istore_n (lv' := [(2, .int 0), (0, .ref (ad g 0)), (1, .int a1)]) hx hb dX12_outWith_1 rfl hl (by decide) rfl (fun ls hl => ?_)
  refine lv_iconst (v := 0) hx hb dX12_outWith_2 (by decide) ?_
  refine lv_istore_n (lv' := [(3, .int 0), (2, .int 0), (0, .ref (ad g 0)), (1, .int a1)]) hx hb dX12_outWith_3 rfl hl (by decide) rfl (fun ls hl => ?_)
  obtain ⟨x4, he5, h⟩ := mbv_some h
  refine tl_md_outWith_4 μ a1 hC (fun ls H locs hl hW => ?_) FU (0, 0) he5 _ _ _ (lv_sub hl [2, 3, 1, 0] rfl) hW
  refine lv_iload_n hx hb dX12_outWith_39 rfl (lv_at hl 0 rfl) ?_
  cases h
  exact kr_iret hC hr hlocks hW dX12_outWith_40
set_option maxHeartbeats 4000000 in
set_option maxRecDepth 100000 in
theorem tl_md_feels_6 (μ : Mm) (a1 : Int32) (a2 : Int32) (a3 : Int32) (hC : Cx g RX12 cX12_feels 7 p s m args c) {e0 : (Int32)} (kx0 : ∀ (ls : Array Slot) (H : Heap) (locs : List Loc), lv_has ls 7 [(0, .ref (ad g 0)), (1, .int a1), (2, .int a2), (3, .int a3), (4, .int e0)] → wP g wm A s.heap μ H locs → W p l e (rmD 1) s m args below meth c H locs 0 0 Q (F0 m 62 ls [])) : ∀ (n : Nat) (q : Int32 × Int32), miter (fun q => md_feels_b6 μ a1 a2 a3 q.1 q.2) n q = some e0 → ∀ (ls : Array Slot) (H : Heap) (locs : List Loc), lv_has ls 7 [(0, .ref (ad g 0)), (1, .int a1), (2, .int a2), (3, .int a3), (4, .int q.1), (5, .int q.2)] → wP g wm A s.heap μ H locs → W p l e (rmD 1) s m args below meth c H locs 0 0 Q (F0 m 6 ls []) := by
  obtain ⟨hx, hb, hml, hown, hts, hK, hN⟩ := id hC
  refine miter_ind (fun q r hf k1 k2 => ?_)
  obtain ⟨xs4, xs5⟩ := q
  intro ls H locs hl hW
  have h : md_feels_b6 μ a1 a2 a3 xs4 xs5 = some r := hf
  unfold md_feels_b6 at h
  refine lv_iload hx hb dX12_feels_6 (lv_at hl 5 rfl) ?_
  refine lv_aload_n hx hb dX12_feels_8 rfl (lv_at hl 0 rfl) ?_
  refine gf_X12_187_m0 hC hW dX12_feels_9 ?_
  refine lv_icmp_ge (tgt := 62) hx hb dX12_feels_12 (by decide) (fun hc1 => ?_) (fun hc1 => ?_)
  · replace h := if_p hc1 h
    obtain rfl := k2 _ (Option.some.inj h).symm
    exact kx0 _ _ _ (lv_sub hl [0, 1, 2, 3, 4] rfl) hW
  · replace h := if_n hc1 h
    refine lv_iload hx hb dX12_feels_15 (lv_at hl 4 rfl) ?_
    refine lv_aload_n hx hb dX12_feels_17 rfl (lv_at hl 0 rfl) ?_
    refine gf_X12_70_m0 hC hW dX12_feels_18 ?_
    refine lv_bipush (v := 32) hx hb dX12_feels_21 (by decide) ?_
    refine lv_iload_n hx hb dX12_feels_23 rfl (lv_at hl 1 rfl) ?_
    refine lv_imul hx hb dX12_feels_24 ?_
    refine lv_iload hx hb dX12_feels_25 (lv_at hl 5 rfl) ?_
    refine lv_iadd hx hb dX12_feels_27 ?_
    obtain ⟨x2, ex2, hin, h⟩ := mrd_ex h
    refine kr_zald hC hW (wm_21 g μ) hin ex2 dX12_feels_28 ?_
    refine lv_if_eq (tgt := 52) hx hb dX12_feels_29 (by decide) (fun hc3 => ?_) (fun hc3 => ?_)
    · replace h := if_p hc3 h
      refine lv_iconst (v := 0) hx hb dX12_feels_52 (by decide) ?_
      refine lv_iadd hx hb dX12_feels_53 ?_
      refine lv_istore (lv' := [(4, .int (xs4 + 0)), (0, .ref (ad g 0)), (1, .int a1), (2, .int a2), (3, .int a3), (5, .int xs5)]) hx hb dX12_feels_54 hl (by decide) rfl (fun ls hl => ?_)
      refine lv_iinc (v := (xs5 + 1)) (lv' := [(5, .int (xs5 + 1)), (4, .int (xs4 + 0)), (0, .ref (ad g 0)), (1, .int a1), (2, .int a2), (3, .int a3)]) hx hb dX12_feels_56 hl (k := 5) rfl (by rw [oi_1]) (by decide) rfl (fun ls hl => ?_)
      refine lv_goto (tgt := 6) hx hb dX12_feels_59 (by decide) ?_
      exact k1 ((xs4 + 0), (xs5 + 1)) (Option.some.inj h).symm _ _ _ (lv_sub hl [2, 3, 4, 5, 1, 0] rfl) hW
    · replace h := if_n hc3 h
      refine lv_aload_n hx hb dX12_feels_32 rfl (lv_at hl 0 rfl) ?_
      refine gf_X12_7_m0 hC hW dX12_feels_33 ?_
      refine lv_iload hx hb dX12_feels_36 (lv_at hl 5 rfl) ?_
      obtain ⟨x4, ex4, hin, h⟩ := mrd_ex h
      refine kr_iald hC hW (wm_1 g μ) hin ex4 dX12_feels_38 ?_
      refine lv_aload_n hx hb dX12_feels_39 rfl (lv_at hl 0 rfl) ?_
      refine gf_X12_7_m0 hC hW dX12_feels_40 ?_
      refine lv_iload_n hx hb dX12_feels_43 rfl (lv_at hl 2 rfl) ?_
      obtain ⟨x5, ex5, hin, h⟩ := mrd_ex h
      refine kr_iald hC hW (wm_1 g μ) hin ex5 dX12_feels_44 ?_
      refine lv_icmp_ne (tgt := 52) hx hb dX12_feels_45 (by decide) (fun hc6 => ?_) (fun hc6 => ?_)
      · replace h := if_n hc6 h
        refine lv_iconst (v := 0) hx hb dX12_feels_52 (by decide) ?_
        refine lv_iadd hx hb dX12_feels_53 ?_
        refine lv_istore (lv' := [(4, .int (xs4 + 0)), (0, .ref (ad g 0)), (1, .int a1), (2, .int a2), (3, .int a3), (5, .int xs5)]) hx hb dX12_feels_54 hl (by decide) rfl (fun ls hl => ?_)
        refine lv_iinc (v := (xs5 + 1)) (lv' := [(5, .int (xs5 + 1)), (4, .int (xs4 + 0)), (0, .ref (ad g 0)), (1, .int a1), (2, .int a2), (3, .int a3)]) hx hb dX12_feels_56 hl (k := 5) rfl (by rw [oi_1]) (by decide) rfl (fun ls hl => ?_)
        refine lv_goto (tgt := 6) hx hb dX12_feels_59 (by decide) ?_
        exact k1 ((xs4 + 0), (xs5 + 1)) (Option.some.inj h).symm _ _ _ (lv_sub hl [2, 3, 4, 5, 1, 0] rfl) hW
      · replace h := if_p hc6 h
        refine lv_iconst (v := 1) hx hb dX12_feels_48 (by decide) ?_
        refine lv_goto (tgt := 53) hx hb dX12_feels_49 (by decide) ?_
        refine lv_iadd hx hb dX12_feels_53 ?_
        refine lv_istore (lv' := [(4, .int (xs4 + 1)), (0, .ref (ad g 0)), (1, .int a1), (2, .int a2), (3, .int a3), (5, .int xs5)]) hx hb dX12_feels_54 hl (by decide) rfl (fun ls hl => ?_)
        refine lv_iinc (v := (xs5 + 1)) (lv' := [(5, .int (xs5 + 1)), (4, .int (xs4 + 1)), (0, .ref (ad g 0)), (1, .int a1), (2, .int a2), (3, .int a3)]) hx hb dX12_feels_56 hl (k := 5) rfl (by rw [oi_1]) (by decide) rfl (fun ls hl => ?_)
        refine lv_goto (tgt := 6) hx hb dX12_feels_59 (by decide) ?_
        exact k1 ((xs4 + 1), (xs5 + 1)) (Option.some.inj h).symm _ _ _ (lv_sub hl [2, 3, 4, 5, 1, 0] rfl) hW
set_option maxHeartbeats 4000000 in
set_option maxRecDepth 100000 in
theorem tl_md_feels_68 (μ : Mm) (a1 : Int32) (a2 : Int32) (a3 : Int32) (a4 : Int32) (hC : Cx g RX12 cX12_feels 7 p s m args c) {e0 : (Int32)} (kx0 : ∀ (ls : Array Slot) (H : Heap) (locs : List Loc), lv_has ls 7 [(0, .ref (ad g 0)), (1, .int a1), (2, .int a2), (3, .int a3), (4, .int a4), (5, .int e0)] → wP g wm A s.heap μ H locs → W p l e (rmD 1) s m args below meth c H locs 0 0 Q (F0 m 124 ls [])) : ∀ (n : Nat) (q : Int32 × Int32), miter (fun q => md_feels_b68 μ a1 a2 a3 a4 q.1 q.2) n q = some e0 → ∀ (ls : Array Slot) (H : Heap) (locs : List Loc), lv_has ls 7 [(0, .ref (ad g 0)), (1, .int a1), (2, .int a2), (3, .int a3), (4, .int a4), (5, .int q.1), (6, .int q.2)] → wP g wm A s.heap μ H locs → W p l e (rmD 1) s m args below meth c H locs 0 0 Q (F0 m 68 ls []) := by
  obtain ⟨hx, hb, hml, hown, hts, hK, hN⟩ := id hC
  refine miter_ind (fun q r hf k1 k2 => ?_)
  obtain ⟨xs5, xs6⟩ := q
  intro ls H locs hl hW
  have h : md_feels_b68 μ a1 a2 a3 a4 xs5 xs6 = some r := hf
  unfold md_feels_b68 at h
  refine lv_iload hx hb dX12_feels_68 (lv_at hl 6 rfl) ?_
  refine lv_aload_n hx hb dX12_feels_70 rfl (lv_at hl 0 rfl) ?_
  refine gf_X12_193_m0 hC hW dX12_feels_71 ?_
  refine lv_icmp_ge (tgt := 124) hx hb dX12_feels_74 (by decide) (fun hc8 => ?_) (fun hc8 => ?_)
  · replace h := if_p hc8 h
    obtain rfl := k2 _ (Option.some.inj h).symm
    exact kx0 _ _ _ (lv_sub hl [0, 1, 2, 3, 4, 5] rfl) hW
  · replace h := if_n hc8 h
    refine lv_iload hx hb dX12_feels_77 (lv_at hl 5 rfl) ?_
    refine lv_aload_n hx hb dX12_feels_79 rfl (lv_at hl 0 rfl) ?_
    refine gf_X12_52_m0 hC hW dX12_feels_80 ?_
    refine lv_iload hx hb dX12_feels_83 (lv_at hl 6 rfl) ?_
    obtain ⟨x9, ex9, hin, h⟩ := mrd_ex h
    refine kr_iald hC hW (wm_15 g μ) hin ex9 dX12_feels_85 ?_
    refine lv_aload_n hx hb dX12_feels_86 rfl (lv_at hl 0 rfl) ?_
    refine gf_X12_52_m0 hC hW dX12_feels_87 ?_
    refine lv_iload_n hx hb dX12_feels_90 rfl (lv_at hl 1 rfl) ?_
    obtain ⟨x10, ex10, hin, h⟩ := mrd_ex h
    refine kr_iald hC hW (wm_15 g μ) hin ex10 dX12_feels_91 ?_
    refine lv_icmp_ne (tgt := 114) hx hb dX12_feels_92 (by decide) (fun hc11 => ?_) (fun hc11 => ?_)
    · replace h := if_n hc11 h
      refine lv_iconst (v := 0) hx hb dX12_feels_114 (by decide) ?_
      refine lv_iadd hx hb dX12_feels_115 ?_
      refine lv_istore (lv' := [(5, .int (xs5 + 0)), (0, .ref (ad g 0)), (1, .int a1), (2, .int a2), (3, .int a3), (4, .int a4), (6, .int xs6)]) hx hb dX12_feels_116 hl (by decide) rfl (fun ls hl => ?_)
      refine lv_iinc (v := (xs6 + 1)) (lv' := [(6, .int (xs6 + 1)), (5, .int (xs5 + 0)), (0, .ref (ad g 0)), (1, .int a1), (2, .int a2), (3, .int a3), (4, .int a4)]) hx hb dX12_feels_118 hl (k := 6) rfl (by rw [oi_1]) (by decide) rfl (fun ls hl => ?_)
      refine lv_goto (tgt := 68) hx hb dX12_feels_121 (by decide) ?_
      exact k1 ((xs5 + 0), (xs6 + 1)) (Option.some.inj h).symm _ _ _ (lv_sub hl [2, 3, 4, 5, 6, 1, 0] rfl) hW
    · replace h := if_p hc11 h
      refine lv_aload_n hx hb dX12_feels_95 rfl (lv_at hl 0 rfl) ?_
      refine gf_X12_70_m0 hC hW dX12_feels_96 ?_
      refine lv_bipush (v := 32) hx hb dX12_feels_99 (by decide) ?_
      refine lv_iload hx hb dX12_feels_101 (lv_at hl 6 rfl) ?_
      refine lv_imul hx hb dX12_feels_103 ?_
      refine lv_iload_n hx hb dX12_feels_104 rfl (lv_at hl 2 rfl) ?_
      refine lv_iadd hx hb dX12_feels_105 ?_
      obtain ⟨x12, ex12, hin, h⟩ := mrd_ex h
      refine kr_zald hC hW (wm_21 g μ) hin ex12 dX12_feels_106 ?_
      refine lv_if_eq (tgt := 114) hx hb dX12_feels_107 (by decide) (fun hc13 => ?_) (fun hc13 => ?_)
      · replace h := if_p hc13 h
        refine lv_iconst (v := 0) hx hb dX12_feels_114 (by decide) ?_
        refine lv_iadd hx hb dX12_feels_115 ?_
        refine lv_istore (lv' := [(5, .int (xs5 + 0)), (0, .ref (ad g 0)), (1, .int a1), (2, .int a2), (3, .int a3), (4, .int a4), (6, .int xs6)]) hx hb dX12_feels_116 hl (by decide) rfl (fun ls hl => ?_)
        refine lv_iinc (v := (xs6 + 1)) (lv' := [(6, .int (xs6 + 1)), (5, .int (xs5 + 0)), (0, .ref (ad g 0)), (1, .int a1), (2, .int a2), (3, .int a3), (4, .int a4)]) hx hb dX12_feels_118 hl (k := 6) rfl (by rw [oi_1]) (by decide) rfl (fun ls hl => ?_)
        refine lv_goto (tgt := 68) hx hb dX12_feels_121 (by decide) ?_
        exact k1 ((xs5 + 0), (xs6 + 1)) (Option.some.inj h).symm _ _ _ (lv_sub hl [2, 3, 4, 5, 6, 1, 0] rfl) hW
      · replace h := if_n hc13 h
        refine lv_iconst (v := 1) hx hb dX12_feels_110 (by decide) ?_
        refine lv_goto (tgt := 115) hx hb dX12_feels_111 (by decide) ?_
        refine lv_iadd hx hb dX12_feels_115 ?_
        refine lv_istore (lv' := [(5, .int (xs5 + 1)), (0, .ref (ad g 0)), (1, .int a1), (2, .int a2), (3, .int a3), (4, .int a4), (6, .int xs6)]) hx hb dX12_feels_116 hl (by decide) rfl (fun ls hl => ?_)
        refine lv_iinc (v := (xs6 + 1)) (lv' := [(6, .int (xs6 + 1)), (5, .int (xs5 + 1)), (0, .ref (ad g 0)), (1, .int a1), (2, .int a2), (3, .int a3), (4, .int a4)]) hx hb dX12_feels_118 hl (k := 6) rfl (by rw [oi_1]) (by decide) rfl (fun ls hl => ?_)
        refine lv_goto (tgt := 68) hx hb dX12_feels_121 (by decide) ?_
        exact k1 ((xs5 + 1), (xs6 + 1)) (Option.some.inj h).symm _ _ _ (lv_sub hl [2, 3, 4, 5, 6, 1, 0] rfl) hW
set_option maxHeartbeats 4000000 in
set_option maxRecDepth 100000 in
theorem t_md_feels {l : Launch} {g : Gx} {A : Nat → Prop} {μ : Mm} {a1 : Int32} {a2 : Int32} {a3 : Int32} {u : Mm} (h : md_feels μ a1 a2 a3 = some u) : Ctv l g A wm yX12_feels cX12_feels 7 none 1 [.ref (ad g 0), .int a1, .int a2, .int a3] μ u := by
  refine ent (lv := [(0, .ref (ad g 0)), (1, .int a1), (2, .int a2), (3, .int a3)]) (by decide) (Nat.le_of_ble_eq_true rfl) rfl ?_
  intro p e s m args below meth c hC hr hlocks hnm hW ls hl
  replace hC : Cx g RX12 cX12_feels 7 p s m args c := hC
  obtain ⟨hx, hb, hml, hown, hts, hK, hN⟩ := id hC
  unfold md_feels at h
  refine lv_iconst (v := 0) hx hb dX12_feels_0 (by decide) ?_
  refine lv_istore (lv' := [(4, .int 0), (0, .ref (ad g 0)), (1, .int a1), (2, .int a2), (3, .int a3)]) hx hb dX12_feels_1 hl (by decide) rfl (fun ls hl => ?_)
  refine lv_iconst (v := 0) hx hb dX12_feels_3 (by decide) ?_
  refine lv_istore (lv' := [(5, .int 0), (4, .int 0), (0, .ref (ad g 0)), (1, .int a1), (2, .int a2), (3, .int a3)]) hx hb dX12_feels_4 hl (by decide) rfl (fun ls hl => ?_)
  obtain ⟨x7, he36, h⟩ := mbv_some h
  refine tl_md_feels_6 μ a1 a2 a3 hC (fun ls H locs hl hW => ?_) FU (0, 0) he36 _ _ _ (lv_sub hl [2, 3, 4, 5, 1, 0] rfl) hW
  refine lv_iconst (v := 0) hx hb dX12_feels_62 (by decide) ?_
  refine lv_istore (lv' := [(5, .int 0), (0, .ref (ad g 0)), (1, .int a1), (2, .int a2), (3, .int a3), (4, .int x7)]) hx hb dX12_feels_63 hl (by decide) rfl (fun ls hl => ?_)
  refine lv_iconst (v := 0) hx hb dX12_feels_65 (by decide) ?_
  refine lv_istore (lv' := [(6, .int 0), (5, .int 0), (0, .ref (ad g 0)), (1, .int a1), (2, .int a2), (3, .int a3), (4, .int x7)]) hx hb dX12_feels_66 hl (by decide) rfl (fun ls hl => ?_)
  obtain ⟨x14, he35, h⟩ := mbv_some h
  refine tl_md_feels_68 μ a1 a2 a3 x7 hC (fun ls H locs hl hW => ?_) FU (0, 0) he35 _ _ _ (lv_sub hl [2, 3, 4, 5, 6, 1, 0] rfl) hW
  refine lv_aload_n hx hb dX12_feels_124 rfl (lv_at hl 0 rfl) ?_
  refine gf_X12_138_m0 hC hW dX12_feels_125 ?_
  refine lv_iconst (v := 0) hx hb dX12_feels_128 (by decide) ?_
  refine lv_aload_n hx hb dX12_feels_129 rfl (lv_at hl 0 rfl) ?_
  refine gf_X12_58_m0 hC hW dX12_feels_130 ?_
  refine lv_bipush (v := 8) hx hb dX12_feels_133 (by decide) ?_
  refine lv_iload_n hx hb dX12_feels_135 rfl (lv_at hl 1 rfl) ?_
  refine lv_imul hx hb dX12_feels_136 ?_
  refine lv_aload_n hx hb dX12_feels_137 rfl (lv_at hl 0 rfl) ?_
  refine gf_X12_7_m0 hC hW dX12_feels_138 ?_
  refine lv_iload_n hx hb dX12_feels_141 rfl (lv_at hl 2 rfl) ?_
  obtain ⟨x15, ex15, hin, h⟩ := mrd_ex h
  refine kr_iald hC hW (wm_1 g μ) hin ex15 dX12_feels_142 ?_
  refine lv_iadd hx hb dX12_feels_143 ?_
  obtain ⟨x16, ex16, hin, h⟩ := mrd_ex h
  refine kr_iald hC hW (wm_17 g μ) hin ex16 dX12_feels_144 ?_
  obtain ⟨μ17, eμ17, hin, h⟩ := mwr_ex h
  refine kr_iast hC hW (wm_43 g μ) (wms_43 eμ17) hin dX12_feels_145 (fun H locs hW => ?_)
  refine lv_aload_n hx hb dX12_feels_146 rfl (lv_at hl 0 rfl) ?_
  refine gf_X12_138_m0 hC hW dX12_feels_147 ?_
  refine lv_iconst (v := 1) hx hb dX12_feels_150 (by decide) ?_
  refine lv_aload_n hx hb dX12_feels_151 rfl (lv_at hl 0 rfl) ?_
  refine gf_X12_7_m0 hC hW dX12_feels_152 ?_
  refine lv_iload_n hx hb dX12_feels_155 rfl (lv_at hl 2 rfl) ?_
  obtain ⟨x18, ex18, hin, h⟩ := mrd_ex h
  refine kr_iald hC hW (wm_1 g μ17) hin ex18 dX12_feels_156 ?_
  obtain ⟨μ19, eμ19, hin, h⟩ := mwr_ex h
  refine kr_iast hC hW (wm_43 g μ17) (wms_43 eμ19) hin dX12_feels_157 (fun H locs hW => ?_)
  refine lv_aload_n hx hb dX12_feels_158 rfl (lv_at hl 0 rfl) ?_
  refine gf_X12_138_m0 hC hW dX12_feels_159 ?_
  refine lv_iconst (v := 2) hx hb dX12_feels_162 (by decide) ?_
  refine lv_aload_n hx hb dX12_feels_163 rfl (lv_at hl 0 rfl) ?_
  refine gf_X12_13_m0 hC hW dX12_feels_164 ?_
  refine lv_iload_n hx hb dX12_feels_167 rfl (lv_at hl 2 rfl) ?_
  obtain ⟨x20, ex20, hin, h⟩ := mrd_ex h
  refine kr_iald hC hW (wm_2 g μ19) hin ex20 dX12_feels_168 ?_
  obtain ⟨μ21, eμ21, hin, h⟩ := mwr_ex h
  refine kr_iast hC hW (wm_43 g μ19) (wms_43 eμ21) hin dX12_feels_169 (fun H locs hW => ?_)
  refine lv_aload_n hx hb dX12_feels_170 rfl (lv_at hl 0 rfl) ?_
  refine gf_X12_138_m0 hC hW dX12_feels_171 ?_
  refine lv_iconst (v := 3) hx hb dX12_feels_174 (by decide) ?_
  refine lv_aload_n hx hb dX12_feels_175 rfl (lv_at hl 0 rfl) ?_
  refine gf_X12_16_m0 hC hW dX12_feels_176 ?_
  refine lv_iload_n hx hb dX12_feels_179 rfl (lv_at hl 2 rfl) ?_
  obtain ⟨x22, ex22, hin, h⟩ := mrd_ex h
  refine kr_iald hC hW (wm_3 g μ21) hin ex22 dX12_feels_180 ?_
  obtain ⟨μ23, eμ23, hin, h⟩ := mwr_ex h
  refine kr_iast hC hW (wm_43 g μ21) (wms_43 eμ23) hin dX12_feels_181 (fun H locs hW => ?_)
  refine lv_aload_n hx hb dX12_feels_182 rfl (lv_at hl 0 rfl) ?_
  refine gf_X12_138_m0 hC hW dX12_feels_183 ?_
  refine lv_iconst (v := 4) hx hb dX12_feels_186 (by decide) ?_
  refine lv_aload_n hx hb dX12_feels_187 rfl (lv_at hl 0 rfl) ?_
  refine gf_X12_19_m0 hC hW dX12_feels_188 ?_
  refine lv_iload_n hx hb dX12_feels_191 rfl (lv_at hl 2 rfl) ?_
  obtain ⟨x24, ex24, hin, h⟩ := mrd_ex h
  refine kr_iald hC hW (wm_4 g μ23) hin ex24 dX12_feels_192 ?_
  obtain ⟨μ25, eμ25, hin, h⟩ := mwr_ex h
  refine kr_iast hC hW (wm_43 g μ23) (wms_43 eμ25) hin dX12_feels_193 (fun H locs hW => ?_)
  refine lv_aload_n hx hb dX12_feels_194 rfl (lv_at hl 0 rfl) ?_
  refine gf_X12_138_m0 hC hW dX12_feels_195 ?_
  refine lv_iconst (v := 5) hx hb dX12_feels_198 (by decide) ?_
  refine lv_iload hx hb dX12_feels_199 (lv_at hl 4 rfl) ?_
  obtain ⟨μ26, eμ26, hin, h⟩ := mwr_ex h
  refine kr_iast hC hW (wm_43 g μ25) (wms_43 eμ26) hin dX12_feels_201 (fun H locs hW => ?_)
  refine lv_aload_n hx hb dX12_feels_202 rfl (lv_at hl 0 rfl) ?_
  refine gf_X12_138_m0 hC hW dX12_feels_203 ?_
  refine lv_bipush (v := 6) hx hb dX12_feels_206 (by decide) ?_
  refine lv_aload_n hx hb dX12_feels_208 rfl (lv_at hl 0 rfl) ?_
  refine lv_iload_n hx hb dX12_feels_209 rfl (lv_at hl 1 rfl) ?_
  obtain ⟨x27, hx27, h⟩ := mbv_some h
  refine kr_ci hC hW (kr_runV hC hW hl.1 (t_md_outWith hx27) cw_X12_328 (wm_0 g μ26) rfl rfl rfl (Nat.le_of_ble_eq_true rfl) dX12_feels_210 (by decide)) (fun H locs hW => ?_)
  obtain ⟨μ28, eμ28, hin, h⟩ := mwr_ex h
  refine kr_iast hC hW (wm_43 g μ26) (wms_43 eμ28) hin dX12_feels_213 (fun H locs hW => ?_)
  refine lv_aload_n hx hb dX12_feels_214 rfl (lv_at hl 0 rfl) ?_
  refine gf_X12_138_m0 hC hW dX12_feels_215 ?_
  refine lv_bipush (v := 7) hx hb dX12_feels_218 (by decide) ?_
  refine lv_aload_n hx hb dX12_feels_220 rfl (lv_at hl 0 rfl) ?_
  refine gf_X12_52_m0 hC hW dX12_feels_221 ?_
  refine lv_iload_n hx hb dX12_feels_224 rfl (lv_at hl 1 rfl) ?_
  obtain ⟨x29, ex29, hin, h⟩ := mrd_ex h
  refine kr_iald hC hW (wm_15 g μ28) hin ex29 dX12_feels_225 ?_
  obtain ⟨μ30, eμ30, hin, h⟩ := mwr_ex h
  refine kr_iast hC hW (wm_43 g μ28) (wms_43 eμ30) hin dX12_feels_226 (fun H locs hW => ?_)
  refine lv_aload_n hx hb dX12_feels_227 rfl (lv_at hl 0 rfl) ?_
  refine gf_X12_138_m0 hC hW dX12_feels_228 ?_
  refine lv_bipush (v := 8) hx hb dX12_feels_231 (by decide) ?_
  refine lv_iload_n hx hb dX12_feels_233 rfl (lv_at hl 2 rfl) ?_
  obtain ⟨μ31, eμ31, hin, h⟩ := mwr_ex h
  refine kr_iast hC hW (wm_43 g μ30) (wms_43 eμ31) hin dX12_feels_234 (fun H locs hW => ?_)
  refine lv_aload_n hx hb dX12_feels_235 rfl (lv_at hl 0 rfl) ?_
  refine gf_X12_138_m0 hC hW dX12_feels_236 ?_
  refine lv_bipush (v := 9) hx hb dX12_feels_239 (by decide) ?_
  refine lv_aload_n hx hb dX12_feels_241 rfl (lv_at hl 0 rfl) ?_
  refine gf_X12_196_m0 hC hW dX12_feels_242 ?_
  obtain ⟨μ32, eμ32, hin, h⟩ := mwr_ex h
  refine kr_iast hC hW (wm_43 g μ31) (wms_43 eμ32) hin dX12_feels_245 (fun H locs hW => ?_)
  refine lv_aload_n hx hb dX12_feels_246 rfl (lv_at hl 0 rfl) ?_
  refine gf_X12_138_m0 hC hW dX12_feels_247 ?_
  refine lv_bipush (v := 10) hx hb dX12_feels_250 (by decide) ?_
  refine lv_iload_n hx hb dX12_feels_252 rfl (lv_at hl 3 rfl) ?_
  obtain ⟨μ33, eμ33, hin, h⟩ := mwr_ex h
  refine kr_iast hC hW (wm_43 g μ32) (wms_43 eμ33) hin dX12_feels_253 (fun H locs hW => ?_)
  refine lv_aload_n hx hb dX12_feels_254 rfl (lv_at hl 0 rfl) ?_
  refine gf_X12_138_m0 hC hW dX12_feels_255 ?_
  refine lv_bipush (v := 11) hx hb dX12_feels_258 (by decide) ?_
  refine lv_iload hx hb dX12_feels_260 (lv_at hl 5 rfl) ?_
  obtain ⟨μ34, eμ34, hin, h⟩ := mwr_ex h
  refine kr_iast hC hW (wm_43 g μ33) (wms_43 eμ34) hin dX12_feels_262 (fun H locs hW => ?_)
  cases h
  exact kr_vret hC hr hlocks hW dX12_feels_263
set_option maxHeartbeats 4000000 in
set_option maxRecDepth 100000 in
theorem tj_md_wantsBy_18 {μ : Mm} (a1 : Int32) (a2 : Int32) (hC : Cx g RX12 cX12_wantsBy 4 p s m args c) (hr : meth.sig.returnType = some .int) (hlocks : meth.locks = false) {v : Int32} {u : Mm} (hl : lv_has ls 4 [(0, .ref (ad g 0)), (1, .int a1), (2, .int a2)]) (hW : wP g wm A s.heap μ H locs) (h : md_wantsBy_j18 μ a1 a2 = some (v, u)) : W p l e (rmD 3) s m args below meth c H locs 0 0 (MQ below (Qi g A wm v u) args s 0 0 A) (F0 m 18 ls []) := by
  obtain ⟨hx, hb, hml, hown, hts, hK, hN⟩ := id hC
  unfold md_wantsBy_j18 at h
  refine lv_aload_n hx hb dX12_wantsBy_18 rfl (lv_at hl 0 rfl) ?_
  refine gf_X12_55_m0 hC hW dX12_wantsBy_19 ?_
  refine lv_iload_n hx hb dX12_wantsBy_22 rfl (lv_at hl 1 rfl) ?_
  obtain ⟨x3, ex3, hin, h⟩ := mrd_ex h
  refine kr_iald hC hW (wm_16 g μ) hin ex3 dX12_wantsBy_23 ?_
  refine lv_if_eq (tgt := 44) hx hb dX12_wantsBy_24 (by decide) (fun hc4 => ?_) (fun hc4 => ?_)
  · replace h := if_p hc4 h
    refine lv_aload_n hx hb dX12_wantsBy_44 rfl (lv_at hl 0 rfl) ?_
    refine lv_iload_n hx hb dX12_wantsBy_45 rfl (lv_at hl 1 rfl) ?_
    refine lv_iload_n hx hb dX12_wantsBy_46 rfl (lv_at hl 2 rfl) ?_
    refine lv_iconst (v := 0) hx hb dX12_wantsBy_47 (by decide) ?_
    obtain ⟨μ6, hxμ6, h⟩ := mbv_some h
    refine kr_cv hC hW (kr_runV hC hW hl.1 (t_md_feels hxμ6) cw_X12_331 (wm_0 g μ) rfl rfl rfl (Nat.le_of_ble_eq_true rfl) dX12_wantsBy_48 (by decide)) (fun H locs hW => ?_)
    refine lv_aload_n hx hb dX12_wantsBy_51 rfl (lv_at hl 0 rfl) ?_
    refine lv_bipush (v := 119) hx hb dX12_wantsBy_52 (by decide) ?_
    refine lv_iconst (v := 0) hx hb dX12_wantsBy_54 (by decide) ?_
    refine lv_sipush (v := 1000) hx hb dX12_wantsBy_55 (by decide) ?_
    refine lv_iconst (v := 0) hx hb dX12_wantsBy_58 (by decide) ?_
    obtain ⟨x7, μ8, hx7, h⟩ := mbm_some h
    refine kr_ci hC hW (kr_runV hC hW hl.1 (t_md_byLaw hx7) cw_X12_335 (wm_0 g μ6) rfl rfl rfl (Nat.le_of_ble_eq_true rfl) dX12_wantsBy_59 (by decide)) (fun H locs hW => ?_)
    cases h
    exact kr_iret hC hr hlocks hW dX12_wantsBy_62
  · replace h := if_n hc4 h
    refine lv_aload_n hx hb dX12_wantsBy_27 rfl (lv_at hl 0 rfl) ?_
    refine gf_X12_55_m0 hC hW dX12_wantsBy_28 ?_
    refine lv_iload_n hx hb dX12_wantsBy_31 rfl (lv_at hl 1 rfl) ?_
    obtain ⟨x9, ex9, hin, h⟩ := mrd_ex h
    refine kr_iald hC hW (wm_16 g μ) hin ex9 dX12_wantsBy_32 ?_
    refine lv_aload_n hx hb dX12_wantsBy_33 rfl (lv_at hl 0 rfl) ?_
    refine gf_X12_16_m0 hC hW dX12_wantsBy_34 ?_
    refine lv_iload_n hx hb dX12_wantsBy_37 rfl (lv_at hl 2 rfl) ?_
    obtain ⟨x10, ex10, hin, h⟩ := mrd_ex h
    refine kr_iald hC hW (wm_3 g μ) hin ex10 dX12_wantsBy_38 ?_
    refine lv_icmp_eq (tgt := 44) hx hb dX12_wantsBy_39 (by decide) (fun hc11 => ?_) (fun hc11 => ?_)
    · replace h := if_p hc11 h
      refine lv_aload_n hx hb dX12_wantsBy_44 rfl (lv_at hl 0 rfl) ?_
      refine lv_iload_n hx hb dX12_wantsBy_45 rfl (lv_at hl 1 rfl) ?_
      refine lv_iload_n hx hb dX12_wantsBy_46 rfl (lv_at hl 2 rfl) ?_
      refine lv_iconst (v := 0) hx hb dX12_wantsBy_47 (by decide) ?_
      obtain ⟨μ13, hxμ13, h⟩ := mbv_some h
      refine kr_cv hC hW (kr_runV hC hW hl.1 (t_md_feels hxμ13) cw_X12_331 (wm_0 g μ) rfl rfl rfl (Nat.le_of_ble_eq_true rfl) dX12_wantsBy_48 (by decide)) (fun H locs hW => ?_)
      refine lv_aload_n hx hb dX12_wantsBy_51 rfl (lv_at hl 0 rfl) ?_
      refine lv_bipush (v := 119) hx hb dX12_wantsBy_52 (by decide) ?_
      refine lv_iconst (v := 0) hx hb dX12_wantsBy_54 (by decide) ?_
      refine lv_sipush (v := 1000) hx hb dX12_wantsBy_55 (by decide) ?_
      refine lv_iconst (v := 0) hx hb dX12_wantsBy_58 (by decide) ?_
      obtain ⟨x14, μ15, hx14, h⟩ := mbm_some h
      refine kr_ci hC hW (kr_runV hC hW hl.1 (t_md_byLaw hx14) cw_X12_335 (wm_0 g μ13) rfl rfl rfl (Nat.le_of_ble_eq_true rfl) dX12_wantsBy_59 (by decide)) (fun H locs hW => ?_)
      cases h
      exact kr_iret hC hr hlocks hW dX12_wantsBy_62
    · replace h := if_n hc11 h
      refine lv_iconst (v := 0) hx hb dX12_wantsBy_42 (by decide) ?_
      cases h
      exact kr_iret hC hr hlocks hW dX12_wantsBy_43
set_option maxHeartbeats 4000000 in
set_option maxRecDepth 100000 in
theorem t_md_wantsBy {l : Launch} {g : Gx} {A : Nat → Prop} {μ : Mm} {a1 : Int32} {a2 : Int32} {a3 : Int32} {v : Int32} {u : Mm} (h : md_wantsBy μ a1 a2 a3 = some (v, u)) : Cti l g A wm yX12_wantsBy cX12_wantsBy 4 (some .int) 3 [.ref (ad g 0), .int a1, .int a2, .int a3] μ v u := by
  refine ent (lv := [(0, .ref (ad g 0)), (1, .int a1), (2, .int a2), (3, .int a3)]) (by decide) (Nat.le_of_ble_eq_true rfl) rfl ?_
  intro p e s m args below meth c hC hr hlocks hnm hW ls hl
  replace hC : Cx g RX12 cX12_wantsBy 4 p s m args c := hC
  obtain ⟨hx, hb, hml, hown, hts, hK, hN⟩ := id hC
  unfold md_wantsBy at h
  refine lv_aload_n hx hb dX12_wantsBy_0 rfl (lv_at hl 0 rfl) ?_
  refine gf_X12_70_m0 hC hW dX12_wantsBy_1 ?_
  refine lv_bipush (v := 32) hx hb dX12_wantsBy_4 (by decide) ?_
  refine lv_iload_n hx hb dX12_wantsBy_6 rfl (lv_at hl 1 rfl) ?_
  refine lv_imul hx hb dX12_wantsBy_7 ?_
  refine lv_iload_n hx hb dX12_wantsBy_8 rfl (lv_at hl 2 rfl) ?_
  refine lv_iadd hx hb dX12_wantsBy_9 ?_
  obtain ⟨x1, ex1, hin, h⟩ := mrd_ex h
  refine kr_zald hC hW (wm_21 g μ) hin ex1 dX12_wantsBy_10 ?_
  refine lv_if_eq (tgt := 18) hx hb dX12_wantsBy_11 (by decide) (fun hc2 => ?_) (fun hc2 => ?_)
  · replace h := if_p hc2 h
    exact tj_md_wantsBy_18 a1 a2 hC hr hlocks (lv_sub hl [0, 1, 2] rfl) hW h
  · replace h := if_n hc2 h
    refine lv_iload_n hx hb dX12_wantsBy_14 rfl (lv_at hl 3 rfl) ?_
    refine lv_if_eq (tgt := 42) hx hb dX12_wantsBy_15 (by decide) (fun hc16 => ?_) (fun hc16 => ?_)
    · replace h := if_p hc16 h
      refine lv_iconst (v := 0) hx hb dX12_wantsBy_42 (by decide) ?_
      cases h
      exact kr_iret hC hr hlocks hW dX12_wantsBy_43
    · replace h := if_n hc16 h
      exact tj_md_wantsBy_18 a1 a2 hC hr hlocks (lv_sub hl [0, 1, 2] rfl) hW h
set_option maxHeartbeats 4000000 in
set_option maxRecDepth 100000 in
theorem t_md_wants {l : Launch} {g : Gx} {A : Nat → Prop} {μ : Mm} {a1 : Int32} {a2 : Int32} {a3 : Int32} {v : Int32} {u : Mm} (h : md_wants μ a1 a2 a3 = some (v, u)) : Cti l g A wm yX12_wants cX12_wants 4 (some .int) 4 [.ref (ad g 0), .int a1, .int a2, .int a3] μ v u := by
  refine ent (lv := [(0, .ref (ad g 0)), (1, .int a1), (2, .int a2), (3, .int a3)]) (by decide) (Nat.le_of_ble_eq_true rfl) rfl ?_
  intro p e s m args below meth c hC hr hlocks hnm hW ls hl
  replace hC : Cx g RX12 cX12_wants 4 p s m args c := hC
  obtain ⟨hx, hb, hml, hown, hts, hK, hN⟩ := id hC
  unfold md_wants at h
  refine lv_aload_n hx hb dX12_wants_0 rfl (lv_at hl 0 rfl) ?_
  refine lv_iload_n hx hb dX12_wants_1 rfl (lv_at hl 1 rfl) ?_
  obtain ⟨x1, hx1, h⟩ := mbv_some h
  refine kr_ci hC hW (kr_runV hC hW hl.1 (t_md_isReader hx1) cw_X12_214 (wm_0 g μ) rfl rfl rfl (Nat.le_of_ble_eq_true rfl) dX12_wants_2 (by decide)) (fun H locs hW => ?_)
  refine lv_if_eq (tgt := 26) hx hb dX12_wants_5 (by decide) (fun hc2 => ?_) (fun hc2 => ?_)
  · replace h := if_p hc2 h
    refine lv_iconst (v := (-1)) hx hb dX12_wants_26 (by decide) ?_
    cases h
    exact kr_iret hC hr hlocks hW dX12_wants_27
  · replace h := if_n hc2 h
    refine lv_aload_n hx hb dX12_wants_8 rfl (lv_at hl 0 rfl) ?_
    refine lv_iload_n hx hb dX12_wants_9 rfl (lv_at hl 2 rfl) ?_
    obtain ⟨x3, hx3, h⟩ := mbv_some h
    refine kr_ci hC hW (kr_runV hC hW hl.1 (t_md_isBook hx3) cw_X12_217 (wm_0 g μ) rfl rfl rfl (Nat.le_of_ble_eq_true rfl) dX12_wants_10 (by decide)) (fun H locs hW => ?_)
    refine lv_if_eq (tgt := 26) hx hb dX12_wants_13 (by decide) (fun hc4 => ?_) (fun hc4 => ?_)
    · replace h := if_p hc4 h
      refine lv_iconst (v := (-1)) hx hb dX12_wants_26 (by decide) ?_
      cases h
      exact kr_iret hC hr hlocks hW dX12_wants_27
    · replace h := if_n hc4 h
      refine lv_aload_n hx hb dX12_wants_16 rfl (lv_at hl 0 rfl) ?_
      refine lv_iload_n hx hb dX12_wants_17 rfl (lv_at hl 1 rfl) ?_
      refine lv_iload_n hx hb dX12_wants_18 rfl (lv_at hl 2 rfl) ?_
      refine lv_iload_n hx hb dX12_wants_19 rfl (lv_at hl 3 rfl) ?_
      obtain ⟨x5, μ6, hx5, h⟩ := mbm_some h
      refine kr_ci hC hW (kr_runV hC hW hl.1 (t_md_wantsBy hx5) cw_X12_339 (wm_0 g μ) rfl rfl rfl (Nat.le_of_ble_eq_true rfl) dX12_wants_20 (by decide)) (fun H locs hW => ?_)
      refine lv_goto (tgt := 27) hx hb dX12_wants_23 (by decide) ?_
      cases h
      exact kr_iret hC hr hlocks hW dX12_wants_27
set_option maxHeartbeats 4000000 in
set_option maxRecDepth 100000 in
theorem t_md_putAt {l : Launch} {g : Gx} {A : Nat → Prop} {Wd : Gx → Mm → va_W} {μ : Mm} {a0 : Int32} {a1 : Int32} {a2 : Int32} {v : Int32} (h : md_putAt a0 a1 a2 = some v) : Cti l g A Wd yX12_putAt cX12_putAt 3 (some .int) 0 [.int a0, .int a1, .int a2] μ v μ := by
  refine ent (lv := [(0, .int a0), (1, .int a1), (2, .int a2)]) (by decide) (Nat.le_of_ble_eq_true rfl) rfl ?_
  intro p e s m args below meth c hC hr hlocks hnm hW ls hl
  replace hC : Cx g RX12 cX12_putAt 3 p s m args c := hC
  obtain ⟨hx, hb, hml, hown, hts, hK, hN⟩ := id hC
  unfold md_putAt at h
  refine lv_sipush (v := 2000) hx hb dX12_putAt_0 (by decide) ?_
  refine lv_iload_n hx hb dX12_putAt_3 rfl (lv_at hl 0 rfl) ?_
  refine lv_imul hx hb dX12_putAt_4 ?_
  refine lv_bipush (v := 10) hx hb dX12_putAt_5 (by decide) ?_
  refine lv_iload_n hx hb dX12_putAt_7 rfl (lv_at hl 1 rfl) ?_
  refine lv_imul hx hb dX12_putAt_8 ?_
  refine lv_iadd hx hb dX12_putAt_9 ?_
  refine lv_iload_n hx hb dX12_putAt_10 rfl (lv_at hl 2 rfl) ?_
  refine lv_iadd hx hb dX12_putAt_11 ?_
  cases h
  exact kr_iret hC hr hlocks hW dX12_putAt_12
set_option maxHeartbeats 4000000 in
set_option maxRecDepth 100000 in
theorem t_md_isVisited {l : Launch} {g : Gx} {A : Nat → Prop} {μ : Mm} {a1 : Int32} {a2 : Int32} {a3 : Int32} {v : Bool} (h : md_isVisited μ a1 a2 a3 = some v) : Cti l g A wm yX12_isVisited cX12_isVisited 4 (some .boolean) 1 [.ref (ad g 0), .int a1, .int a2, .int a3] μ (bI v) μ := by
  refine ent (lv := [(0, .ref (ad g 0)), (1, .int a1), (2, .int a2), (3, .int a3)]) (by decide) (Nat.le_of_ble_eq_true rfl) rfl ?_
  intro p e s m args below meth c hC hr hlocks hnm hW ls hl
  replace hC : Cx g RX12 cX12_isVisited 4 p s m args c := hC
  obtain ⟨hx, hb, hml, hown, hts, hK, hN⟩ := id hC
  unfold md_isVisited at h
  refine lv_aload_n hx hb dX12_isVisited_0 rfl (lv_at hl 0 rfl) ?_
  refine gf_X12_74_m0 hC hW dX12_isVisited_1 ?_
  refine lv_sipush (v := 200) hx hb dX12_isVisited_4 (by decide) ?_
  refine lv_iload_n hx hb dX12_isVisited_7 rfl (lv_at hl 1 rfl) ?_
  refine lv_imul hx hb dX12_isVisited_8 ?_
  refine lv_iload_n hx hb dX12_isVisited_9 rfl (lv_at hl 3 rfl) ?_
  refine lv_iadd hx hb dX12_isVisited_10 ?_
  obtain ⟨x1, ex1, hin, h⟩ := mrd_ex h
  refine kr_zald hC hW (wm_22 g μ) hin ex1 dX12_isVisited_11 ?_
  refine lv_if_eq (tgt := 17) hx hb dX12_isVisited_12 (by decide) (fun hc2 => ?_) (fun hc2 => ?_)
  · replace h := if_p hc2 h
    refine lv_aload_n hx hb dX12_isVisited_17 rfl (lv_at hl 0 rfl) ?_
    refine gf_X12_46_m0 hC hW dX12_isVisited_18 ?_
    refine lv_iload_n hx hb dX12_isVisited_21 rfl (lv_at hl 2 rfl) ?_
    obtain ⟨x3, ex3, hin, h⟩ := mrd_ex h
    refine kr_iald hC hW (wm_13 g μ) hin ex3 dX12_isVisited_22 ?_
    refine lv_iload_n hx hb dX12_isVisited_23 rfl (lv_at hl 1 rfl) ?_
    refine lv_icmp_ne (tgt := 40) hx hb dX12_isVisited_24 (by decide) (fun hc4 => ?_) (fun hc4 => ?_)
    · replace h := if_n hc4 h
      refine lv_aload_n hx hb dX12_isVisited_40 rfl (lv_at hl 0 rfl) ?_
      refine gf_X12_77_m0 hC hW dX12_isVisited_41 ?_
      refine lv_iload_n hx hb dX12_isVisited_44 rfl (lv_at hl 1 rfl) ?_
      refine lv_iload_n hx hb dX12_isVisited_45 rfl (lv_at hl 3 rfl) ?_
      refine lv_iload_n hx hb dX12_isVisited_46 rfl (lv_at hl 2 rfl) ?_
      obtain ⟨x5, hx5, h⟩ := mbv_some h
      refine kr_ci hC hW (kr_runS hC hW hl.1 (t_md_putAt hx5) cw_X12_343 rfl rfl (Nat.le_of_ble_eq_true rfl) dX12_isVisited_47 (by decide)) (fun H locs hW => ?_)
      obtain ⟨x6, ex6, hin, h⟩ := mrd_ex h
      refine kr_zald hC hW (wm_23 g μ) hin ex6 dX12_isVisited_50 ?_
      refine lv_if_eq (tgt := 58) hx hb dX12_isVisited_51 (by decide) (fun hc7 => ?_) (fun hc7 => ?_)
      · replace h := if_p hc7 h
        refine lv_iconst (v := 0) hx hb dX12_isVisited_58 (by decide) ?_
        cases h
        exact kr_zret hC hr hlocks _ rfl hW dX12_isVisited_59
      · replace h := if_n hc7 h
        refine lv_iconst (v := 1) hx hb dX12_isVisited_54 (by decide) ?_
        refine lv_goto (tgt := 59) hx hb dX12_isVisited_55 (by decide) ?_
        cases h
        exact kr_zret hC hr hlocks _ rfl hW dX12_isVisited_59
    · replace h := if_p hc4 h
      refine lv_iload_n hx hb dX12_isVisited_27 rfl (lv_at hl 3 rfl) ?_
      refine lv_bipush (v := 14) hx hb dX12_isVisited_28 (by decide) ?_
      refine lv_irem hx hb dX12_isVisited_30 (by decide) ?_
      refine lv_aload_n hx hb dX12_isVisited_31 rfl (lv_at hl 0 rfl) ?_
      refine gf_X12_49_m0 hC hW dX12_isVisited_32 ?_
      refine lv_iload_n hx hb dX12_isVisited_35 rfl (lv_at hl 2 rfl) ?_
      obtain ⟨x8, ex8, hin, h⟩ := mrd_ex h
      refine kr_iald hC hW (wm_14 g μ) hin ex8 dX12_isVisited_36 ?_
      refine lv_icmp_eq (tgt := 54) hx hb dX12_isVisited_37 (by decide) (fun hc9 => ?_) (fun hc9 => ?_)
      · replace h := if_p hc9 h
        refine lv_iconst (v := 1) hx hb dX12_isVisited_54 (by decide) ?_
        refine lv_goto (tgt := 59) hx hb dX12_isVisited_55 (by decide) ?_
        cases h
        exact kr_zret hC hr hlocks _ rfl hW dX12_isVisited_59
      · replace h := if_n hc9 h
        refine lv_aload_n hx hb dX12_isVisited_40 rfl (lv_at hl 0 rfl) ?_
        refine gf_X12_77_m0 hC hW dX12_isVisited_41 ?_
        refine lv_iload_n hx hb dX12_isVisited_44 rfl (lv_at hl 1 rfl) ?_
        refine lv_iload_n hx hb dX12_isVisited_45 rfl (lv_at hl 3 rfl) ?_
        refine lv_iload_n hx hb dX12_isVisited_46 rfl (lv_at hl 2 rfl) ?_
        obtain ⟨x10, hx10, h⟩ := mbv_some h
        refine kr_ci hC hW (kr_runS hC hW hl.1 (t_md_putAt hx10) cw_X12_343 rfl rfl (Nat.le_of_ble_eq_true rfl) dX12_isVisited_47 (by decide)) (fun H locs hW => ?_)
        obtain ⟨x11, ex11, hin, h⟩ := mrd_ex h
        refine kr_zald hC hW (wm_23 g μ) hin ex11 dX12_isVisited_50 ?_
        refine lv_if_eq (tgt := 58) hx hb dX12_isVisited_51 (by decide) (fun hc12 => ?_) (fun hc12 => ?_)
        · replace h := if_p hc12 h
          refine lv_iconst (v := 0) hx hb dX12_isVisited_58 (by decide) ?_
          cases h
          exact kr_zret hC hr hlocks _ rfl hW dX12_isVisited_59
        · replace h := if_n hc12 h
          refine lv_iconst (v := 1) hx hb dX12_isVisited_54 (by decide) ?_
          refine lv_goto (tgt := 59) hx hb dX12_isVisited_55 (by decide) ?_
          cases h
          exact kr_zret hC hr hlocks _ rfl hW dX12_isVisited_59
  · replace h := if_n hc2 h
    refine lv_iconst (v := 0) hx hb dX12_isVisited_15 (by decide) ?_
    cases h
    exact kr_zret hC hr hlocks _ rfl hW dX12_isVisited_16
set_option maxHeartbeats 4000000 in
set_option maxRecDepth 100000 in
theorem tl_md_isVisitedByAny_2 (μ : Mm) (a1 : Int32) (a2 : Int32) (hC : Cx g RX12 cX12_isVisitedByAny 4 p s m args c) {e0 : (Unit) ⊕ (Unit)} (kx0 : (Sum.elim (fun a => ∀ (ls : Array Slot) (H : Heap) (locs : List Loc), lv_has ls 4 [] → wP g wm A s.heap μ H locs → W p l e (rmD 2) s m args below meth c H locs 0 0 Q (F0 m 17 ls [])) (fun _ => True)) e0) (kx1 : (Sum.elim (fun _ => True) (fun a => ∀ (ls : Array Slot) (H : Heap) (locs : List Loc), lv_has ls 4 [] → wP g wm A s.heap μ H locs → W p l e (rmD 2) s m args below meth c H locs 0 0 Q (F0 m 25 ls []))) e0) : ∀ (n : Nat) (q : Int32), miter (fun q => md_isVisitedByAny_b2 μ a1 a2 q) n q = some e0 → ∀ (ls : Array Slot) (H : Heap) (locs : List Loc), lv_has ls 4 [(0, .ref (ad g 0)), (1, .int a1), (2, .int a2), (3, .int q)] → wP g wm A s.heap μ H locs → W p l e (rmD 2) s m args below meth c H locs 0 0 Q (F0 m 2 ls []) := by
  obtain ⟨hx, hb, hml, hown, hts, hK, hN⟩ := id hC
  refine miter_ind (fun q r hf k1 k2 => ?_)
  obtain ⟨xs3, rfl⟩ : ∃ z, z = q := ⟨_, rfl⟩
  intro ls H locs hl hW
  have h : md_isVisitedByAny_b2 μ a1 a2 xs3 = some r := hf
  unfold md_isVisitedByAny_b2 at h
  refine lv_iload_n hx hb dX12_isVisitedByAny_2 rfl (lv_at hl 3 rfl) ?_
  refine lv_iconst (v := 3) hx hb dX12_isVisitedByAny_3 (by decide) ?_
  refine lv_icmp_ge (tgt := 25) hx hb dX12_isVisitedByAny_4 (by decide) (fun hc1 => ?_) (fun hc1 => ?_)
  · replace h := if_p hc1 h
    obtain rfl := k2 _ (Option.some.inj h).symm
    exact kx1 _ _ _ (lv_sub hl [] rfl) hW
  · replace h := if_n hc1 h
    refine lv_aload_n hx hb dX12_isVisitedByAny_7 rfl (lv_at hl 0 rfl) ?_
    refine lv_iload_n hx hb dX12_isVisitedByAny_8 rfl (lv_at hl 3 rfl) ?_
    refine lv_iload_n hx hb dX12_isVisitedByAny_9 rfl (lv_at hl 1 rfl) ?_
    refine lv_iload_n hx hb dX12_isVisitedByAny_10 rfl (lv_at hl 2 rfl) ?_
    obtain ⟨x2, hx2, h⟩ := mbv_some h
    refine kr_ci hC hW (kr_runV hC hW hl.1 (t_md_isVisited hx2) cw_X12_346 (wm_0 g μ) rfl rfl rfl (Nat.le_of_ble_eq_true rfl) dX12_isVisitedByAny_11 (by decide)) (fun H locs hW => ?_)
    refine lv_if_eq (tgt := 19) hx hb dX12_isVisitedByAny_14 (by decide) (fun hc3 => ?_) (fun hc3 => ?_)
    · replace h := if_p hc3 h
      refine lv_iinc (v := (xs3 + 1)) (lv' := [(3, .int (xs3 + 1)), (0, .ref (ad g 0)), (1, .int a1), (2, .int a2)]) hx hb dX12_isVisitedByAny_19 hl (k := 3) rfl (by rw [oi_1]) (by decide) rfl (fun ls hl => ?_)
      refine lv_goto (tgt := 2) hx hb dX12_isVisitedByAny_22 (by decide) ?_
      exact k1 (xs3 + 1) (Option.some.inj h).symm _ _ _ (lv_sub hl [1, 2, 3, 0] rfl) hW
    · replace h := if_n hc3 h
      obtain rfl := k2 _ (Option.some.inj h).symm
      exact kx0 _ _ _ (lv_sub hl [] rfl) hW
set_option maxHeartbeats 4000000 in
set_option maxRecDepth 100000 in
theorem t_md_isVisitedByAny {l : Launch} {g : Gx} {A : Nat → Prop} {μ : Mm} {a1 : Int32} {a2 : Int32} {v : Bool} (h : md_isVisitedByAny μ a1 a2 = some v) : Cti l g A wm yX12_isVisitedByAny cX12_isVisitedByAny 4 (some .boolean) 2 [.ref (ad g 0), .int a1, .int a2] μ (bI v) μ := by
  refine ent (lv := [(0, .ref (ad g 0)), (1, .int a1), (2, .int a2)]) (by decide) (Nat.le_of_ble_eq_true rfl) rfl ?_
  intro p e s m args below meth c hC hr hlocks hnm hW ls hl
  replace hC : Cx g RX12 cX12_isVisitedByAny 4 p s m args c := hC
  obtain ⟨hx, hb, hml, hown, hts, hK, hN⟩ := id hC
  unfold md_isVisitedByAny at h
  refine lv_iconst (v := 0) hx hb dX12_isVisitedByAny_0 (by decide) ?_
  refine lv_istore_n (lv' := [(3, .int 0), (0, .ref (ad g 0)), (1, .int a1), (2, .int a2)]) hx hb dX12_isVisitedByAny_1 rfl hl (by decide) rfl (fun ls hl => ?_)
  rcases msum2_ex h with ⟨e0, he4, h⟩ | ⟨e0, he4, h⟩
  · refine tl_md_isVisitedByAny_2 μ a1 a2 hC (e0 := (.inl ())) (fun ls H locs hl hW => ?_) trivial FU 0 he4 _ _ _ (lv_sub hl [1, 2, 3, 0] rfl) hW
    refine lv_iconst (v := 1) hx hb dX12_isVisitedByAny_17 (by decide) ?_
    cases h
    exact kr_zret hC hr hlocks _ rfl hW dX12_isVisitedByAny_18
  · refine tl_md_isVisitedByAny_2 μ a1 a2 hC (e0 := (.inr ())) trivial (fun ls H locs hl hW => ?_) FU 0 he4 _ _ _ (lv_sub hl [1, 2, 3, 0] rfl) hW
    refine lv_iconst (v := 0) hx hb dX12_isVisitedByAny_25 (by decide) ?_
    cases h
    exact kr_zret hC hr hlocks _ rfl hW dX12_isVisitedByAny_26
set_option maxHeartbeats 4000000 in
set_option maxRecDepth 100000 in
theorem t_md_visits {l : Launch} {g : Gx} {A : Nat → Prop} {μ : Mm} {a1 : Int32} {a2 : Int32} {a3 : Int32} {v : Int32} (h : md_visits μ a1 a2 a3 = some v) : Cti l g A wm yX12_visits cX12_visits 4 (some .int) 2 [.ref (ad g 0), .int a1, .int a2, .int a3] μ v μ := by
  refine ent (lv := [(0, .ref (ad g 0)), (1, .int a1), (2, .int a2), (3, .int a3)]) (by decide) (Nat.le_of_ble_eq_true rfl) rfl ?_
  intro p e s m args below meth c hC hr hlocks hnm hW ls hl
  replace hC : Cx g RX12 cX12_visits 4 p s m args c := hC
  obtain ⟨hx, hb, hml, hown, hts, hK, hN⟩ := id hC
  unfold md_visits at h
  refine lv_iload_n hx hb dX12_visits_0 rfl (lv_at hl 1 rfl) ?_
  obtain ⟨x1, hx1, h⟩ := mbv_some h
  refine kr_ci hC hW (kr_runS hC hW hl.1 (t_md_isVan hx1) cw_X12_203 rfl rfl (Nat.le_of_ble_eq_true rfl) dX12_visits_1 (by decide)) (fun H locs hW => ?_)
  refine lv_if_eq (tgt := 22) hx hb dX12_visits_4 (by decide) (fun hc2 => ?_) (fun hc2 => ?_)
  · replace h := if_p hc2 h
    refine lv_iconst (v := (-1)) hx hb dX12_visits_22 (by decide) ?_
    refine lv_goto (tgt := 41) hx hb dX12_visits_23 (by decide) ?_
    cases h
    exact kr_iret hC hr hlocks hW dX12_visits_41
  · replace h := if_n hc2 h
    refine lv_aload_n hx hb dX12_visits_7 rfl (lv_at hl 0 rfl) ?_
    refine lv_iload_n hx hb dX12_visits_8 rfl (lv_at hl 2 rfl) ?_
    obtain ⟨x3, hx3, h⟩ := mbv_some h
    refine kr_ci hC hW (kr_runV hC hW hl.1 (t_md_isStop hx3) cw_X12_211 (wm_0 g μ) rfl rfl rfl (Nat.le_of_ble_eq_true rfl) dX12_visits_9 (by decide)) (fun H locs hW => ?_)
    refine lv_if_eq (tgt := 22) hx hb dX12_visits_12 (by decide) (fun hc4 => ?_) (fun hc4 => ?_)
    · replace h := if_p hc4 h
      refine lv_iconst (v := (-1)) hx hb dX12_visits_22 (by decide) ?_
      refine lv_goto (tgt := 41) hx hb dX12_visits_23 (by decide) ?_
      cases h
      exact kr_iret hC hr hlocks hW dX12_visits_41
    · replace h := if_n hc4 h
      refine lv_iload_n hx hb dX12_visits_15 rfl (lv_at hl 3 rfl) ?_
      obtain ⟨x5, hx5, h⟩ := mbv_some h
      refine kr_ci hC hW (kr_runS hC hW hl.1 (t_md_isDay hx5) cw_X12_349 rfl rfl (Nat.le_of_ble_eq_true rfl) dX12_visits_16 (by decide)) (fun H locs hW => ?_)
      refine lv_if_ne (tgt := 26) hx hb dX12_visits_19 (by decide) (fun hc6 => ?_) (fun hc6 => ?_)
      · replace h := if_n hc6 h
        refine lv_aload_n hx hb dX12_visits_26 rfl (lv_at hl 0 rfl) ?_
        refine lv_iload_n hx hb dX12_visits_27 rfl (lv_at hl 1 rfl) ?_
        refine lv_iload_n hx hb dX12_visits_28 rfl (lv_at hl 2 rfl) ?_
        refine lv_iload_n hx hb dX12_visits_29 rfl (lv_at hl 3 rfl) ?_
        obtain ⟨x7, hx7, h⟩ := mbv_some h
        refine kr_ci hC hW (kr_runV hC hW hl.1 (t_md_isVisited hx7) cw_X12_346 (wm_0 g μ) rfl rfl rfl (Nat.le_of_ble_eq_true rfl) dX12_visits_30 (by decide)) (fun H locs hW => ?_)
        refine lv_if_eq (tgt := 40) hx hb dX12_visits_33 (by decide) (fun hc8 => ?_) (fun hc8 => ?_)
        · replace h := if_p hc8 h
          refine lv_iconst (v := 0) hx hb dX12_visits_40 (by decide) ?_
          cases h
          exact kr_iret hC hr hlocks hW dX12_visits_41
        · replace h := if_n hc8 h
          refine lv_iconst (v := 1) hx hb dX12_visits_36 (by decide) ?_
          refine lv_goto (tgt := 41) hx hb dX12_visits_37 (by decide) ?_
          cases h
          exact kr_iret hC hr hlocks hW dX12_visits_41
      · replace h := if_p hc6 h
        refine lv_iconst (v := (-1)) hx hb dX12_visits_22 (by decide) ?_
        refine lv_goto (tgt := 41) hx hb dX12_visits_23 (by decide) ?_
        cases h
        exact kr_iret hC hr hlocks hW dX12_visits_41
set_option maxHeartbeats 4000000 in
set_option maxRecDepth 100000 in
theorem t_md_logs {l : Launch} {g : Gx} {A : Nat → Prop} {μ : Mm} {a1 : Int32} {a2 : Int32} {u : Mm} (h : md_logs μ a1 a2 = some u) : Ctv l g A wm yX12_logs cX12_logs 3 none 0 [.ref (ad g 0), .int a1, .int a2] μ u := by
  refine ent (lv := [(0, .ref (ad g 0)), (1, .int a1), (2, .int a2)]) (by decide) (Nat.le_of_ble_eq_true rfl) rfl ?_
  intro p e s m args below meth c hC hr hlocks hnm hW ls hl
  replace hC : Cx g RX12 cX12_logs 3 p s m args c := hC
  obtain ⟨hx, hb, hml, hown, hts, hK, hN⟩ := id hC
  unfold md_logs at h
  refine lv_aload_n hx hb dX12_logs_0 rfl (lv_at hl 0 rfl) ?_
  refine gf_X12_141_m0 hC hW dX12_logs_1 ?_
  refine lv_aload_n hx hb dX12_logs_4 rfl (lv_at hl 0 rfl) ?_
  refine gf_X12_352_m0 hC hW dX12_logs_5 ?_
  refine lv_iload_n hx hb dX12_logs_8 rfl (lv_at hl 1 rfl) ?_
  obtain ⟨μ1, eμ1, hin, h⟩ := mwr_ex h
  refine kr_iast hC hW (wm_44 g μ) (wms_44 eμ1) hin dX12_logs_9 (fun H locs hW => ?_)
  refine lv_aload_n hx hb dX12_logs_10 rfl (lv_at hl 0 rfl) ?_
  refine gf_X12_144_m0 hC hW dX12_logs_11 ?_
  refine lv_aload_n hx hb dX12_logs_14 rfl (lv_at hl 0 rfl) ?_
  refine gf_X12_352_m0 hC hW dX12_logs_15 ?_
  refine lv_aload_n hx hb dX12_logs_18 rfl (lv_at hl 0 rfl) ?_
  refine gf_X12_196_m0 hC hW dX12_logs_19 ?_
  obtain ⟨μ2, eμ2, hin, h⟩ := mwr_ex h
  refine kr_iast hC hW (wm_45 g μ1) (wms_45 eμ2) hin dX12_logs_22 (fun H locs hW => ?_)
  refine lv_aload_n hx hb dX12_logs_23 rfl (lv_at hl 0 rfl) ?_
  refine gf_X12_147_m0 hC hW dX12_logs_24 ?_
  refine lv_aload_n hx hb dX12_logs_27 rfl (lv_at hl 0 rfl) ?_
  refine gf_X12_352_m0 hC hW dX12_logs_28 ?_
  refine lv_aload_n hx hb dX12_logs_31 rfl (lv_at hl 0 rfl) ?_
  refine gf_X12_196_m0 hC hW dX12_logs_32 ?_
  refine lv_aload_n hx hb dX12_logs_35 rfl (lv_at hl 0 rfl) ?_
  refine gf_X12_355_m0 hC hW dX12_logs_36 ?_
  refine lv_iadd hx hb dX12_logs_39 ?_
  obtain ⟨μ3, eμ3, hin, h⟩ := mwr_ex h
  refine kr_iast hC hW (wm_46 g μ2) (wms_46 eμ3) hin dX12_logs_40 (fun H locs hW => ?_)
  refine lv_aload_n hx hb dX12_logs_41 rfl (lv_at hl 0 rfl) ?_
  refine gf_X12_150_m0 hC hW dX12_logs_42 ?_
  refine lv_aload_n hx hb dX12_logs_45 rfl (lv_at hl 0 rfl) ?_
  refine gf_X12_352_m0 hC hW dX12_logs_46 ?_
  refine lv_iload_n hx hb dX12_logs_49 rfl (lv_at hl 2 rfl) ?_
  obtain ⟨μ4, eμ4, hin, h⟩ := mwr_ex h
  refine kr_iast hC hW (wm_47 g μ3) (wms_47 eμ4) hin dX12_logs_50 (fun H locs hW => ?_)
  refine lv_aload_n hx hb dX12_logs_51 rfl (lv_at hl 0 rfl) ?_
  refine lv_aload_n hx hb dX12_logs_52 rfl (lv_at hl 0 rfl) ?_
  refine gf_X12_352_m0 hC hW dX12_logs_53 ?_
  refine lv_iconst (v := 1) hx hb dX12_logs_56 (by decide) ?_
  refine lv_iadd hx hb dX12_logs_57 ?_
  obtain ⟨μ5, eμ5, h⟩ := mst_some h
  refine pf_X12_352_m0 hC hW eμ5 dX12_logs_58 (fun H locs hW => ?_)
  refine lv_aload_n hx hb dX12_logs_61 rfl (lv_at hl 0 rfl) ?_
  refine gf_X12_22_m0 hC hW dX12_logs_62 ?_
  refine lv_iload_n hx hb dX12_logs_65 rfl (lv_at hl 1 rfl) ?_
  refine lv_iload_n hx hb dX12_logs_66 rfl (lv_at hl 2 rfl) ?_
  obtain ⟨μ6, eμ6, hin, h⟩ := mwr_ex h
  refine kr_iast hC hW (wm_5 g μ5) (wms_5 eμ6) hin dX12_logs_67 (fun H locs hW => ?_)
  cases h
  exact kr_vret hC hr hlocks hW dX12_logs_68
set_option maxHeartbeats 4000000 in
set_option maxRecDepth 100000 in
theorem t_md_fits {l : Launch} {g : Gx} {A : Nat → Prop} {μ : Mm} {a1 : Int32} {a2 : Int32} {v : Bool} (h : md_fits μ a1 a2 = some v) : Cti l g A wm yX12_fits cX12_fits 3 (some .boolean) 1 [.ref (ad g 0), .int a1, .int a2] μ (bI v) μ := by
  refine ent (lv := [(0, .ref (ad g 0)), (1, .int a1), (2, .int a2)]) (by decide) (Nat.le_of_ble_eq_true rfl) rfl ?_
  intro p e s m args below meth c hC hr hlocks hnm hW ls hl
  replace hC : Cx g RX12 cX12_fits 3 p s m args c := hC
  obtain ⟨hx, hb, hml, hown, hts, hK, hN⟩ := id hC
  unfold md_fits at h
  refine lv_aload_n hx hb dX12_fits_0 rfl (lv_at hl 0 rfl) ?_
  refine lv_iload_n hx hb dX12_fits_1 rfl (lv_at hl 2 rfl) ?_
  obtain ⟨x1, hx1, h⟩ := mbv_some h
  refine kr_ci hC hW (kr_runV hC hW hl.1 (t_md_lengthOn hx1) cw_X12_207 (wm_0 g μ) rfl rfl rfl (Nat.le_of_ble_eq_true rfl) dX12_fits_2 (by decide)) (fun H locs hW => ?_)
  refine lv_aload_n hx hb dX12_fits_5 rfl (lv_at hl 0 rfl) ?_
  refine gf_X12_13_m0 hC hW dX12_fits_6 ?_
  refine lv_iload_n hx hb dX12_fits_9 rfl (lv_at hl 1 rfl) ?_
  obtain ⟨x2, ex2, hin, h⟩ := mrd_ex h
  refine kr_iald hC hW (wm_2 g μ) hin ex2 dX12_fits_10 ?_
  refine lv_iadd hx hb dX12_fits_11 ?_
  refine lv_aload_n hx hb dX12_fits_12 rfl (lv_at hl 0 rfl) ?_
  refine gf_X12_34_m0 hC hW dX12_fits_13 ?_
  refine lv_iload_n hx hb dX12_fits_16 rfl (lv_at hl 2 rfl) ?_
  obtain ⟨x3, ex3, hin, h⟩ := mrd_ex h
  refine kr_iald hC hW (wm_9 g μ) hin ex3 dX12_fits_17 ?_
  refine lv_icmp_gt (tgt := 25) hx hb dX12_fits_18 (by decide) (fun hc4 => ?_) (fun hc4 => ?_)
  · replace h := if_p hc4 h
    refine lv_iconst (v := 0) hx hb dX12_fits_25 (by decide) ?_
    cases h
    exact kr_zret hC hr hlocks _ rfl hW dX12_fits_26
  · replace h := if_n hc4 h
    refine lv_iconst (v := 1) hx hb dX12_fits_21 (by decide) ?_
    refine lv_goto (tgt := 26) hx hb dX12_fits_22 (by decide) ?_
    cases h
    exact kr_zret hC hr hlocks _ rfl hW dX12_fits_26
set_option maxHeartbeats 4000000 in
set_option maxRecDepth 100000 in
theorem tj_md_move_20 {μ : Mm} (a1 : Int32) (a2 : Int32) (hC : Cx g RX12 cX12_move 3 p s m args c) (hr : meth.sig.returnType = some .boolean) (hlocks : meth.locks = false) {v : Bool} {u : Mm} (hl : lv_has ls 3 [(0, .ref (ad g 0)), (1, .int a1), (2, .int a2)]) (hW : wP g wm A s.heap μ H locs) (h : md_move_j20 μ a1 a2 = some (v, u)) : W p l e (rmD 2) s m args below meth c H locs 0 0 (MQ below (Qi g A wm (bI v) u) args s 0 0 A) (F0 m 20 ls []) := by
  obtain ⟨hx, hb, hml, hown, hts, hK, hN⟩ := id hC
  unfold md_move_j20 at h
  refine lv_aload_n hx hb dX12_move_20 rfl (lv_at hl 0 rfl) ?_
  refine gf_X12_22_m0 hC hW dX12_move_21 ?_
  refine lv_iload_n hx hb dX12_move_24 rfl (lv_at hl 1 rfl) ?_
  obtain ⟨x4, ex4, hin, h⟩ := mrd_ex h
  refine kr_iald hC hW (wm_5 g μ) hin ex4 dX12_move_25 ?_
  refine lv_bipush (v := 10) hx hb dX12_move_26 (by decide) ?_
  refine lv_icmp_ge (tgt := 67) hx hb dX12_move_28 (by decide) (fun hc5 => ?_) (fun hc5 => ?_)
  · replace h := if_p hc5 h
    refine lv_iconst (v := 0) hx hb dX12_move_67 (by decide) ?_
    cases h
    exact kr_zret hC hr hlocks _ rfl hW dX12_move_68
  · replace h := if_n hc5 h
    refine lv_aload_n hx hb dX12_move_31 rfl (lv_at hl 0 rfl) ?_
    refine gf_X12_22_m0 hC hW dX12_move_32 ?_
    refine lv_iload_n hx hb dX12_move_35 rfl (lv_at hl 1 rfl) ?_
    obtain ⟨x6, ex6, hin, h⟩ := mrd_ex h
    refine kr_iald hC hW (wm_5 g μ) hin ex6 dX12_move_36 ?_
    refine lv_iconst (v := 1) hx hb dX12_move_37 (by decide) ?_
    refine lv_iload_n hx hb dX12_move_38 rfl (lv_at hl 2 rfl) ?_
    refine lv_iadd hx hb dX12_move_39 ?_
    refine lv_icmp_eq (tgt := 67) hx hb dX12_move_40 (by decide) (fun hc7 => ?_) (fun hc7 => ?_)
    · replace h := if_p hc7 h
      refine lv_iconst (v := 0) hx hb dX12_move_67 (by decide) ?_
      cases h
      exact kr_zret hC hr hlocks _ rfl hW dX12_move_68
    · replace h := if_n hc7 h
      refine lv_iload_n hx hb dX12_move_43 rfl (lv_at hl 2 rfl) ?_
      refine lv_iconst (v := (-1)) hx hb dX12_move_44 (by decide) ?_
      refine lv_icmp_eq (tgt := 57) hx hb dX12_move_45 (by decide) (fun hc8 => ?_) (fun hc8 => ?_)
      · replace h := if_p hc8 h
        refine lv_aload_n hx hb dX12_move_57 rfl (lv_at hl 0 rfl) ?_
        refine gf_X12_352_m0 hC hW dX12_move_58 ?_
        refine lv_sipush (v := 200) hx hb dX12_move_61 (by decide) ?_
        refine lv_icmp_ne (tgt := 69) hx hb dX12_move_64 (by decide) (fun hc9 => ?_) (fun hc9 => ?_)
        · replace h := if_n hc9 h
          refine lv_aload_n hx hb dX12_move_69 rfl (lv_at hl 0 rfl) ?_
          refine lv_iload_n hx hb dX12_move_70 rfl (lv_at hl 1 rfl) ?_
          refine lv_iconst (v := 1) hx hb dX12_move_71 (by decide) ?_
          refine lv_iload_n hx hb dX12_move_72 rfl (lv_at hl 2 rfl) ?_
          refine lv_iadd hx hb dX12_move_73 ?_
          obtain ⟨μ11, hxμ11, h⟩ := mbv_some h
          refine kr_cv hC hW (kr_runV hC hW hl.1 (t_md_logs hxμ11) cw_X12_361 (wm_0 g μ) rfl rfl rfl (Nat.le_of_ble_eq_true rfl) dX12_move_74 (by decide)) (fun H locs hW => ?_)
          refine lv_iconst (v := 1) hx hb dX12_move_77 (by decide) ?_
          cases h
          exact kr_zret hC hr hlocks _ rfl hW dX12_move_78
        · replace h := if_p hc9 h
          refine lv_iconst (v := 0) hx hb dX12_move_67 (by decide) ?_
          cases h
          exact kr_zret hC hr hlocks _ rfl hW dX12_move_68
      · replace h := if_n hc8 h
        refine lv_aload_n hx hb dX12_move_48 rfl (lv_at hl 0 rfl) ?_
        refine lv_iload_n hx hb dX12_move_49 rfl (lv_at hl 1 rfl) ?_
        refine lv_iload_n hx hb dX12_move_50 rfl (lv_at hl 2 rfl) ?_
        obtain ⟨x12, hx12, h⟩ := mbv_some h
        refine kr_ci hC hW (kr_runV hC hW hl.1 (t_md_fits hx12) cw_X12_358 (wm_0 g μ) rfl rfl rfl (Nat.le_of_ble_eq_true rfl) dX12_move_51 (by decide)) (fun H locs hW => ?_)
        refine lv_if_eq (tgt := 67) hx hb dX12_move_54 (by decide) (fun hc13 => ?_) (fun hc13 => ?_)
        · replace h := if_p hc13 h
          refine lv_iconst (v := 0) hx hb dX12_move_67 (by decide) ?_
          cases h
          exact kr_zret hC hr hlocks _ rfl hW dX12_move_68
        · replace h := if_n hc13 h
          refine lv_aload_n hx hb dX12_move_57 rfl (lv_at hl 0 rfl) ?_
          refine gf_X12_352_m0 hC hW dX12_move_58 ?_
          refine lv_sipush (v := 200) hx hb dX12_move_61 (by decide) ?_
          refine lv_icmp_ne (tgt := 69) hx hb dX12_move_64 (by decide) (fun hc14 => ?_) (fun hc14 => ?_)
          · replace h := if_n hc14 h
            refine lv_aload_n hx hb dX12_move_69 rfl (lv_at hl 0 rfl) ?_
            refine lv_iload_n hx hb dX12_move_70 rfl (lv_at hl 1 rfl) ?_
            refine lv_iconst (v := 1) hx hb dX12_move_71 (by decide) ?_
            refine lv_iload_n hx hb dX12_move_72 rfl (lv_at hl 2 rfl) ?_
            refine lv_iadd hx hb dX12_move_73 ?_
            obtain ⟨μ16, hxμ16, h⟩ := mbv_some h
            refine kr_cv hC hW (kr_runV hC hW hl.1 (t_md_logs hxμ16) cw_X12_361 (wm_0 g μ) rfl rfl rfl (Nat.le_of_ble_eq_true rfl) dX12_move_74 (by decide)) (fun H locs hW => ?_)
            refine lv_iconst (v := 1) hx hb dX12_move_77 (by decide) ?_
            cases h
            exact kr_zret hC hr hlocks _ rfl hW dX12_move_78
          · replace h := if_p hc14 h
            refine lv_iconst (v := 0) hx hb dX12_move_67 (by decide) ?_
            cases h
            exact kr_zret hC hr hlocks _ rfl hW dX12_move_68
set_option maxHeartbeats 4000000 in
set_option maxRecDepth 100000 in
theorem t_md_move {l : Launch} {g : Gx} {A : Nat → Prop} {μ : Mm} {a1 : Int32} {a2 : Int32} {v : Bool} {u : Mm} (h : md_move μ a1 a2 = some (v, u)) : Cti l g A wm yX12_move cX12_move 3 (some .boolean) 2 [.ref (ad g 0), .int a1, .int a2] μ (bI v) u := by
  refine ent (lv := [(0, .ref (ad g 0)), (1, .int a1), (2, .int a2)]) (by decide) (Nat.le_of_ble_eq_true rfl) rfl ?_
  intro p e s m args below meth c hC hr hlocks hnm hW ls hl
  replace hC : Cx g RX12 cX12_move 3 p s m args c := hC
  obtain ⟨hx, hb, hml, hown, hts, hK, hN⟩ := id hC
  unfold md_move at h
  refine lv_aload_n hx hb dX12_move_0 rfl (lv_at hl 0 rfl) ?_
  refine lv_iload_n hx hb dX12_move_1 rfl (lv_at hl 1 rfl) ?_
  obtain ⟨x1, hx1, h⟩ := mbv_some h
  refine kr_ci hC hW (kr_runV hC hW hl.1 (t_md_isBook hx1) cw_X12_217 (wm_0 g μ) rfl rfl rfl (Nat.le_of_ble_eq_true rfl) dX12_move_2 (by decide)) (fun H locs hW => ?_)
  refine lv_if_eq (tgt := 67) hx hb dX12_move_5 (by decide) (fun hc2 => ?_) (fun hc2 => ?_)
  · replace h := if_p hc2 h
    refine lv_iconst (v := 0) hx hb dX12_move_67 (by decide) ?_
    cases h
    exact kr_zret hC hr hlocks _ rfl hW dX12_move_68
  · replace h := if_n hc2 h
    refine lv_iload_n hx hb dX12_move_8 rfl (lv_at hl 2 rfl) ?_
    refine lv_iconst (v := (-1)) hx hb dX12_move_9 (by decide) ?_
    refine lv_icmp_eq (tgt := 20) hx hb dX12_move_10 (by decide) (fun hc3 => ?_) (fun hc3 => ?_)
    · replace h := if_p hc3 h
      exact tj_md_move_20 a1 a2 hC hr hlocks (lv_sub hl [0, 1, 2] rfl) hW h
    · replace h := if_n hc3 h
      refine lv_iload_n hx hb dX12_move_13 rfl (lv_at hl 2 rfl) ?_
      obtain ⟨x17, hx17, h⟩ := mbv_some h
      refine kr_ci hC hW (kr_runS hC hW hl.1 (t_md_isVan hx17) cw_X12_203 rfl rfl (Nat.le_of_ble_eq_true rfl) dX12_move_14 (by decide)) (fun H locs hW => ?_)
      refine lv_if_eq (tgt := 67) hx hb dX12_move_17 (by decide) (fun hc18 => ?_) (fun hc18 => ?_)
      · replace h := if_p hc18 h
        refine lv_iconst (v := 0) hx hb dX12_move_67 (by decide) ?_
        cases h
        exact kr_zret hC hr hlocks _ rfl hW dX12_move_68
      · replace h := if_n hc18 h
        exact tj_md_move_20 a1 a2 hC hr hlocks (lv_sub hl [0, 1, 2] rfl) hW h
set_option maxHeartbeats 4000000 in
set_option maxRecDepth 100000 in
theorem t_md_lend {l : Launch} {g : Gx} {A : Nat → Prop} {μ : Mm} {a1 : Int32} {a2 : Int32} {v : Int32} {u : Mm} (h : md_lend μ a1 a2 = some (v, u)) : Cti l g A wm yX12_lend cX12_lend 4 (some .int) 3 [.ref (ad g 0), .int a1, .int a2] μ v u := by
  refine ent (lv := [(0, .ref (ad g 0)), (1, .int a1), (2, .int a2)]) (by decide) (Nat.le_of_ble_eq_true rfl) rfl ?_
  intro p e s m args below meth c hC hr hlocks hnm hW ls hl
  replace hC : Cx g RX12 cX12_lend 4 p s m args c := hC
  obtain ⟨hx, hb, hml, hown, hts, hK, hN⟩ := id hC
  unfold md_lend at h
  refine lv_aload_n hx hb dX12_lend_0 rfl (lv_at hl 0 rfl) ?_
  refine lv_iload_n hx hb dX12_lend_1 rfl (lv_at hl 1 rfl) ?_
  obtain ⟨x1, hx1, h⟩ := mbv_some h
  refine kr_ci hC hW (kr_runV hC hW hl.1 (t_md_isBook hx1) cw_X12_217 (wm_0 g μ) rfl rfl rfl (Nat.le_of_ble_eq_true rfl) dX12_lend_2 (by decide)) (fun H locs hW => ?_)
  refine lv_if_eq (tgt := 65) hx hb dX12_lend_5 (by decide) (fun hc2 => ?_) (fun hc2 => ?_)
  · replace h := if_p hc2 h
    refine lv_iconst (v := (-1)) hx hb dX12_lend_65 (by decide) ?_
    cases h
    exact kr_iret hC hr hlocks hW dX12_lend_66
  · replace h := if_n hc2 h
    refine lv_aload_n hx hb dX12_lend_8 rfl (lv_at hl 0 rfl) ?_
    refine lv_iload_n hx hb dX12_lend_9 rfl (lv_at hl 2 rfl) ?_
    obtain ⟨x3, hx3, h⟩ := mbv_some h
    refine kr_ci hC hW (kr_runV hC hW hl.1 (t_md_isReader hx3) cw_X12_214 (wm_0 g μ) rfl rfl rfl (Nat.le_of_ble_eq_true rfl) dX12_lend_10 (by decide)) (fun H locs hW => ?_)
    refine lv_if_eq (tgt := 65) hx hb dX12_lend_13 (by decide) (fun hc4 => ?_) (fun hc4 => ?_)
    · replace h := if_p hc4 h
      refine lv_iconst (v := (-1)) hx hb dX12_lend_65 (by decide) ?_
      cases h
      exact kr_iret hC hr hlocks hW dX12_lend_66
    · replace h := if_n hc4 h
      refine lv_aload_n hx hb dX12_lend_16 rfl (lv_at hl 0 rfl) ?_
      refine gf_X12_22_m0 hC hW dX12_lend_17 ?_
      refine lv_iload_n hx hb dX12_lend_20 rfl (lv_at hl 1 rfl) ?_
      obtain ⟨x5, ex5, hin, h⟩ := mrd_ex h
      refine kr_iald hC hW (wm_5 g μ) hin ex5 dX12_lend_21 ?_
      refine lv_iconst (v := 1) hx hb dX12_lend_22 (by decide) ?_
      refine lv_iconst (v := 3) hx hb dX12_lend_23 (by decide) ?_
      obtain ⟨x6, hx6, h⟩ := mbv_some h
      refine kr_ci hC hW (kr_runS hC hW hl.1 (t_md_in hx6) cw_X12_199 rfl rfl (Nat.le_of_ble_eq_true rfl) dX12_lend_24 (by decide)) (fun H locs hW => ?_)
      refine lv_if_eq (tgt := 65) hx hb dX12_lend_27 (by decide) (fun hc7 => ?_) (fun hc7 => ?_)
      · replace h := if_p hc7 h
        refine lv_iconst (v := (-1)) hx hb dX12_lend_65 (by decide) ?_
        cases h
        exact kr_iret hC hr hlocks hW dX12_lend_66
      · replace h := if_n hc7 h
        refine lv_aload_n hx hb dX12_lend_30 rfl (lv_at hl 0 rfl) ?_
        refine lv_aload_n hx hb dX12_lend_31 rfl (lv_at hl 0 rfl) ?_
        refine gf_X12_22_m0 hC hW dX12_lend_32 ?_
        refine lv_iload_n hx hb dX12_lend_35 rfl (lv_at hl 1 rfl) ?_
        obtain ⟨x8, ex8, hin, h⟩ := mrd_ex h
        refine kr_iald hC hW (wm_5 g μ) hin ex8 dX12_lend_36 ?_
        refine lv_iconst (v := 1) hx hb dX12_lend_37 (by decide) ?_
        refine lv_isub hx hb dX12_lend_38 ?_
        refine lv_aload_n hx hb dX12_lend_39 rfl (lv_at hl 0 rfl) ?_
        refine gf_X12_52_m0 hC hW dX12_lend_40 ?_
        refine lv_iload_n hx hb dX12_lend_43 rfl (lv_at hl 2 rfl) ?_
        obtain ⟨x9, ex9, hin, h⟩ := mrd_ex h
        refine kr_iald hC hW (wm_15 g μ) hin ex9 dX12_lend_44 ?_
        refine lv_aload_n hx hb dX12_lend_45 rfl (lv_at hl 0 rfl) ?_
        refine gf_X12_196_m0 hC hW dX12_lend_46 ?_
        obtain ⟨x10, hx10, h⟩ := mbv_some h
        refine kr_ci hC hW (kr_runV hC hW hl.1 (t_md_isVisited hx10) cw_X12_346 (wm_0 g μ) rfl rfl rfl (Nat.le_of_ble_eq_true rfl) dX12_lend_49 (by decide)) (fun H locs hW => ?_)
        refine lv_if_eq (tgt := 65) hx hb dX12_lend_52 (by decide) (fun hc11 => ?_) (fun hc11 => ?_)
        · replace h := if_p hc11 h
          refine lv_iconst (v := (-1)) hx hb dX12_lend_65 (by decide) ?_
          cases h
          exact kr_iret hC hr hlocks hW dX12_lend_66
        · replace h := if_n hc11 h
          refine lv_aload_n hx hb dX12_lend_55 rfl (lv_at hl 0 rfl) ?_
          refine gf_X12_352_m0 hC hW dX12_lend_56 ?_
          refine lv_sipush (v := 200) hx hb dX12_lend_59 (by decide) ?_
          refine lv_icmp_ne (tgt := 67) hx hb dX12_lend_62 (by decide) (fun hc12 => ?_) (fun hc12 => ?_)
          · replace h := if_n hc12 h
            refine lv_aload_n hx hb dX12_lend_67 rfl (lv_at hl 0 rfl) ?_
            refine gf_X12_22_m0 hC hW dX12_lend_68 ?_
            refine lv_iload_n hx hb dX12_lend_71 rfl (lv_at hl 1 rfl) ?_
            obtain ⟨x13, ex13, hin, h⟩ := mrd_ex h
            refine kr_iald hC hW (wm_5 g μ) hin ex13 dX12_lend_72 ?_
            refine lv_iconst (v := 1) hx hb dX12_lend_73 (by decide) ?_
            refine lv_isub hx hb dX12_lend_74 ?_
            refine lv_istore_n (lv' := [(3, .int (x13 - 1)), (0, .ref (ad g 0)), (1, .int a1), (2, .int a2)]) hx hb dX12_lend_75 rfl hl (by decide) rfl (fun ls hl => ?_)
            refine lv_aload_n hx hb dX12_lend_76 rfl (lv_at hl 1 rfl) ?_
            refine lv_iload_n hx hb dX12_lend_77 rfl (lv_at hl 3 rfl) ?_
            refine lv_iload_n hx hb dX12_lend_78 rfl (lv_at hl 2 rfl) ?_
            refine lv_iconst (v := 0) hx hb dX12_lend_79 (by decide) ?_
            obtain ⟨μ15, hxμ15, h⟩ := mbv_some h
            refine kr_cv hC hW (kr_runV hC hW hl.1 (t_md_feels hxμ15) cw_X12_331 (wm_0 g μ) rfl rfl rfl (Nat.le_of_ble_eq_true rfl) dX12_lend_80 (by decide)) (fun H locs hW => ?_)
            refine lv_aload_n hx hb dX12_lend_83 rfl (lv_at hl 1 rfl) ?_
            refine gf_X12_25_m0 hC hW dX12_lend_84 ?_
            refine lv_iload_n hx hb dX12_lend_87 rfl (lv_at hl 2 rfl) ?_
            refine lv_aload_n hx hb dX12_lend_88 rfl (lv_at hl 1 rfl) ?_
            refine gf_X12_196_m0 hC hW dX12_lend_89 ?_
            refine lv_aload_n hx hb dX12_lend_92 rfl (lv_at hl 1 rfl) ?_
            refine lv_bipush (v := 100) hx hb dX12_lend_93 (by decide) ?_
            refine lv_iconst (v := 1) hx hb dX12_lend_95 (by decide) ?_
            refine lv_bipush (v := 60) hx hb dX12_lend_96 (by decide) ?_
            refine lv_bipush (v := 14) hx hb dX12_lend_98 (by decide) ?_
            obtain ⟨x16, μ17, hx16, h⟩ := mbm_some h
            refine kr_ci hC hW (kr_runV hC hW hl.1 (t_md_byLaw hx16) cw_X12_335 (wm_0 g μ15) rfl rfl rfl (Nat.le_of_ble_eq_true rfl) dX12_lend_100 (by decide)) (fun H locs hW => ?_)
            refine lv_iadd hx hb dX12_lend_103 ?_
            obtain ⟨μ18, eμ18, hin, h⟩ := mwr_ex h
            refine kr_iast hC hW (wm_6 g μ17) (wms_6 eμ18) hin dX12_lend_104 (fun H locs hW => ?_)
            refine lv_aload_n hx hb dX12_lend_105 rfl (lv_at hl 1 rfl) ?_
            refine lv_iload_n hx hb dX12_lend_106 rfl (lv_at hl 2 rfl) ?_
            refine lv_bipush (v := 10) hx hb dX12_lend_107 (by decide) ?_
            refine lv_iload_n hx hb dX12_lend_109 rfl (lv_at hl 3 rfl) ?_
            refine lv_iadd hx hb dX12_lend_110 ?_
            obtain ⟨μ20, hxμ20, h⟩ := mbv_some h
            refine kr_cv hC hW (kr_runV hC hW hl.1 (t_md_logs hxμ20) cw_X12_361 (wm_0 g μ18) rfl rfl rfl (Nat.le_of_ble_eq_true rfl) dX12_lend_111 (by decide)) (fun H locs hW => ?_)
            refine lv_aload_n hx hb dX12_lend_114 rfl (lv_at hl 1 rfl) ?_
            refine gf_X12_70_m0 hC hW dX12_lend_115 ?_
            refine lv_bipush (v := 32) hx hb dX12_lend_118 (by decide) ?_
            refine lv_iload_n hx hb dX12_lend_120 rfl (lv_at hl 3 rfl) ?_
            refine lv_imul hx hb dX12_lend_121 ?_
            refine lv_iload_n hx hb dX12_lend_122 rfl (lv_at hl 2 rfl) ?_
            refine lv_iadd hx hb dX12_lend_123 ?_
            refine lv_iconst (v := 1) hx hb dX12_lend_124 (by decide) ?_
            obtain ⟨μ21, eμ21, hin, h⟩ := mwr_ex h
            refine kr_zast hC hW (wm_21 g μ20) (wms_21 eμ21) hin dX12_lend_125 (fun H locs hW => ?_)
            refine lv_aload_n hx hb dX12_lend_126 rfl (lv_at hl 1 rfl) ?_
            refine gf_X12_67_m0 hC hW dX12_lend_127 ?_
            refine lv_bipush (v := 32) hx hb dX12_lend_130 (by decide) ?_
            refine lv_iload_n hx hb dX12_lend_132 rfl (lv_at hl 3 rfl) ?_
            refine lv_imul hx hb dX12_lend_133 ?_
            refine lv_iload_n hx hb dX12_lend_134 rfl (lv_at hl 2 rfl) ?_
            refine lv_iadd hx hb dX12_lend_135 ?_
            refine lv_iconst (v := (-1)) hx hb dX12_lend_136 (by decide) ?_
            obtain ⟨μ22, eμ22, hin, h⟩ := mwr_ex h
            refine kr_iast hC hW (wm_20 g μ21) (wms_20 eμ22) hin dX12_lend_137 (fun H locs hW => ?_)
            refine lv_aload_n hx hb dX12_lend_138 rfl (lv_at hl 1 rfl) ?_
            refine gf_X12_28_m0 hC hW dX12_lend_139 ?_
            refine lv_iload_n hx hb dX12_lend_142 rfl (lv_at hl 2 rfl) ?_
            refine lv_aload_n hx hb dX12_lend_143 rfl (lv_at hl 1 rfl) ?_
            refine gf_X12_28_m0 hC hW dX12_lend_144 ?_
            refine lv_iload_n hx hb dX12_lend_147 rfl (lv_at hl 2 rfl) ?_
            obtain ⟨x23, ex23, hin, h⟩ := mrd_ex h
            refine kr_iald hC hW (wm_7 g μ22) hin ex23 dX12_lend_148 ?_
            refine lv_iconst (v := 1) hx hb dX12_lend_149 (by decide) ?_
            refine lv_iadd hx hb dX12_lend_150 ?_
            obtain ⟨μ24, eμ24, hin, h⟩ := mwr_ex h
            refine kr_iast hC hW (wm_7 g μ22) (wms_7 eμ24) hin dX12_lend_151 (fun H locs hW => ?_)
            refine lv_aload_n hx hb dX12_lend_152 rfl (lv_at hl 1 rfl) ?_
            refine gf_X12_64_m0 hC hW dX12_lend_153 ?_
            refine lv_iload_n hx hb dX12_lend_156 rfl (lv_at hl 3 rfl) ?_
            refine lv_aload_n hx hb dX12_lend_157 rfl (lv_at hl 1 rfl) ?_
            refine gf_X12_64_m0 hC hW dX12_lend_158 ?_
            refine lv_iload_n hx hb dX12_lend_161 rfl (lv_at hl 3 rfl) ?_
            obtain ⟨x25, ex25, hin, h⟩ := mrd_ex h
            refine kr_iald hC hW (wm_19 g μ24) hin ex25 dX12_lend_162 ?_
            refine lv_iconst (v := 1) hx hb dX12_lend_163 (by decide) ?_
            refine lv_iadd hx hb dX12_lend_164 ?_
            obtain ⟨μ26, eμ26, hin, h⟩ := mwr_ex h
            refine kr_iast hC hW (wm_19 g μ24) (wms_19 eμ26) hin dX12_lend_165 (fun H locs hW => ?_)
            refine lv_aload_n hx hb dX12_lend_166 rfl (lv_at hl 1 rfl) ?_
            refine gf_X12_86_m0 hC hW dX12_lend_167 ?_
            refine lv_aload_n hx hb dX12_lend_170 rfl (lv_at hl 1 rfl) ?_
            refine gf_X12_52_m0 hC hW dX12_lend_171 ?_
            refine lv_iload_n hx hb dX12_lend_174 rfl (lv_at hl 3 rfl) ?_
            obtain ⟨x27, ex27, hin, h⟩ := mrd_ex h
            refine kr_iald hC hW (wm_15 g μ26) hin ex27 dX12_lend_175 ?_
            refine lv_aload_n hx hb dX12_lend_176 rfl (lv_at hl 1 rfl) ?_
            refine gf_X12_86_m0 hC hW dX12_lend_177 ?_
            refine lv_aload_n hx hb dX12_lend_180 rfl (lv_at hl 1 rfl) ?_
            refine gf_X12_52_m0 hC hW dX12_lend_181 ?_
            refine lv_iload_n hx hb dX12_lend_184 rfl (lv_at hl 3 rfl) ?_
            obtain ⟨x28, ex28, hin, h⟩ := mrd_ex h
            refine kr_iald hC hW (wm_15 g μ26) hin ex28 dX12_lend_185 ?_
            obtain ⟨x29, ex29, hin, h⟩ := mrd_ex h
            refine kr_iald hC hW (wm_26 g μ26) hin ex29 dX12_lend_186 ?_
            refine lv_iconst (v := 1) hx hb dX12_lend_187 (by decide) ?_
            refine lv_iadd hx hb dX12_lend_188 ?_
            obtain ⟨μ30, eμ30, hin, h⟩ := mwr_ex h
            refine kr_iast hC hW (wm_26 g μ26) (wms_26 eμ30) hin dX12_lend_189 (fun H locs hW => ?_)
            refine lv_aload_n hx hb dX12_lend_190 rfl (lv_at hl 1 rfl) ?_
            refine gf_X12_89_m0 hC hW dX12_lend_191 ?_
            refine lv_aload_n hx hb dX12_lend_194 rfl (lv_at hl 1 rfl) ?_
            refine gf_X12_7_m0 hC hW dX12_lend_195 ?_
            refine lv_iload_n hx hb dX12_lend_198 rfl (lv_at hl 2 rfl) ?_
            obtain ⟨x31, ex31, hin, h⟩ := mrd_ex h
            refine kr_iald hC hW (wm_1 g μ30) hin ex31 dX12_lend_199 ?_
            refine lv_aload_n hx hb dX12_lend_200 rfl (lv_at hl 1 rfl) ?_
            refine gf_X12_89_m0 hC hW dX12_lend_201 ?_
            refine lv_aload_n hx hb dX12_lend_204 rfl (lv_at hl 1 rfl) ?_
            refine gf_X12_7_m0 hC hW dX12_lend_205 ?_
            refine lv_iload_n hx hb dX12_lend_208 rfl (lv_at hl 2 rfl) ?_
            obtain ⟨x32, ex32, hin, h⟩ := mrd_ex h
            refine kr_iald hC hW (wm_1 g μ30) hin ex32 dX12_lend_209 ?_
            obtain ⟨x33, ex33, hin, h⟩ := mrd_ex h
            refine kr_iald hC hW (wm_27 g μ30) hin ex33 dX12_lend_210 ?_
            refine lv_iconst (v := 1) hx hb dX12_lend_211 (by decide) ?_
            refine lv_iadd hx hb dX12_lend_212 ?_
            obtain ⟨μ34, eμ34, hin, h⟩ := mwr_ex h
            refine kr_iast hC hW (wm_27 g μ30) (wms_27 eμ34) hin dX12_lend_213 (fun H locs hW => ?_)
            refine lv_aload_n hx hb dX12_lend_214 rfl (lv_at hl 1 rfl) ?_
            refine gf_X12_92_m0 hC hW dX12_lend_215 ?_
            refine lv_iload_n hx hb dX12_lend_218 rfl (lv_at hl 0 rfl) ?_
            refine lv_aload_n hx hb dX12_lend_219 rfl (lv_at hl 1 rfl) ?_
            refine gf_X12_92_m0 hC hW dX12_lend_220 ?_
            refine lv_iload_n hx hb dX12_lend_223 rfl (lv_at hl 0 rfl) ?_
            obtain ⟨x35, ex35, hin, h⟩ := mrd_ex h
            refine kr_iald hC hW (wm_28 g μ34) hin ex35 dX12_lend_224 ?_
            refine lv_iconst (v := 1) hx hb dX12_lend_225 (by decide) ?_
            refine lv_iadd hx hb dX12_lend_226 ?_
            obtain ⟨μ36, eμ36, hin, h⟩ := mwr_ex h
            refine kr_iast hC hW (wm_28 g μ34) (wms_28 eμ36) hin dX12_lend_227 (fun H locs hW => ?_)
            refine lv_aload_n hx hb dX12_lend_228 rfl (lv_at hl 1 rfl) ?_
            refine lv_aload_n hx hb dX12_lend_229 rfl (lv_at hl 1 rfl) ?_
            refine gf_X12_364_m0 hC hW dX12_lend_230 ?_
            refine lv_iconst (v := 1) hx hb dX12_lend_233 (by decide) ?_
            refine lv_iadd hx hb dX12_lend_234 ?_
            obtain ⟨μ37, eμ37, h⟩ := mst_some h
            refine pf_X12_364_m0 hC hW eμ37 dX12_lend_235 (fun H locs hW => ?_)
            refine lv_aload_n hx hb dX12_lend_238 rfl (lv_at hl 1 rfl) ?_
            refine gf_X12_25_m0 hC hW dX12_lend_239 ?_
            refine lv_iload_n hx hb dX12_lend_242 rfl (lv_at hl 2 rfl) ?_
            obtain ⟨x38, ex38, hin, h⟩ := mrd_ex h
            refine kr_iald hC hW (wm_6 g μ37) hin ex38 dX12_lend_243 ?_
            cases h
            exact kr_iret hC hr hlocks hW dX12_lend_244
          · replace h := if_p hc12 h
            refine lv_iconst (v := (-1)) hx hb dX12_lend_65 (by decide) ?_
            cases h
            exact kr_iret hC hr hlocks hW dX12_lend_66
set_option maxHeartbeats 4000000 in
set_option maxRecDepth 100000 in
theorem t_md_isOut {l : Launch} {g : Gx} {A : Nat → Prop} {μ : Mm} {a1 : Int32} {v : Bool} (h : md_isOut μ a1 = some v) : Cti l g A wm yX12_isOut cX12_isOut 2 (some .boolean) 1 [.ref (ad g 0), .int a1] μ (bI v) μ := by
  refine ent (lv := [(0, .ref (ad g 0)), (1, .int a1)]) (by decide) (Nat.le_of_ble_eq_true rfl) rfl ?_
  intro p e s m args below meth c hC hr hlocks hnm hW ls hl
  replace hC : Cx g RX12 cX12_isOut 2 p s m args c := hC
  obtain ⟨hx, hb, hml, hown, hts, hK, hN⟩ := id hC
  unfold md_isOut at h
  refine lv_aload_n hx hb dX12_isOut_0 rfl (lv_at hl 0 rfl) ?_
  refine lv_iload_n hx hb dX12_isOut_1 rfl (lv_at hl 1 rfl) ?_
  obtain ⟨x1, hx1, h⟩ := mbv_some h
  refine kr_ci hC hW (kr_runV hC hW hl.1 (t_md_isBook hx1) cw_X12_217 (wm_0 g μ) rfl rfl rfl (Nat.le_of_ble_eq_true rfl) dX12_isOut_2 (by decide)) (fun H locs hW => ?_)
  refine lv_if_eq (tgt := 28) hx hb dX12_isOut_5 (by decide) (fun hc2 => ?_) (fun hc2 => ?_)
  · replace h := if_p hc2 h
    refine lv_iconst (v := 0) hx hb dX12_isOut_28 (by decide) ?_
    cases h
    exact kr_zret hC hr hlocks _ rfl hW dX12_isOut_29
  · replace h := if_n hc2 h
    refine lv_aload_n hx hb dX12_isOut_8 rfl (lv_at hl 0 rfl) ?_
    refine gf_X12_22_m0 hC hW dX12_isOut_9 ?_
    refine lv_iload_n hx hb dX12_isOut_12 rfl (lv_at hl 1 rfl) ?_
    obtain ⟨x3, ex3, hin, h⟩ := mrd_ex h
    refine kr_iald hC hW (wm_5 g μ) hin ex3 dX12_isOut_13 ?_
    refine lv_bipush (v := 10) hx hb dX12_isOut_14 (by decide) ?_
    refine lv_bipush (v := 25) hx hb dX12_isOut_16 (by decide) ?_
    obtain ⟨x4, hx4, h⟩ := mbv_some h
    refine kr_ci hC hW (kr_runS hC hW hl.1 (t_md_in hx4) cw_X12_199 rfl rfl (Nat.le_of_ble_eq_true rfl) dX12_isOut_18 (by decide)) (fun H locs hW => ?_)
    refine lv_if_eq (tgt := 28) hx hb dX12_isOut_21 (by decide) (fun hc5 => ?_) (fun hc5 => ?_)
    · replace h := if_p hc5 h
      refine lv_iconst (v := 0) hx hb dX12_isOut_28 (by decide) ?_
      cases h
      exact kr_zret hC hr hlocks _ rfl hW dX12_isOut_29
    · replace h := if_n hc5 h
      refine lv_iconst (v := 1) hx hb dX12_isOut_24 (by decide) ?_
      refine lv_goto (tgt := 29) hx hb dX12_isOut_25 (by decide) ?_
      cases h
      exact kr_zret hC hr hlocks _ rfl hW dX12_isOut_29
set_option maxHeartbeats 4000000 in
set_option maxRecDepth 100000 in
theorem tj_md_back_105 {μ : Mm} (a1 : Int32) (a2 : Int32) (a3 : Int32) (a4 : Int32) (y1 : Int32) (y2 : Int32) (y3 : Int32) (hC : Cx g RX12 cX12_back 6 p s m args c) (hr : meth.sig.returnType = some .int) (hlocks : meth.locks = false) {v : Int32} {u : Mm} (hl : lv_has ls 6 [(0, .ref (ad g 0)), (1, .int a1), (2, .int a2), (3, .int a3), (4, .int a4)]) (hW : wP g wm A s.heap μ H locs) (h : md_back_j105 μ a1 a2 a3 a4 y1 y2 y3 = some (v, u)) : W p l e (rmD 3) s m args below meth c H locs 0 0 (MQ below (Qi g A wm v u) args s 0 0 A) (F0 m 105 ls [.int y3, .int y2, .int y1, .ref (ad g 0)]) := by
  obtain ⟨hx, hb, hml, hown, hts, hK, hN⟩ := id hC
  unfold md_back_j105 at h
  obtain ⟨μ17, hxμ17, h⟩ := mbv_some h
  refine kr_cv hC hW (kr_runV hC hW hl.1 (t_md_feels hxμ17) cw_X12_331 (wm_0 g μ) rfl rfl rfl (Nat.le_of_ble_eq_true rfl) dX12_back_105 (by decide)) (fun H locs hW => ?_)
  refine lv_aload_n hx hb dX12_back_108 rfl (lv_at hl 0 rfl) ?_
  refine lv_bipush (v := 102) hx hb dX12_back_109 (by decide) ?_
  refine lv_iconst (v := 0) hx hb dX12_back_111 (by decide) ?_
  refine lv_sipush (v := 10000) hx hb dX12_back_112 (by decide) ?_
  refine lv_iconst (v := 0) hx hb dX12_back_115 (by decide) ?_
  obtain ⟨x18, μ19, hx18, h⟩ := mbm_some h
  refine kr_ci hC hW (kr_runV hC hW hl.1 (t_md_byLaw hx18) cw_X12_335 (wm_0 g μ17) rfl rfl rfl (Nat.le_of_ble_eq_true rfl) dX12_back_116 (by decide)) (fun H locs hW => ?_)
  refine lv_istore (lv' := [(5, .int x18), (0, .ref (ad g 0)), (1, .int a1), (2, .int a2), (3, .int a3), (4, .int a4)]) hx hb dX12_back_119 hl (by decide) rfl (fun ls hl => ?_)
  refine lv_aload_n hx hb dX12_back_121 rfl (lv_at hl 1 rfl) ?_
  refine gf_X12_61_m0 hC hW dX12_back_122 ?_
  refine lv_iload hx hb dX12_back_125 (lv_at hl 5 rfl) ?_
  refine lv_aload_n hx hb dX12_back_127 rfl (lv_at hl 1 rfl) ?_
  refine gf_X12_61_m0 hC hW dX12_back_128 ?_
  refine lv_iload hx hb dX12_back_131 (lv_at hl 5 rfl) ?_
  obtain ⟨x20, ex20, hin, h⟩ := mrd_ex h
  refine kr_iald hC hW (wm_18 g μ19) hin ex20 dX12_back_133 ?_
  refine lv_iload hx hb dX12_back_134 (lv_at hl 0 rfl) ?_
  refine lv_iadd hx hb dX12_back_136 ?_
  obtain ⟨μ21, eμ21, hin, h⟩ := mwr_ex h
  refine kr_iast hC hW (wm_18 g μ19) (wms_18 eμ21) hin dX12_back_137 (fun H locs hW => ?_)
  refine lv_iload hx hb dX12_back_138 (lv_at hl 5 rfl) ?_
  refine lv_iload_n hx hb dX12_back_140 rfl (lv_at hl 4 rfl) ?_
  refine lv_icmp_eq (tgt := 182) hx hb dX12_back_141 (by decide) (fun hc22 => ?_) (fun hc22 => ?_)
  · replace h := if_p hc22 h
    refine lv_aload_n hx hb dX12_back_182 rfl (lv_at hl 1 rfl) ?_
    refine gf_X12_25_m0 hC hW dX12_back_183 ?_
    refine lv_iload_n hx hb dX12_back_186 rfl (lv_at hl 2 rfl) ?_
    refine lv_iconst (v := (-1)) hx hb dX12_back_187 (by decide) ?_
    obtain ⟨μ23, eμ23, hin, h⟩ := mwr_ex h
    refine kr_iast hC hW (wm_6 g μ21) (wms_6 eμ23) hin dX12_back_188 (fun H locs hW => ?_)
    refine lv_aload_n hx hb dX12_back_189 rfl (lv_at hl 1 rfl) ?_
    refine lv_iload_n hx hb dX12_back_190 rfl (lv_at hl 2 rfl) ?_
    refine lv_iconst (v := 1) hx hb dX12_back_191 (by decide) ?_
    refine lv_iload_n hx hb dX12_back_192 rfl (lv_at hl 3 rfl) ?_
    refine lv_iadd hx hb dX12_back_193 ?_
    obtain ⟨μ25, hxμ25, h⟩ := mbv_some h
    refine kr_cv hC hW (kr_runV hC hW hl.1 (t_md_logs hxμ25) cw_X12_361 (wm_0 g μ23) rfl rfl rfl (Nat.le_of_ble_eq_true rfl) dX12_back_194 (by decide)) (fun H locs hW => ?_)
    refine lv_iload hx hb dX12_back_197 (lv_at hl 0 rfl) ?_
    cases h
    exact kr_iret hC hr hlocks hW dX12_back_199
  · replace h := if_n hc22 h
    refine lv_aload_n hx hb dX12_back_144 rfl (lv_at hl 1 rfl) ?_
    refine gf_X12_31_m0 hC hW dX12_back_145 ?_
    refine lv_iload_n hx hb dX12_back_148 rfl (lv_at hl 2 rfl) ?_
    refine lv_aload_n hx hb dX12_back_149 rfl (lv_at hl 1 rfl) ?_
    refine gf_X12_31_m0 hC hW dX12_back_150 ?_
    refine lv_iload_n hx hb dX12_back_153 rfl (lv_at hl 2 rfl) ?_
    obtain ⟨x26, ex26, hin, h⟩ := mrd_ex h
    refine kr_iald hC hW (wm_8 g μ21) hin ex26 dX12_back_154 ?_
    refine lv_iconst (v := 1) hx hb dX12_back_155 (by decide) ?_
    refine lv_iadd hx hb dX12_back_156 ?_
    obtain ⟨μ27, eμ27, hin, h⟩ := mwr_ex h
    refine kr_iast hC hW (wm_8 g μ21) (wms_8 eμ27) hin dX12_back_157 (fun H locs hW => ?_)
    refine lv_aload_n hx hb dX12_back_158 rfl (lv_at hl 1 rfl) ?_
    refine gf_X12_95_m0 hC hW dX12_back_159 ?_
    refine lv_aload_n hx hb dX12_back_162 rfl (lv_at hl 1 rfl) ?_
    refine gf_X12_52_m0 hC hW dX12_back_163 ?_
    refine lv_iload_n hx hb dX12_back_166 rfl (lv_at hl 4 rfl) ?_
    obtain ⟨x28, ex28, hin, h⟩ := mrd_ex h
    refine kr_iald hC hW (wm_15 g μ27) hin ex28 dX12_back_167 ?_
    refine lv_aload_n hx hb dX12_back_168 rfl (lv_at hl 1 rfl) ?_
    refine gf_X12_95_m0 hC hW dX12_back_169 ?_
    refine lv_aload_n hx hb dX12_back_172 rfl (lv_at hl 1 rfl) ?_
    refine gf_X12_52_m0 hC hW dX12_back_173 ?_
    refine lv_iload_n hx hb dX12_back_176 rfl (lv_at hl 4 rfl) ?_
    obtain ⟨x29, ex29, hin, h⟩ := mrd_ex h
    refine kr_iald hC hW (wm_15 g μ27) hin ex29 dX12_back_177 ?_
    obtain ⟨x30, ex30, hin, h⟩ := mrd_ex h
    refine kr_iald hC hW (wm_29 g μ27) hin ex30 dX12_back_178 ?_
    refine lv_iconst (v := 1) hx hb dX12_back_179 (by decide) ?_
    refine lv_iadd hx hb dX12_back_180 ?_
    obtain ⟨μ31, eμ31, hin, h⟩ := mwr_ex h
    refine kr_iast hC hW (wm_29 g μ27) (wms_29 eμ31) hin dX12_back_181 (fun H locs hW => ?_)
    refine lv_aload_n hx hb dX12_back_182 rfl (lv_at hl 1 rfl) ?_
    refine gf_X12_25_m0 hC hW dX12_back_183 ?_
    refine lv_iload_n hx hb dX12_back_186 rfl (lv_at hl 2 rfl) ?_
    refine lv_iconst (v := (-1)) hx hb dX12_back_187 (by decide) ?_
    obtain ⟨μ32, eμ32, hin, h⟩ := mwr_ex h
    refine kr_iast hC hW (wm_6 g μ31) (wms_6 eμ32) hin dX12_back_188 (fun H locs hW => ?_)
    refine lv_aload_n hx hb dX12_back_189 rfl (lv_at hl 1 rfl) ?_
    refine lv_iload_n hx hb dX12_back_190 rfl (lv_at hl 2 rfl) ?_
    refine lv_iconst (v := 1) hx hb dX12_back_191 (by decide) ?_
    refine lv_iload_n hx hb dX12_back_192 rfl (lv_at hl 3 rfl) ?_
    refine lv_iadd hx hb dX12_back_193 ?_
    obtain ⟨μ34, hxμ34, h⟩ := mbv_some h
    refine kr_cv hC hW (kr_runV hC hW hl.1 (t_md_logs hxμ34) cw_X12_361 (wm_0 g μ32) rfl rfl rfl (Nat.le_of_ble_eq_true rfl) dX12_back_194 (by decide)) (fun H locs hW => ?_)
    refine lv_iload hx hb dX12_back_197 (lv_at hl 0 rfl) ?_
    cases h
    exact kr_iret hC hr hlocks hW dX12_back_199
set_option maxHeartbeats 4000000 in
set_option maxRecDepth 100000 in
theorem t_md_back {l : Launch} {g : Gx} {A : Nat → Prop} {μ : Mm} {a1 : Int32} {a2 : Int32} {a3 : Int32} {v : Int32} {u : Mm} (h : md_back μ a1 a2 a3 = some (v, u)) : Cti l g A wm yX12_back cX12_back 6 (some .int) 3 [.ref (ad g 0), .int a1, .int a2, .int a3] μ v u := by
  refine ent (lv := [(0, .ref (ad g 0)), (1, .int a1), (2, .int a2), (3, .int a3)]) (by decide) (Nat.le_of_ble_eq_true rfl) rfl ?_
  intro p e s m args below meth c hC hr hlocks hnm hW ls hl
  replace hC : Cx g RX12 cX12_back 6 p s m args c := hC
  obtain ⟨hx, hb, hml, hown, hts, hK, hN⟩ := id hC
  unfold md_back at h
  refine lv_aload_n hx hb dX12_back_0 rfl (lv_at hl 0 rfl) ?_
  refine lv_iload_n hx hb dX12_back_1 rfl (lv_at hl 1 rfl) ?_
  obtain ⟨x1, hx1, h⟩ := mbv_some h
  refine kr_ci hC hW (kr_runV hC hW hl.1 (t_md_isOut hx1) cw_X12_367 (wm_0 g μ) rfl rfl rfl (Nat.le_of_ble_eq_true rfl) dX12_back_2 (by decide)) (fun H locs hW => ?_)
  refine lv_if_eq (tgt := 60) hx hb dX12_back_5 (by decide) (fun hc2 => ?_) (fun hc2 => ?_)
  · replace h := if_p hc2 h
    refine lv_iconst (v := (-1)) hx hb dX12_back_60 (by decide) ?_
    cases h
    exact kr_iret hC hr hlocks hW dX12_back_61
  · replace h := if_n hc2 h
    refine lv_iload_n hx hb dX12_back_8 rfl (lv_at hl 2 rfl) ?_
    obtain ⟨x3, hx3, h⟩ := mbv_some h
    refine kr_ci hC hW (kr_runS hC hW hl.1 (t_md_isVan hx3) cw_X12_203 rfl rfl (Nat.le_of_ble_eq_true rfl) dX12_back_9 (by decide)) (fun H locs hW => ?_)
    refine lv_if_eq (tgt := 60) hx hb dX12_back_12 (by decide) (fun hc4 => ?_) (fun hc4 => ?_)
    · replace h := if_p hc4 h
      refine lv_iconst (v := (-1)) hx hb dX12_back_60 (by decide) ?_
      cases h
      exact kr_iret hC hr hlocks hW dX12_back_61
    · replace h := if_n hc4 h
      refine lv_aload_n hx hb dX12_back_15 rfl (lv_at hl 0 rfl) ?_
      refine lv_iload_n hx hb dX12_back_16 rfl (lv_at hl 3 rfl) ?_
      obtain ⟨x5, hx5, h⟩ := mbv_some h
      refine kr_ci hC hW (kr_runV hC hW hl.1 (t_md_isReader hx5) cw_X12_214 (wm_0 g μ) rfl rfl rfl (Nat.le_of_ble_eq_true rfl) dX12_back_17 (by decide)) (fun H locs hW => ?_)
      refine lv_if_eq (tgt := 60) hx hb dX12_back_20 (by decide) (fun hc6 => ?_) (fun hc6 => ?_)
      · replace h := if_p hc6 h
        refine lv_iconst (v := (-1)) hx hb dX12_back_60 (by decide) ?_
        cases h
        exact kr_iret hC hr hlocks hW dX12_back_61
      · replace h := if_n hc6 h
        refine lv_aload_n hx hb dX12_back_23 rfl (lv_at hl 0 rfl) ?_
        refine lv_iload_n hx hb dX12_back_24 rfl (lv_at hl 2 rfl) ?_
        refine lv_aload_n hx hb dX12_back_25 rfl (lv_at hl 0 rfl) ?_
        refine gf_X12_52_m0 hC hW dX12_back_26 ?_
        refine lv_iload_n hx hb dX12_back_29 rfl (lv_at hl 3 rfl) ?_
        obtain ⟨x7, ex7, hin, h⟩ := mrd_ex h
        refine kr_iald hC hW (wm_15 g μ) hin ex7 dX12_back_30 ?_
        refine lv_aload_n hx hb dX12_back_31 rfl (lv_at hl 0 rfl) ?_
        refine gf_X12_196_m0 hC hW dX12_back_32 ?_
        obtain ⟨x8, hx8, h⟩ := mbv_some h
        refine kr_ci hC hW (kr_runV hC hW hl.1 (t_md_isVisited hx8) cw_X12_346 (wm_0 g μ) rfl rfl rfl (Nat.le_of_ble_eq_true rfl) dX12_back_35 (by decide)) (fun H locs hW => ?_)
        refine lv_if_eq (tgt := 60) hx hb dX12_back_38 (by decide) (fun hc9 => ?_) (fun hc9 => ?_)
        · replace h := if_p hc9 h
          refine lv_iconst (v := (-1)) hx hb dX12_back_60 (by decide) ?_
          cases h
          exact kr_iret hC hr hlocks hW dX12_back_61
        · replace h := if_n hc9 h
          refine lv_aload_n hx hb dX12_back_41 rfl (lv_at hl 0 rfl) ?_
          refine lv_iload_n hx hb dX12_back_42 rfl (lv_at hl 1 rfl) ?_
          refine lv_iload_n hx hb dX12_back_43 rfl (lv_at hl 2 rfl) ?_
          obtain ⟨x10, hx10, h⟩ := mbv_some h
          refine kr_ci hC hW (kr_runV hC hW hl.1 (t_md_fits hx10) cw_X12_358 (wm_0 g μ) rfl rfl rfl (Nat.le_of_ble_eq_true rfl) dX12_back_44 (by decide)) (fun H locs hW => ?_)
          refine lv_if_eq (tgt := 60) hx hb dX12_back_47 (by decide) (fun hc11 => ?_) (fun hc11 => ?_)
          · replace h := if_p hc11 h
            refine lv_iconst (v := (-1)) hx hb dX12_back_60 (by decide) ?_
            cases h
            exact kr_iret hC hr hlocks hW dX12_back_61
          · replace h := if_n hc11 h
            refine lv_aload_n hx hb dX12_back_50 rfl (lv_at hl 0 rfl) ?_
            refine gf_X12_352_m0 hC hW dX12_back_51 ?_
            refine lv_sipush (v := 200) hx hb dX12_back_54 (by decide) ?_
            refine lv_icmp_ne (tgt := 62) hx hb dX12_back_57 (by decide) (fun hc12 => ?_) (fun hc12 => ?_)
            · replace h := if_n hc12 h
              refine lv_aload_n hx hb dX12_back_62 rfl (lv_at hl 0 rfl) ?_
              refine gf_X12_22_m0 hC hW dX12_back_63 ?_
              refine lv_iload_n hx hb dX12_back_66 rfl (lv_at hl 1 rfl) ?_
              obtain ⟨x13, ex13, hin, h⟩ := mrd_ex h
              refine kr_iald hC hW (wm_5 g μ) hin ex13 dX12_back_67 ?_
              refine lv_bipush (v := 10) hx hb dX12_back_68 (by decide) ?_
              refine lv_isub hx hb dX12_back_70 ?_
              refine lv_istore (lv' := [(4, .int (x13 - 10)), (0, .ref (ad g 0)), (1, .int a1), (2, .int a2), (3, .int a3)]) hx hb dX12_back_71 hl (by decide) rfl (fun ls hl => ?_)
              refine lv_aload_n hx hb dX12_back_73 rfl (lv_at hl 1 rfl) ?_
              refine lv_iload hx hb dX12_back_74 (lv_at hl 0 rfl) ?_
              refine lv_iload_n hx hb dX12_back_76 rfl (lv_at hl 2 rfl) ?_
              refine lv_aload_n hx hb dX12_back_77 rfl (lv_at hl 1 rfl) ?_
              refine gf_X12_196_m0 hC hW dX12_back_78 ?_
              refine lv_aload_n hx hb dX12_back_81 rfl (lv_at hl 1 rfl) ?_
              refine gf_X12_25_m0 hC hW dX12_back_82 ?_
              refine lv_iload_n hx hb dX12_back_85 rfl (lv_at hl 2 rfl) ?_
              obtain ⟨x14, ex14, hin, h⟩ := mrd_ex h
              refine kr_iald hC hW (wm_6 g μ) hin ex14 dX12_back_86 ?_
              refine lv_icmp_le (tgt := 104) hx hb dX12_back_87 (by decide) (fun hc15 => ?_) (fun hc15 => ?_)
              · replace h := if_p hc15 h
                refine lv_iconst (v := 0) hx hb dX12_back_104 (by decide) ?_
                exact tj_md_back_105 a1 a2 a3 (x13 - 10) (x13 - 10) a1 0 hC hr hlocks (lv_sub hl [1, 2, 3, 4, 0] rfl) hW h
              · replace h := if_n hc15 h
                refine lv_aload_n hx hb dX12_back_90 rfl (lv_at hl 1 rfl) ?_
                refine gf_X12_196_m0 hC hW dX12_back_91 ?_
                refine lv_aload_n hx hb dX12_back_94 rfl (lv_at hl 1 rfl) ?_
                refine gf_X12_25_m0 hC hW dX12_back_95 ?_
                refine lv_iload_n hx hb dX12_back_98 rfl (lv_at hl 2 rfl) ?_
                obtain ⟨x35, ex35, hin, h⟩ := mrd_ex h
                refine kr_iald hC hW (wm_6 g μ) hin ex35 dX12_back_99 ?_
                refine lv_isub hx hb dX12_back_100 ?_
                refine lv_goto (tgt := 105) hx hb dX12_back_101 (by decide) ?_
                exact tj_md_back_105 a1 a2 a3 (x13 - 10) (x13 - 10) a1 ((μ 0 0) - x35) hC hr hlocks (lv_sub hl [1, 2, 3, 4, 0] rfl) hW h
            · replace h := if_p hc12 h
              refine lv_iconst (v := (-1)) hx hb dX12_back_60 (by decide) ?_
              cases h
              exact kr_iret hC hr hlocks hW dX12_back_61
set_option maxHeartbeats 4000000 in
set_option maxRecDepth 100000 in
theorem t_md_lost {l : Launch} {g : Gx} {A : Nat → Prop} {μ : Mm} {a1 : Int32} {v : Int32} {u : Mm} (h : md_lost μ a1 = some (v, u)) : Cti l g A wm yX12_lost cX12_lost 3 (some .int) 2 [.ref (ad g 0), .int a1] μ v u := by
  refine ent (lv := [(0, .ref (ad g 0)), (1, .int a1)]) (by decide) (Nat.le_of_ble_eq_true rfl) rfl ?_
  intro p e s m args below meth c hC hr hlocks hnm hW ls hl
  replace hC : Cx g RX12 cX12_lost 3 p s m args c := hC
  obtain ⟨hx, hb, hml, hown, hts, hK, hN⟩ := id hC
  unfold md_lost at h
  refine lv_aload_n hx hb dX12_lost_0 rfl (lv_at hl 0 rfl) ?_
  refine lv_iload_n hx hb dX12_lost_1 rfl (lv_at hl 1 rfl) ?_
  obtain ⟨x1, hx1, h⟩ := mbv_some h
  refine kr_ci hC hW (kr_runV hC hW hl.1 (t_md_isOut hx1) cw_X12_367 (wm_0 g μ) rfl rfl rfl (Nat.le_of_ble_eq_true rfl) dX12_lost_2 (by decide)) (fun H locs hW => ?_)
  refine lv_if_eq (tgt := 18) hx hb dX12_lost_5 (by decide) (fun hc2 => ?_) (fun hc2 => ?_)
  · replace h := if_p hc2 h
    refine lv_iconst (v := (-1)) hx hb dX12_lost_18 (by decide) ?_
    cases h
    exact kr_iret hC hr hlocks hW dX12_lost_19
  · replace h := if_n hc2 h
    refine lv_aload_n hx hb dX12_lost_8 rfl (lv_at hl 0 rfl) ?_
    refine gf_X12_352_m0 hC hW dX12_lost_9 ?_
    refine lv_sipush (v := 200) hx hb dX12_lost_12 (by decide) ?_
    refine lv_icmp_ne (tgt := 20) hx hb dX12_lost_15 (by decide) (fun hc3 => ?_) (fun hc3 => ?_)
    · replace h := if_n hc3 h
      refine lv_aload_n hx hb dX12_lost_20 rfl (lv_at hl 0 rfl) ?_
      refine gf_X12_22_m0 hC hW dX12_lost_21 ?_
      refine lv_iload_n hx hb dX12_lost_24 rfl (lv_at hl 1 rfl) ?_
      obtain ⟨x4, ex4, hin, h⟩ := mrd_ex h
      refine kr_iald hC hW (wm_5 g μ) hin ex4 dX12_lost_25 ?_
      refine lv_bipush (v := 10) hx hb dX12_lost_26 (by decide) ?_
      refine lv_isub hx hb dX12_lost_28 ?_
      refine lv_istore_n (lv' := [(2, .int (x4 - 10)), (0, .ref (ad g 0)), (1, .int a1)]) hx hb dX12_lost_29 rfl hl (by decide) rfl (fun ls hl => ?_)
      refine lv_aload_n hx hb dX12_lost_30 rfl (lv_at hl 1 rfl) ?_
      refine gf_X12_61_m0 hC hW dX12_lost_31 ?_
      refine lv_iload_n hx hb dX12_lost_34 rfl (lv_at hl 0 rfl) ?_
      refine lv_aload_n hx hb dX12_lost_35 rfl (lv_at hl 1 rfl) ?_
      refine gf_X12_61_m0 hC hW dX12_lost_36 ?_
      refine lv_iload_n hx hb dX12_lost_39 rfl (lv_at hl 0 rfl) ?_
      obtain ⟨x5, ex5, hin, h⟩ := mrd_ex h
      refine kr_iald hC hW (wm_18 g μ) hin ex5 dX12_lost_40 ?_
      refine lv_aload_n hx hb dX12_lost_41 rfl (lv_at hl 1 rfl) ?_
      refine gf_X12_19_m0 hC hW dX12_lost_42 ?_
      refine lv_iload_n hx hb dX12_lost_45 rfl (lv_at hl 2 rfl) ?_
      obtain ⟨x6, ex6, hin, h⟩ := mrd_ex h
      refine kr_iald hC hW (wm_4 g μ) hin ex6 dX12_lost_46 ?_
      refine lv_iadd hx hb dX12_lost_47 ?_
      obtain ⟨μ7, eμ7, hin, h⟩ := mwr_ex h
      refine kr_iast hC hW (wm_18 g μ) (wms_18 eμ7) hin dX12_lost_48 (fun H locs hW => ?_)
      refine lv_aload_n hx hb dX12_lost_49 rfl (lv_at hl 1 rfl) ?_
      refine gf_X12_25_m0 hC hW dX12_lost_50 ?_
      refine lv_iload_n hx hb dX12_lost_53 rfl (lv_at hl 2 rfl) ?_
      refine lv_iconst (v := (-1)) hx hb dX12_lost_54 (by decide) ?_
      obtain ⟨μ8, eμ8, hin, h⟩ := mwr_ex h
      refine kr_iast hC hW (wm_6 g μ7) (wms_6 eμ8) hin dX12_lost_55 (fun H locs hW => ?_)
      refine lv_aload_n hx hb dX12_lost_56 rfl (lv_at hl 1 rfl) ?_
      refine lv_iload_n hx hb dX12_lost_57 rfl (lv_at hl 2 rfl) ?_
      refine lv_bipush (v := 40) hx hb dX12_lost_58 (by decide) ?_
      obtain ⟨μ10, hxμ10, h⟩ := mbv_some h
      refine kr_cv hC hW (kr_runV hC hW hl.1 (t_md_logs hxμ10) cw_X12_361 (wm_0 g μ8) rfl rfl rfl (Nat.le_of_ble_eq_true rfl) dX12_lost_60 (by decide)) (fun H locs hW => ?_)
      refine lv_aload_n hx hb dX12_lost_63 rfl (lv_at hl 1 rfl) ?_
      refine gf_X12_19_m0 hC hW dX12_lost_64 ?_
      refine lv_iload_n hx hb dX12_lost_67 rfl (lv_at hl 2 rfl) ?_
      obtain ⟨x11, ex11, hin, h⟩ := mrd_ex h
      refine kr_iald hC hW (wm_4 g μ10) hin ex11 dX12_lost_68 ?_
      cases h
      exact kr_iret hC hr hlocks hW dX12_lost_69
    · replace h := if_p hc3 h
      refine lv_iconst (v := (-1)) hx hb dX12_lost_18 (by decide) ?_
      cases h
      exact kr_iret hC hr hlocks hW dX12_lost_19
set_option maxHeartbeats 4000000 in
set_option maxRecDepth 100000 in
theorem tl_md_whoHad_4 (μ : Mm) (a1 : Int32) (hC : Cx g RX12 cX12_whoHad 4 p s m args c) {e0 : (Int32)} (kx0 : ∀ (ls : Array Slot) (H : Heap) (locs : List Loc), lv_has ls 4 [(2, .int e0)] → wP g wm A s.heap μ H locs → W p l e (rmD 0) s m args below meth c H locs 0 0 Q (F0 m 40 ls [])) : ∀ (n : Nat) (q : Int32 × Int32), miter (fun q => md_whoHad_b4 μ a1 q.1 q.2) n q = some e0 → ∀ (ls : Array Slot) (H : Heap) (locs : List Loc), lv_has ls 4 [(0, .ref (ad g 0)), (1, .int a1), (2, .int q.1), (3, .int q.2)] → wP g wm A s.heap μ H locs → W p l e (rmD 0) s m args below meth c H locs 0 0 Q (F0 m 4 ls []) := by
  obtain ⟨hx, hb, hml, hown, hts, hK, hN⟩ := id hC
  refine miter_ind (fun q r hf k1 k2 => ?_)
  obtain ⟨xs2, xs3⟩ := q
  intro ls H locs hl hW
  have h : md_whoHad_b4 μ a1 xs2 xs3 = some r := hf
  unfold md_whoHad_b4 at h
  refine lv_iload_n hx hb dX12_whoHad_4 rfl (lv_at hl 3 rfl) ?_
  refine lv_aload_n hx hb dX12_whoHad_5 rfl (lv_at hl 0 rfl) ?_
  refine gf_X12_193_m0 hC hW dX12_whoHad_6 ?_
  refine lv_icmp_ge (tgt := 40) hx hb dX12_whoHad_9 (by decide) (fun hc1 => ?_) (fun hc1 => ?_)
  · replace h := if_p hc1 h
    obtain rfl := k2 _ (Option.some.inj h).symm
    exact kx0 _ _ _ (lv_sub hl [2] rfl) hW
  · replace h := if_n hc1 h
    refine lv_iload_n hx hb dX12_whoHad_12 rfl (lv_at hl 2 rfl) ?_
    refine lv_aload_n hx hb dX12_whoHad_13 rfl (lv_at hl 0 rfl) ?_
    refine gf_X12_70_m0 hC hW dX12_whoHad_14 ?_
    refine lv_bipush (v := 32) hx hb dX12_whoHad_17 (by decide) ?_
    refine lv_iload_n hx hb dX12_whoHad_19 rfl (lv_at hl 3 rfl) ?_
    refine lv_imul hx hb dX12_whoHad_20 ?_
    refine lv_iload_n hx hb dX12_whoHad_21 rfl (lv_at hl 1 rfl) ?_
    refine lv_iadd hx hb dX12_whoHad_22 ?_
    obtain ⟨x2, ex2, hin, h⟩ := mrd_ex h
    refine kr_zald hC hW (wm_21 g μ) hin ex2 dX12_whoHad_23 ?_
    refine lv_if_eq (tgt := 31) hx hb dX12_whoHad_24 (by decide) (fun hc3 => ?_) (fun hc3 => ?_)
    · replace h := if_p hc3 h
      refine lv_iconst (v := 0) hx hb dX12_whoHad_31 (by decide) ?_
      refine lv_iadd hx hb dX12_whoHad_32 ?_
      refine lv_istore_n (lv' := [(2, .int (xs2 + 0)), (0, .ref (ad g 0)), (1, .int a1), (3, .int xs3)]) hx hb dX12_whoHad_33 rfl hl (by decide) rfl (fun ls hl => ?_)
      refine lv_iinc (v := (xs3 + 1)) (lv' := [(3, .int (xs3 + 1)), (2, .int (xs2 + 0)), (0, .ref (ad g 0)), (1, .int a1)]) hx hb dX12_whoHad_34 hl (k := 3) rfl (by rw [oi_1]) (by decide) rfl (fun ls hl => ?_)
      refine lv_goto (tgt := 4) hx hb dX12_whoHad_37 (by decide) ?_
      exact k1 ((xs2 + 0), (xs3 + 1)) (Option.some.inj h).symm _ _ _ (lv_sub hl [2, 3, 1, 0] rfl) hW
    · replace h := if_n hc3 h
      refine lv_iconst (v := 1) hx hb dX12_whoHad_27 (by decide) ?_
      refine lv_goto (tgt := 32) hx hb dX12_whoHad_28 (by decide) ?_
      refine lv_iadd hx hb dX12_whoHad_32 ?_
      refine lv_istore_n (lv' := [(2, .int (xs2 + 1)), (0, .ref (ad g 0)), (1, .int a1), (3, .int xs3)]) hx hb dX12_whoHad_33 rfl hl (by decide) rfl (fun ls hl => ?_)
      refine lv_iinc (v := (xs3 + 1)) (lv' := [(3, .int (xs3 + 1)), (2, .int (xs2 + 1)), (0, .ref (ad g 0)), (1, .int a1)]) hx hb dX12_whoHad_34 hl (k := 3) rfl (by rw [oi_1]) (by decide) rfl (fun ls hl => ?_)
      refine lv_goto (tgt := 4) hx hb dX12_whoHad_37 (by decide) ?_
      exact k1 ((xs2 + 1), (xs3 + 1)) (Option.some.inj h).symm _ _ _ (lv_sub hl [2, 3, 1, 0] rfl) hW
set_option maxHeartbeats 4000000 in
set_option maxRecDepth 100000 in
theorem t_md_whoHad {l : Launch} {g : Gx} {A : Nat → Prop} {μ : Mm} {a1 : Int32} {v : Int32} (h : md_whoHad μ a1 = some v) : Cti l g A wm yX12_whoHad cX12_whoHad 4 (some .int) 0 [.ref (ad g 0), .int a1] μ v μ := by
  refine ent (lv := [(0, .ref (ad g 0)), (1, .int a1)]) (by decide) (Nat.le_of_ble_eq_true rfl) rfl ?_
  intro p e s m args below meth c hC hr hlocks hnm hW ls hl
  replace hC : Cx g RX12 cX12_whoHad 4 p s m args c := hC
  obtain ⟨hx, hb, hml, hown, hts, hK, hN⟩ := id hC
  unfold md_whoHad at h
  refine lv_iconst (v := 0) hx hb dX12_whoHad_0 (by decide) ?_
  refine lv_istore_n (lv' := [(2, .int 0), (0, .ref (ad g 0)), (1, .int a1)]) hx hb dX12_whoHad_1 rfl hl (by decide) rfl (fun ls hl => ?_)
  refine lv_iconst (v := 0) hx hb dX12_whoHad_2 (by decide) ?_
  refine lv_istore_n (lv' := [(3, .int 0), (2, .int 0), (0, .ref (ad g 0)), (1, .int a1)]) hx hb dX12_whoHad_3 rfl hl (by decide) rfl (fun ls hl => ?_)
  obtain ⟨x4, he5, h⟩ := mbv_some h
  refine tl_md_whoHad_4 μ a1 hC (fun ls H locs hl hW => ?_) FU (0, 0) he5 _ _ _ (lv_sub hl [2, 3, 1, 0] rfl) hW
  refine lv_iload_n hx hb dX12_whoHad_40 rfl (lv_at hl 0 rfl) ?_
  cases h
  exact kr_iret hC hr hlocks hW dX12_whoHad_41
set_option maxHeartbeats 4000000 in
set_option maxRecDepth 100000 in
theorem t_md_bookIs {l : Launch} {g : Gx} {A : Nat → Prop} {μ : Mm} {a1 : Int32} {a2 : Int32} {v : Int32} (h : md_bookIs μ a1 a2 = some v) : Cti l g A wm yX12_bookIs cX12_bookIs 3 (some .int) 1 [.ref (ad g 0), .int a1, .int a2] μ v μ := by
  refine ent (lv := [(0, .ref (ad g 0)), (1, .int a1), (2, .int a2)]) (by decide) (Nat.le_of_ble_eq_true rfl) rfl ?_
  intro p e s m args below meth c hC hr hlocks hnm hW ls hl
  replace hC : Cx g RX12 cX12_bookIs 3 p s m args c := hC
  obtain ⟨hx, hb, hml, hown, hts, hK, hN⟩ := id hC
  unfold md_bookIs at h
  refine lv_aload_n hx hb dX12_bookIs_0 rfl (lv_at hl 0 rfl) ?_
  refine lv_iload_n hx hb dX12_bookIs_1 rfl (lv_at hl 1 rfl) ?_
  obtain ⟨x1, hx1, h⟩ := mbv_some h
  refine kr_ci hC hW (kr_runV hC hW hl.1 (t_md_isBook hx1) cw_X12_217 (wm_0 g μ) rfl rfl rfl (Nat.le_of_ble_eq_true rfl) dX12_bookIs_2 (by decide)) (fun H locs hW => ?_)
  refine lv_if_ne (tgt := 10) hx hb dX12_bookIs_5 (by decide) (fun hc2 => ?_) (fun hc2 => ?_)
  · replace h := if_n hc2 h
    refine lv_iload_n hx hb dX12_bookIs_10 rfl (lv_at hl 2 rfl) ?_
    by_cases hc3 : a2 = 0
    · replace h := if_p hc3 h
      refine lv_tableIn (off := 33) (tgt := 44) hx hb dX12_bookIs_11 (by rw [hc3]; decide) (by rw [hc3]; decide) (by rw [hc3]; rfl) (by decide) ?_
      refine lv_aload_n hx hb dX12_bookIs_44 rfl (lv_at hl 0 rfl) ?_
      refine gf_X12_22_m0 hC hW dX12_bookIs_45 ?_
      refine lv_iload_n hx hb dX12_bookIs_48 rfl (lv_at hl 1 rfl) ?_
      obtain ⟨x4, ex4, hin, h⟩ := mrd_ex h
      refine kr_iald hC hW (wm_5 g μ) hin ex4 dX12_bookIs_49 ?_
      cases h
      exact kr_iret hC hr hlocks hW dX12_bookIs_50
    replace h := if_n hc3 h
    by_cases hc5 : a2 = 1
    · replace h := if_p hc5 h
      refine lv_tableIn (off := 40) (tgt := 51) hx hb dX12_bookIs_11 (by rw [hc5]; decide) (by rw [hc5]; decide) (by rw [hc5]; rfl) (by decide) ?_
      refine lv_aload_n hx hb dX12_bookIs_51 rfl (lv_at hl 0 rfl) ?_
      refine gf_X12_25_m0 hC hW dX12_bookIs_52 ?_
      refine lv_iload_n hx hb dX12_bookIs_55 rfl (lv_at hl 1 rfl) ?_
      obtain ⟨x6, ex6, hin, h⟩ := mrd_ex h
      refine kr_iald hC hW (wm_6 g μ) hin ex6 dX12_bookIs_56 ?_
      cases h
      exact kr_iret hC hr hlocks hW dX12_bookIs_57
    replace h := if_n hc5 h
    by_cases hc7 : a2 = 2
    · replace h := if_p hc7 h
      refine lv_tableIn (off := 47) (tgt := 58) hx hb dX12_bookIs_11 (by rw [hc7]; decide) (by rw [hc7]; decide) (by rw [hc7]; rfl) (by decide) ?_
      refine lv_aload_n hx hb dX12_bookIs_58 rfl (lv_at hl 0 rfl) ?_
      refine gf_X12_28_m0 hC hW dX12_bookIs_59 ?_
      refine lv_iload_n hx hb dX12_bookIs_62 rfl (lv_at hl 1 rfl) ?_
      obtain ⟨x8, ex8, hin, h⟩ := mrd_ex h
      refine kr_iald hC hW (wm_7 g μ) hin ex8 dX12_bookIs_63 ?_
      cases h
      exact kr_iret hC hr hlocks hW dX12_bookIs_64
    replace h := if_n hc7 h
    by_cases hc9 : a2 = 3
    · replace h := if_p hc9 h
      refine lv_tableIn (off := 54) (tgt := 65) hx hb dX12_bookIs_11 (by rw [hc9]; decide) (by rw [hc9]; decide) (by rw [hc9]; rfl) (by decide) ?_
      refine lv_aload_n hx hb dX12_bookIs_65 rfl (lv_at hl 0 rfl) ?_
      refine gf_X12_31_m0 hC hW dX12_bookIs_66 ?_
      refine lv_iload_n hx hb dX12_bookIs_69 rfl (lv_at hl 1 rfl) ?_
      obtain ⟨x10, ex10, hin, h⟩ := mrd_ex h
      refine kr_iald hC hW (wm_8 g μ) hin ex10 dX12_bookIs_70 ?_
      cases h
      exact kr_iret hC hr hlocks hW dX12_bookIs_71
    replace h := if_n hc9 h
    by_cases hc11 : a2 = 4
    · replace h := if_p hc11 h
      refine lv_tableIn (off := 61) (tgt := 72) hx hb dX12_bookIs_11 (by rw [hc11]; decide) (by rw [hc11]; decide) (by rw [hc11]; rfl) (by decide) ?_
      refine lv_aload_n hx hb dX12_bookIs_72 rfl (lv_at hl 0 rfl) ?_
      refine lv_iload_n hx hb dX12_bookIs_73 rfl (lv_at hl 1 rfl) ?_
      obtain ⟨x12, hx12, h⟩ := mbv_some h
      refine kr_ci hC hW (kr_runV hC hW hl.1 (t_md_whoHad hx12) cw_X12_370 (wm_0 g μ) rfl rfl rfl (Nat.le_of_ble_eq_true rfl) dX12_bookIs_74 (by decide)) (fun H locs hW => ?_)
      cases h
      exact kr_iret hC hr hlocks hW dX12_bookIs_77
    replace h := if_n hc11 h
    have thc3 := lv_neT (a := 0) hc3 (by decide)
    have thc5 := lv_neT (a := 1) hc5 (by decide)
    have thc7 := lv_neT (a := 2) hc7 (by decide)
    have thc9 := lv_neT (a := 3) hc9 (by decide)
    have thc11 := lv_neT (a := 4) hc11 (by decide)
    refine lv_tableOut (tgt := 78) hx hb dX12_bookIs_11 (by omega) (by decide) ?_
    refine lv_iconst (v := (-1)) hx hb dX12_bookIs_78 (by decide) ?_
    cases h
    exact kr_iret hC hr hlocks hW dX12_bookIs_79
  · replace h := if_p hc2 h
    refine lv_iconst (v := (-1)) hx hb dX12_bookIs_8 (by decide) ?_
    cases h
    exact kr_iret hC hr hlocks hW dX12_bookIs_9
set_option maxHeartbeats 4000000 in
set_option maxRecDepth 100000 in
theorem tl_md_asksOf_4 (μ : Mm) (a1 : Int32) (hC : Cx g RX12 cX12_asksOf 4 p s m args c) {e0 : (Int32)} (kx0 : ∀ (ls : Array Slot) (H : Heap) (locs : List Loc), lv_has ls 4 [(2, .int e0)] → wP g wm A s.heap μ H locs → W p l e (rmD 0) s m args below meth c H locs 0 0 Q (F0 m 41 ls [])) : ∀ (n : Nat) (q : Int32 × Int32), miter (fun q => md_asksOf_b4 μ a1 q.1 q.2) n q = some e0 → ∀ (ls : Array Slot) (H : Heap) (locs : List Loc), lv_has ls 4 [(0, .ref (ad g 0)), (1, .int a1), (2, .int q.1), (3, .int q.2)] → wP g wm A s.heap μ H locs → W p l e (rmD 0) s m args below meth c H locs 0 0 Q (F0 m 4 ls []) := by
  obtain ⟨hx, hb, hml, hown, hts, hK, hN⟩ := id hC
  refine miter_ind (fun q r hf k1 k2 => ?_)
  obtain ⟨xs2, xs3⟩ := q
  intro ls H locs hl hW
  have h : md_asksOf_b4 μ a1 xs2 xs3 = some r := hf
  unfold md_asksOf_b4 at h
  refine lv_iload_n hx hb dX12_asksOf_4 rfl (lv_at hl 3 rfl) ?_
  refine lv_aload_n hx hb dX12_asksOf_5 rfl (lv_at hl 0 rfl) ?_
  refine gf_X12_187_m0 hC hW dX12_asksOf_6 ?_
  refine lv_icmp_ge (tgt := 41) hx hb dX12_asksOf_9 (by decide) (fun hc1 => ?_) (fun hc1 => ?_)
  · replace h := if_p hc1 h
    obtain rfl := k2 _ (Option.some.inj h).symm
    exact kx0 _ _ _ (lv_sub hl [2] rfl) hW
  · replace h := if_n hc1 h
    refine lv_iload_n hx hb dX12_asksOf_12 rfl (lv_at hl 2 rfl) ?_
    refine lv_aload_n hx hb dX12_asksOf_13 rfl (lv_at hl 0 rfl) ?_
    refine gf_X12_67_m0 hC hW dX12_asksOf_14 ?_
    refine lv_bipush (v := 32) hx hb dX12_asksOf_17 (by decide) ?_
    refine lv_iload_n hx hb dX12_asksOf_19 rfl (lv_at hl 1 rfl) ?_
    refine lv_imul hx hb dX12_asksOf_20 ?_
    refine lv_iload_n hx hb dX12_asksOf_21 rfl (lv_at hl 3 rfl) ?_
    refine lv_iadd hx hb dX12_asksOf_22 ?_
    obtain ⟨x2, ex2, hin, h⟩ := mrd_ex h
    refine kr_iald hC hW (wm_20 g μ) hin ex2 dX12_asksOf_23 ?_
    refine lv_iconst (v := (-1)) hx hb dX12_asksOf_24 (by decide) ?_
    refine lv_icmp_ne (tgt := 32) hx hb dX12_asksOf_25 (by decide) (fun hc3 => ?_) (fun hc3 => ?_)
    · replace h := if_n hc3 h
      refine lv_iconst (v := 1) hx hb dX12_asksOf_32 (by decide) ?_
      refine lv_iadd hx hb dX12_asksOf_33 ?_
      refine lv_istore_n (lv' := [(2, .int (xs2 + 1)), (0, .ref (ad g 0)), (1, .int a1), (3, .int xs3)]) hx hb dX12_asksOf_34 rfl hl (by decide) rfl (fun ls hl => ?_)
      refine lv_iinc (v := (xs3 + 1)) (lv' := [(3, .int (xs3 + 1)), (2, .int (xs2 + 1)), (0, .ref (ad g 0)), (1, .int a1)]) hx hb dX12_asksOf_35 hl (k := 3) rfl (by rw [oi_1]) (by decide) rfl (fun ls hl => ?_)
      refine lv_goto (tgt := 4) hx hb dX12_asksOf_38 (by decide) ?_
      exact k1 ((xs2 + 1), (xs3 + 1)) (Option.some.inj h).symm _ _ _ (lv_sub hl [2, 3, 1, 0] rfl) hW
    · replace h := if_p hc3 h
      refine lv_iconst (v := 0) hx hb dX12_asksOf_28 (by decide) ?_
      refine lv_goto (tgt := 33) hx hb dX12_asksOf_29 (by decide) ?_
      refine lv_iadd hx hb dX12_asksOf_33 ?_
      refine lv_istore_n (lv' := [(2, .int (xs2 + 0)), (0, .ref (ad g 0)), (1, .int a1), (3, .int xs3)]) hx hb dX12_asksOf_34 rfl hl (by decide) rfl (fun ls hl => ?_)
      refine lv_iinc (v := (xs3 + 1)) (lv' := [(3, .int (xs3 + 1)), (2, .int (xs2 + 0)), (0, .ref (ad g 0)), (1, .int a1)]) hx hb dX12_asksOf_35 hl (k := 3) rfl (by rw [oi_1]) (by decide) rfl (fun ls hl => ?_)
      refine lv_goto (tgt := 4) hx hb dX12_asksOf_38 (by decide) ?_
      exact k1 ((xs2 + 0), (xs3 + 1)) (Option.some.inj h).symm _ _ _ (lv_sub hl [2, 3, 1, 0] rfl) hW
set_option maxHeartbeats 4000000 in
set_option maxRecDepth 100000 in
theorem t_md_asksOf {l : Launch} {g : Gx} {A : Nat → Prop} {μ : Mm} {a1 : Int32} {v : Int32} (h : md_asksOf μ a1 = some v) : Cti l g A wm yX12_asksOf cX12_asksOf 4 (some .int) 0 [.ref (ad g 0), .int a1] μ v μ := by
  refine ent (lv := [(0, .ref (ad g 0)), (1, .int a1)]) (by decide) (Nat.le_of_ble_eq_true rfl) rfl ?_
  intro p e s m args below meth c hC hr hlocks hnm hW ls hl
  replace hC : Cx g RX12 cX12_asksOf 4 p s m args c := hC
  obtain ⟨hx, hb, hml, hown, hts, hK, hN⟩ := id hC
  unfold md_asksOf at h
  refine lv_iconst (v := 0) hx hb dX12_asksOf_0 (by decide) ?_
  refine lv_istore_n (lv' := [(2, .int 0), (0, .ref (ad g 0)), (1, .int a1)]) hx hb dX12_asksOf_1 rfl hl (by decide) rfl (fun ls hl => ?_)
  refine lv_iconst (v := 0) hx hb dX12_asksOf_2 (by decide) ?_
  refine lv_istore_n (lv' := [(3, .int 0), (2, .int 0), (0, .ref (ad g 0)), (1, .int a1)]) hx hb dX12_asksOf_3 rfl hl (by decide) rfl (fun ls hl => ?_)
  obtain ⟨x4, he5, h⟩ := mbv_some h
  refine tl_md_asksOf_4 μ a1 hC (fun ls H locs hl hW => ?_) FU (0, 0) he5 _ _ _ (lv_sub hl [2, 3, 1, 0] rfl) hW
  refine lv_iload_n hx hb dX12_asksOf_41 rfl (lv_at hl 0 rfl) ?_
  cases h
  exact kr_iret hC hr hlocks hW dX12_asksOf_42
set_option maxHeartbeats 4000000 in
set_option maxRecDepth 100000 in
theorem tl_md_readerIs_69 (μ : Mm) (a1 : Int32) (hC : Cx g RX12 cX12_readerIs 5 p s m args c) {e0 : (Int32)} (kx0 : ∀ (ls : Array Slot) (H : Heap) (locs : List Loc), lv_has ls 5 [(3, .int e0)] → wP g wm A s.heap μ H locs → W p l e (rmD 1) s m args below meth c H locs 0 0 Q (F0 m 107 ls [])) : ∀ (n : Nat) (q : Int32 × Int32), miter (fun q => md_readerIs_b69 μ a1 q.1 q.2) n q = some e0 → ∀ (ls : Array Slot) (H : Heap) (locs : List Loc), lv_has ls 5 [(0, .ref (ad g 0)), (1, .int a1), (3, .int q.1), (4, .int q.2)] → wP g wm A s.heap μ H locs → W p l e (rmD 1) s m args below meth c H locs 0 0 Q (F0 m 69 ls []) := by
  obtain ⟨hx, hb, hml, hown, hts, hK, hN⟩ := id hC
  refine miter_ind (fun q r hf k1 k2 => ?_)
  obtain ⟨xs3, xs4⟩ := q
  intro ls H locs hl hW
  have h : md_readerIs_b69 μ a1 xs3 xs4 = some r := hf
  unfold md_readerIs_b69 at h
  refine lv_iload hx hb dX12_readerIs_69 (lv_at hl 3 rfl) ?_
  refine lv_aload_n hx hb dX12_readerIs_71 rfl (lv_at hl 0 rfl) ?_
  refine gf_X12_187_m0 hC hW dX12_readerIs_72 ?_
  refine lv_icmp_ge (tgt := 107) hx hb dX12_readerIs_75 (by decide) (fun hc10 => ?_) (fun hc10 => ?_)
  · replace h := if_p hc10 h
    obtain rfl := k2 _ (Option.some.inj h).symm
    exact kx0 _ _ _ (lv_sub hl [2] rfl) hW
  · replace h := if_n hc10 h
    refine lv_iload_n hx hb dX12_readerIs_78 rfl (lv_at hl 2 rfl) ?_
    refine lv_aload_n hx hb dX12_readerIs_79 rfl (lv_at hl 0 rfl) ?_
    refine gf_X12_70_m0 hC hW dX12_readerIs_80 ?_
    refine lv_bipush (v := 32) hx hb dX12_readerIs_83 (by decide) ?_
    refine lv_iload_n hx hb dX12_readerIs_85 rfl (lv_at hl 1 rfl) ?_
    refine lv_imul hx hb dX12_readerIs_86 ?_
    refine lv_iload hx hb dX12_readerIs_87 (lv_at hl 3 rfl) ?_
    refine lv_iadd hx hb dX12_readerIs_89 ?_
    obtain ⟨x11, ex11, hin, h⟩ := mrd_ex h
    refine kr_zald hC hW (wm_21 g μ) hin ex11 dX12_readerIs_90 ?_
    refine lv_if_eq (tgt := 98) hx hb dX12_readerIs_91 (by decide) (fun hc12 => ?_) (fun hc12 => ?_)
    · replace h := if_p hc12 h
      refine lv_iconst (v := 0) hx hb dX12_readerIs_98 (by decide) ?_
      refine lv_iadd hx hb dX12_readerIs_99 ?_
      refine lv_istore_n (lv' := [(3, .int (xs3 + 0)), (0, .ref (ad g 0)), (1, .int a1), (4, .int xs4)]) hx hb dX12_readerIs_100 rfl hl (by decide) rfl (fun ls hl => ?_)
      refine lv_iinc (v := (xs4 + 1)) (lv' := [(4, .int (xs4 + 1)), (3, .int (xs3 + 0)), (0, .ref (ad g 0)), (1, .int a1)]) hx hb dX12_readerIs_101 hl (k := 3) rfl (by rw [oi_1]) (by decide) rfl (fun ls hl => ?_)
      refine lv_goto (tgt := 69) hx hb dX12_readerIs_104 (by decide) ?_
      exact k1 ((xs3 + 0), (xs4 + 1)) (Option.some.inj h).symm _ _ _ (lv_sub hl [2, 3, 1, 0] rfl) hW
    · replace h := if_n hc12 h
      refine lv_iconst (v := 1) hx hb dX12_readerIs_94 (by decide) ?_
      refine lv_goto (tgt := 99) hx hb dX12_readerIs_95 (by decide) ?_
      refine lv_iadd hx hb dX12_readerIs_99 ?_
      refine lv_istore_n (lv' := [(3, .int (xs3 + 1)), (0, .ref (ad g 0)), (1, .int a1), (4, .int xs4)]) hx hb dX12_readerIs_100 rfl hl (by decide) rfl (fun ls hl => ?_)
      refine lv_iinc (v := (xs4 + 1)) (lv' := [(4, .int (xs4 + 1)), (3, .int (xs3 + 1)), (0, .ref (ad g 0)), (1, .int a1)]) hx hb dX12_readerIs_101 hl (k := 3) rfl (by rw [oi_1]) (by decide) rfl (fun ls hl => ?_)
      refine lv_goto (tgt := 69) hx hb dX12_readerIs_104 (by decide) ?_
      exact k1 ((xs3 + 1), (xs4 + 1)) (Option.some.inj h).symm _ _ _ (lv_sub hl [2, 3, 1, 0] rfl) hW
set_option maxHeartbeats 4000000 in
set_option maxRecDepth 100000 in
theorem t_md_readerIs {l : Launch} {g : Gx} {A : Nat → Prop} {μ : Mm} {a1 : Int32} {a2 : Int32} {v : Int32} (h : md_readerIs μ a1 a2 = some v) : Cti l g A wm yX12_readerIs cX12_readerIs 5 (some .int) 1 [.ref (ad g 0), .int a1, .int a2] μ v μ := by
  refine ent (lv := [(0, .ref (ad g 0)), (1, .int a1), (2, .int a2)]) (by decide) (Nat.le_of_ble_eq_true rfl) rfl ?_
  intro p e s m args below meth c hC hr hlocks hnm hW ls hl
  replace hC : Cx g RX12 cX12_readerIs 5 p s m args c := hC
  obtain ⟨hx, hb, hml, hown, hts, hK, hN⟩ := id hC
  unfold md_readerIs at h
  refine lv_aload_n hx hb dX12_readerIs_0 rfl (lv_at hl 0 rfl) ?_
  refine lv_iload_n hx hb dX12_readerIs_1 rfl (lv_at hl 1 rfl) ?_
  obtain ⟨x1, hx1, h⟩ := mbv_some h
  refine kr_ci hC hW (kr_runV hC hW hl.1 (t_md_isReader hx1) cw_X12_214 (wm_0 g μ) rfl rfl rfl (Nat.le_of_ble_eq_true rfl) dX12_readerIs_2 (by decide)) (fun H locs hW => ?_)
  refine lv_if_ne (tgt := 10) hx hb dX12_readerIs_5 (by decide) (fun hc2 => ?_) (fun hc2 => ?_)
  · replace h := if_n hc2 h
    refine lv_iload_n hx hb dX12_readerIs_10 rfl (lv_at hl 2 rfl) ?_
    by_cases hc3 : a2 = 0
    · replace h := if_p hc3 h
      refine lv_tableIn (off := 33) (tgt := 44) hx hb dX12_readerIs_11 (by rw [hc3]; decide) (by rw [hc3]; decide) (by rw [hc3]; rfl) (by decide) ?_
      refine lv_aload_n hx hb dX12_readerIs_44 rfl (lv_at hl 0 rfl) ?_
      refine lv_iload_n hx hb dX12_readerIs_45 rfl (lv_at hl 1 rfl) ?_
      obtain ⟨x4, hx4, h⟩ := mbv_some h
      refine kr_ci hC hW (kr_runV hC hW hl.1 (t_md_outWith hx4) cw_X12_328 (wm_0 g μ) rfl rfl rfl (Nat.le_of_ble_eq_true rfl) dX12_readerIs_46 (by decide)) (fun H locs hW => ?_)
      cases h
      exact kr_iret hC hr hlocks hW dX12_readerIs_49
    replace h := if_n hc3 h
    by_cases hc5 : a2 = 1
    · replace h := if_p hc5 h
      refine lv_tableIn (off := 39) (tgt := 50) hx hb dX12_readerIs_11 (by rw [hc5]; decide) (by rw [hc5]; decide) (by rw [hc5]; rfl) (by decide) ?_
      refine lv_aload_n hx hb dX12_readerIs_50 rfl (lv_at hl 0 rfl) ?_
      refine gf_X12_64_m0 hC hW dX12_readerIs_51 ?_
      refine lv_iload_n hx hb dX12_readerIs_54 rfl (lv_at hl 1 rfl) ?_
      obtain ⟨x6, ex6, hin, h⟩ := mrd_ex h
      refine kr_iald hC hW (wm_19 g μ) hin ex6 dX12_readerIs_55 ?_
      cases h
      exact kr_iret hC hr hlocks hW dX12_readerIs_56
    replace h := if_n hc5 h
    by_cases hc7 : a2 = 2
    · replace h := if_p hc7 h
      refine lv_tableIn (off := 46) (tgt := 57) hx hb dX12_readerIs_11 (by rw [hc7]; decide) (by rw [hc7]; decide) (by rw [hc7]; rfl) (by decide) ?_
      refine lv_aload_n hx hb dX12_readerIs_57 rfl (lv_at hl 0 rfl) ?_
      refine gf_X12_61_m0 hC hW dX12_readerIs_58 ?_
      refine lv_iload_n hx hb dX12_readerIs_61 rfl (lv_at hl 1 rfl) ?_
      obtain ⟨x8, ex8, hin, h⟩ := mrd_ex h
      refine kr_iald hC hW (wm_18 g μ) hin ex8 dX12_readerIs_62 ?_
      cases h
      exact kr_iret hC hr hlocks hW dX12_readerIs_63
    replace h := if_n hc7 h
    by_cases hc9 : a2 = 3
    · replace h := if_p hc9 h
      refine lv_tableIn (off := 53) (tgt := 64) hx hb dX12_readerIs_11 (by rw [hc9]; decide) (by rw [hc9]; decide) (by rw [hc9]; rfl) (by decide) ?_
      refine lv_iconst (v := 0) hx hb dX12_readerIs_64 (by decide) ?_
      refine lv_istore_n (lv' := [(3, .int 0), (0, .ref (ad g 0)), (1, .int a1), (2, .int a2)]) hx hb dX12_readerIs_65 rfl hl (by decide) rfl (fun ls hl => ?_)
      refine lv_iconst (v := 0) hx hb dX12_readerIs_66 (by decide) ?_
      refine lv_istore (lv' := [(4, .int 0), (3, .int 0), (0, .ref (ad g 0)), (1, .int a1), (2, .int a2)]) hx hb dX12_readerIs_67 hl (by decide) rfl (fun ls hl => ?_)
      obtain ⟨x13, he14, h⟩ := mbv_some h
      refine tl_md_readerIs_69 μ a1 hC (fun ls H locs hl hW => ?_) FU (0, 0) he14 _ _ _ (lv_sub hl [2, 3, 1, 0] rfl) hW
      refine lv_iload_n hx hb dX12_readerIs_107 rfl (lv_at hl 0 rfl) ?_
      cases h
      exact kr_iret hC hr hlocks hW dX12_readerIs_108
    replace h := if_n hc9 h
    by_cases hc15 : a2 = 4
    · replace h := if_p hc15 h
      refine lv_tableIn (off := 98) (tgt := 109) hx hb dX12_readerIs_11 (by rw [hc15]; decide) (by rw [hc15]; decide) (by rw [hc15]; rfl) (by decide) ?_
      refine lv_aload_n hx hb dX12_readerIs_109 rfl (lv_at hl 0 rfl) ?_
      refine lv_iload_n hx hb dX12_readerIs_110 rfl (lv_at hl 1 rfl) ?_
      obtain ⟨x16, hx16, h⟩ := mbv_some h
      refine kr_ci hC hW (kr_runV hC hW hl.1 (t_md_asksOf hx16) cw_X12_373 (wm_0 g μ) rfl rfl rfl (Nat.le_of_ble_eq_true rfl) dX12_readerIs_111 (by decide)) (fun H locs hW => ?_)
      cases h
      exact kr_iret hC hr hlocks hW dX12_readerIs_114
    replace h := if_n hc15 h
    have thc3 := lv_neT (a := 0) hc3 (by decide)
    have thc5 := lv_neT (a := 1) hc5 (by decide)
    have thc7 := lv_neT (a := 2) hc7 (by decide)
    have thc9 := lv_neT (a := 3) hc9 (by decide)
    have thc15 := lv_neT (a := 4) hc15 (by decide)
    refine lv_tableOut (tgt := 115) hx hb dX12_readerIs_11 (by omega) (by decide) ?_
    refine lv_iconst (v := (-1)) hx hb dX12_readerIs_115 (by decide) ?_
    cases h
    exact kr_iret hC hr hlocks hW dX12_readerIs_116
  · replace h := if_p hc2 h
    refine lv_iconst (v := (-1)) hx hb dX12_readerIs_8 (by decide) ?_
    cases h
    exact kr_iret hC hr hlocks hW dX12_readerIs_9
set_option maxHeartbeats 4000000 in
set_option maxRecDepth 100000 in
theorem t_md_pays {l : Launch} {g : Gx} {A : Nat → Prop} {μ : Mm} {a1 : Int32} {a2 : Int32} {v : Int32} {u : Mm} (h : md_pays μ a1 a2 = some (v, u)) : Cti l g A wm yX12_pays cX12_pays 3 (some .int) 1 [.ref (ad g 0), .int a1, .int a2] μ v u := by
  refine ent (lv := [(0, .ref (ad g 0)), (1, .int a1), (2, .int a2)]) (by decide) (Nat.le_of_ble_eq_true rfl) rfl ?_
  intro p e s m args below meth c hC hr hlocks hnm hW ls hl
  replace hC : Cx g RX12 cX12_pays 3 p s m args c := hC
  obtain ⟨hx, hb, hml, hown, hts, hK, hN⟩ := id hC
  unfold md_pays at h
  refine lv_aload_n hx hb dX12_pays_0 rfl (lv_at hl 0 rfl) ?_
  refine lv_iload_n hx hb dX12_pays_1 rfl (lv_at hl 1 rfl) ?_
  obtain ⟨x1, hx1, h⟩ := mbv_some h
  refine kr_ci hC hW (kr_runV hC hW hl.1 (t_md_isReader hx1) cw_X12_214 (wm_0 g μ) rfl rfl rfl (Nat.le_of_ble_eq_true rfl) dX12_pays_2 (by decide)) (fun H locs hW => ?_)
  refine lv_if_eq (tgt := 22) hx hb dX12_pays_5 (by decide) (fun hc2 => ?_) (fun hc2 => ?_)
  · replace h := if_p hc2 h
    refine lv_iconst (v := (-1)) hx hb dX12_pays_22 (by decide) ?_
    cases h
    exact kr_iret hC hr hlocks hW dX12_pays_23
  · replace h := if_n hc2 h
    refine lv_iload_n hx hb dX12_pays_8 rfl (lv_at hl 2 rfl) ?_
    refine lv_iconst (v := 1) hx hb dX12_pays_9 (by decide) ?_
    refine lv_aload_n hx hb dX12_pays_10 rfl (lv_at hl 0 rfl) ?_
    refine gf_X12_61_m0 hC hW dX12_pays_11 ?_
    refine lv_iload_n hx hb dX12_pays_14 rfl (lv_at hl 1 rfl) ?_
    obtain ⟨x3, ex3, hin, h⟩ := mrd_ex h
    refine kr_iald hC hW (wm_18 g μ) hin ex3 dX12_pays_15 ?_
    obtain ⟨x4, hx4, h⟩ := mbv_some h
    refine kr_ci hC hW (kr_runS hC hW hl.1 (t_md_in hx4) cw_X12_199 rfl rfl (Nat.le_of_ble_eq_true rfl) dX12_pays_16 (by decide)) (fun H locs hW => ?_)
    refine lv_if_ne (tgt := 24) hx hb dX12_pays_19 (by decide) (fun hc5 => ?_) (fun hc5 => ?_)
    · replace h := if_n hc5 h
      refine lv_aload_n hx hb dX12_pays_24 rfl (lv_at hl 0 rfl) ?_
      refine gf_X12_61_m0 hC hW dX12_pays_25 ?_
      refine lv_iload_n hx hb dX12_pays_28 rfl (lv_at hl 1 rfl) ?_
      refine lv_aload_n hx hb dX12_pays_29 rfl (lv_at hl 0 rfl) ?_
      refine gf_X12_61_m0 hC hW dX12_pays_30 ?_
      refine lv_iload_n hx hb dX12_pays_33 rfl (lv_at hl 1 rfl) ?_
      obtain ⟨x6, ex6, hin, h⟩ := mrd_ex h
      refine kr_iald hC hW (wm_18 g μ) hin ex6 dX12_pays_34 ?_
      refine lv_iload_n hx hb dX12_pays_35 rfl (lv_at hl 2 rfl) ?_
      refine lv_isub hx hb dX12_pays_36 ?_
      obtain ⟨μ7, eμ7, hin, h⟩ := mwr_ex h
      refine kr_iast hC hW (wm_18 g μ) (wms_18 eμ7) hin dX12_pays_37 (fun H locs hW => ?_)
      refine lv_aload_n hx hb dX12_pays_38 rfl (lv_at hl 0 rfl) ?_
      refine gf_X12_61_m0 hC hW dX12_pays_39 ?_
      refine lv_iload_n hx hb dX12_pays_42 rfl (lv_at hl 1 rfl) ?_
      obtain ⟨x8, ex8, hin, h⟩ := mrd_ex h
      refine kr_iald hC hW (wm_18 g μ7) hin ex8 dX12_pays_43 ?_
      cases h
      exact kr_iret hC hr hlocks hW dX12_pays_44
    · replace h := if_p hc5 h
      refine lv_iconst (v := (-1)) hx hb dX12_pays_22 (by decide) ?_
      cases h
      exact kr_iret hC hr hlocks hW dX12_pays_23
set_option maxHeartbeats 4000000 in
set_option maxRecDepth 100000 in
theorem t_md_ask {l : Launch} {g : Gx} {A : Nat → Prop} {μ : Mm} {a1 : Int32} {a2 : Int32} {a3 : Int32} {v : Bool} {u : Mm} (h : md_ask μ a1 a2 a3 = some (v, u)) : Cti l g A wm yX12_ask cX12_ask 4 (some .boolean) 3 [.ref (ad g 0), .int a1, .int a2, .int a3] μ (bI v) u := by
  refine ent (lv := [(0, .ref (ad g 0)), (1, .int a1), (2, .int a2), (3, .int a3)]) (by decide) (Nat.le_of_ble_eq_true rfl) rfl ?_
  intro p e s m args below meth c hC hr hlocks hnm hW ls hl
  replace hC : Cx g RX12 cX12_ask 4 p s m args c := hC
  obtain ⟨hx, hb, hml, hown, hts, hK, hN⟩ := id hC
  unfold md_ask at h
  refine lv_aload_n hx hb dX12_ask_0 rfl (lv_at hl 0 rfl) ?_
  refine lv_iload_n hx hb dX12_ask_1 rfl (lv_at hl 1 rfl) ?_
  obtain ⟨x1, hx1, h⟩ := mbv_some h
  refine kr_ci hC hW (kr_runV hC hW hl.1 (t_md_isReader hx1) cw_X12_214 (wm_0 g μ) rfl rfl rfl (Nat.le_of_ble_eq_true rfl) dX12_ask_2 (by decide)) (fun H locs hW => ?_)
  refine lv_if_eq (tgt := 72) hx hb dX12_ask_5 (by decide) (fun hc2 => ?_) (fun hc2 => ?_)
  · replace h := if_p hc2 h
    refine lv_iconst (v := 0) hx hb dX12_ask_72 (by decide) ?_
    cases h
    exact kr_zret hC hr hlocks _ rfl hW dX12_ask_73
  · replace h := if_n hc2 h
    refine lv_aload_n hx hb dX12_ask_8 rfl (lv_at hl 0 rfl) ?_
    refine lv_iload_n hx hb dX12_ask_9 rfl (lv_at hl 2 rfl) ?_
    obtain ⟨x3, hx3, h⟩ := mbv_some h
    refine kr_ci hC hW (kr_runV hC hW hl.1 (t_md_isBook hx3) cw_X12_217 (wm_0 g μ) rfl rfl rfl (Nat.le_of_ble_eq_true rfl) dX12_ask_10 (by decide)) (fun H locs hW => ?_)
    refine lv_if_eq (tgt := 72) hx hb dX12_ask_13 (by decide) (fun hc4 => ?_) (fun hc4 => ?_)
    · replace h := if_p hc4 h
      refine lv_iconst (v := 0) hx hb dX12_ask_72 (by decide) ?_
      cases h
      exact kr_zret hC hr hlocks _ rfl hW dX12_ask_73
    · replace h := if_n hc4 h
      refine lv_iload_n hx hb dX12_ask_16 rfl (lv_at hl 3 rfl) ?_
      refine lv_aload_n hx hb dX12_ask_17 rfl (lv_at hl 0 rfl) ?_
      refine gf_X12_196_m0 hC hW dX12_ask_18 ?_
      refine lv_sipush (v := 199) hx hb dX12_ask_21 (by decide) ?_
      obtain ⟨x5, hx5, h⟩ := mbv_some h
      refine kr_ci hC hW (kr_runS hC hW hl.1 (t_md_in hx5) cw_X12_199 rfl rfl (Nat.le_of_ble_eq_true rfl) dX12_ask_24 (by decide)) (fun H locs hW => ?_)
      refine lv_if_eq (tgt := 72) hx hb dX12_ask_27 (by decide) (fun hc6 => ?_) (fun hc6 => ?_)
      · replace h := if_p hc6 h
        refine lv_iconst (v := 0) hx hb dX12_ask_72 (by decide) ?_
        cases h
        exact kr_zret hC hr hlocks _ rfl hW dX12_ask_73
      · replace h := if_n hc6 h
        refine lv_aload_n hx hb dX12_ask_30 rfl (lv_at hl 0 rfl) ?_
        refine gf_X12_67_m0 hC hW dX12_ask_31 ?_
        refine lv_bipush (v := 32) hx hb dX12_ask_34 (by decide) ?_
        refine lv_iload_n hx hb dX12_ask_36 rfl (lv_at hl 1 rfl) ?_
        refine lv_imul hx hb dX12_ask_37 ?_
        refine lv_iload_n hx hb dX12_ask_38 rfl (lv_at hl 2 rfl) ?_
        refine lv_iadd hx hb dX12_ask_39 ?_
        obtain ⟨x7, ex7, hin, h⟩ := mrd_ex h
        refine kr_iald hC hW (wm_20 g μ) hin ex7 dX12_ask_40 ?_
        refine lv_iconst (v := (-1)) hx hb dX12_ask_41 (by decide) ?_
        refine lv_icmp_ne (tgt := 72) hx hb dX12_ask_42 (by decide) (fun hc8 => ?_) (fun hc8 => ?_)
        · replace h := if_n hc8 h
          refine lv_iconst (v := 0) hx hb dX12_ask_72 (by decide) ?_
          cases h
          exact kr_zret hC hr hlocks _ rfl hW dX12_ask_73
        · replace h := if_p hc8 h
          refine lv_aload_n hx hb dX12_ask_45 rfl (lv_at hl 0 rfl) ?_
          refine gf_X12_22_m0 hC hW dX12_ask_46 ?_
          refine lv_iload_n hx hb dX12_ask_49 rfl (lv_at hl 2 rfl) ?_
          obtain ⟨x9, ex9, hin, h⟩ := mrd_ex h
          refine kr_iald hC hW (wm_5 g μ) hin ex9 dX12_ask_50 ?_
          refine lv_bipush (v := 10) hx hb dX12_ask_51 (by decide) ?_
          refine lv_iload_n hx hb dX12_ask_53 rfl (lv_at hl 1 rfl) ?_
          refine lv_iadd hx hb dX12_ask_54 ?_
          refine lv_icmp_eq (tgt := 72) hx hb dX12_ask_55 (by decide) (fun hc10 => ?_) (fun hc10 => ?_)
          · replace h := if_p hc10 h
            refine lv_iconst (v := 0) hx hb dX12_ask_72 (by decide) ?_
            cases h
            exact kr_zret hC hr hlocks _ rfl hW dX12_ask_73
          · replace h := if_n hc10 h
            refine lv_aload_n hx hb dX12_ask_58 rfl (lv_at hl 0 rfl) ?_
            refine lv_aload_n hx hb dX12_ask_59 rfl (lv_at hl 0 rfl) ?_
            refine gf_X12_52_m0 hC hW dX12_ask_60 ?_
            refine lv_iload_n hx hb dX12_ask_63 rfl (lv_at hl 1 rfl) ?_
            obtain ⟨x11, ex11, hin, h⟩ := mrd_ex h
            refine kr_iald hC hW (wm_15 g μ) hin ex11 dX12_ask_64 ?_
            refine lv_iload_n hx hb dX12_ask_65 rfl (lv_at hl 3 rfl) ?_
            obtain ⟨x12, hx12, h⟩ := mbv_some h
            refine kr_ci hC hW (kr_runV hC hW hl.1 (t_md_isVisitedByAny hx12) cw_X12_376 (wm_0 g μ) rfl rfl rfl (Nat.le_of_ble_eq_true rfl) dX12_ask_66 (by decide)) (fun H locs hW => ?_)
            refine lv_if_ne (tgt := 74) hx hb dX12_ask_69 (by decide) (fun hc13 => ?_) (fun hc13 => ?_)
            · replace h := if_n hc13 h
              refine lv_aload_n hx hb dX12_ask_74 rfl (lv_at hl 0 rfl) ?_
              refine gf_X12_67_m0 hC hW dX12_ask_75 ?_
              refine lv_bipush (v := 32) hx hb dX12_ask_78 (by decide) ?_
              refine lv_iload_n hx hb dX12_ask_80 rfl (lv_at hl 1 rfl) ?_
              refine lv_imul hx hb dX12_ask_81 ?_
              refine lv_iload_n hx hb dX12_ask_82 rfl (lv_at hl 2 rfl) ?_
              refine lv_iadd hx hb dX12_ask_83 ?_
              refine lv_iload_n hx hb dX12_ask_84 rfl (lv_at hl 3 rfl) ?_
              obtain ⟨μ14, eμ14, hin, h⟩ := mwr_ex h
              refine kr_iast hC hW (wm_20 g μ) (wms_20 eμ14) hin dX12_ask_85 (fun H locs hW => ?_)
              refine lv_iconst (v := 1) hx hb dX12_ask_86 (by decide) ?_
              cases h
              exact kr_zret hC hr hlocks _ rfl hW dX12_ask_87
            · replace h := if_p hc13 h
              refine lv_iconst (v := 0) hx hb dX12_ask_72 (by decide) ?_
              cases h
              exact kr_zret hC hr hlocks _ rfl hW dX12_ask_73
set_option maxHeartbeats 4000000 in
set_option maxRecDepth 100000 in
theorem t_md_unask {l : Launch} {g : Gx} {A : Nat → Prop} {μ : Mm} {a1 : Int32} {a2 : Int32} {v : Bool} {u : Mm} (h : md_unask μ a1 a2 = some (v, u)) : Cti l g A wm yX12_unask cX12_unask 3 (some .boolean) 1 [.ref (ad g 0), .int a1, .int a2] μ (bI v) u := by
  refine ent (lv := [(0, .ref (ad g 0)), (1, .int a1), (2, .int a2)]) (by decide) (Nat.le_of_ble_eq_true rfl) rfl ?_
  intro p e s m args below meth c hC hr hlocks hnm hW ls hl
  replace hC : Cx g RX12 cX12_unask 3 p s m args c := hC
  obtain ⟨hx, hb, hml, hown, hts, hK, hN⟩ := id hC
  unfold md_unask at h
  refine lv_aload_n hx hb dX12_unask_0 rfl (lv_at hl 0 rfl) ?_
  refine lv_iload_n hx hb dX12_unask_1 rfl (lv_at hl 1 rfl) ?_
  obtain ⟨x1, hx1, h⟩ := mbv_some h
  refine kr_ci hC hW (kr_runV hC hW hl.1 (t_md_isReader hx1) cw_X12_214 (wm_0 g μ) rfl rfl rfl (Nat.le_of_ble_eq_true rfl) dX12_unask_2 (by decide)) (fun H locs hW => ?_)
  refine lv_if_eq (tgt := 31) hx hb dX12_unask_5 (by decide) (fun hc2 => ?_) (fun hc2 => ?_)
  · replace h := if_p hc2 h
    refine lv_iconst (v := 0) hx hb dX12_unask_31 (by decide) ?_
    cases h
    exact kr_zret hC hr hlocks _ rfl hW dX12_unask_32
  · replace h := if_n hc2 h
    refine lv_aload_n hx hb dX12_unask_8 rfl (lv_at hl 0 rfl) ?_
    refine lv_iload_n hx hb dX12_unask_9 rfl (lv_at hl 2 rfl) ?_
    obtain ⟨x3, hx3, h⟩ := mbv_some h
    refine kr_ci hC hW (kr_runV hC hW hl.1 (t_md_isBook hx3) cw_X12_217 (wm_0 g μ) rfl rfl rfl (Nat.le_of_ble_eq_true rfl) dX12_unask_10 (by decide)) (fun H locs hW => ?_)
    refine lv_if_eq (tgt := 31) hx hb dX12_unask_13 (by decide) (fun hc4 => ?_) (fun hc4 => ?_)
    · replace h := if_p hc4 h
      refine lv_iconst (v := 0) hx hb dX12_unask_31 (by decide) ?_
      cases h
      exact kr_zret hC hr hlocks _ rfl hW dX12_unask_32
    · replace h := if_n hc4 h
      refine lv_aload_n hx hb dX12_unask_16 rfl (lv_at hl 0 rfl) ?_
      refine gf_X12_67_m0 hC hW dX12_unask_17 ?_
      refine lv_bipush (v := 32) hx hb dX12_unask_20 (by decide) ?_
      refine lv_iload_n hx hb dX12_unask_22 rfl (lv_at hl 1 rfl) ?_
      refine lv_imul hx hb dX12_unask_23 ?_
      refine lv_iload_n hx hb dX12_unask_24 rfl (lv_at hl 2 rfl) ?_
      refine lv_iadd hx hb dX12_unask_25 ?_
      obtain ⟨x5, ex5, hin, h⟩ := mrd_ex h
      refine kr_iald hC hW (wm_20 g μ) hin ex5 dX12_unask_26 ?_
      refine lv_iconst (v := (-1)) hx hb dX12_unask_27 (by decide) ?_
      refine lv_icmp_ne (tgt := 33) hx hb dX12_unask_28 (by decide) (fun hc6 => ?_) (fun hc6 => ?_)
      · replace h := if_n hc6 h
        refine lv_aload_n hx hb dX12_unask_33 rfl (lv_at hl 0 rfl) ?_
        refine gf_X12_67_m0 hC hW dX12_unask_34 ?_
        refine lv_bipush (v := 32) hx hb dX12_unask_37 (by decide) ?_
        refine lv_iload_n hx hb dX12_unask_39 rfl (lv_at hl 1 rfl) ?_
        refine lv_imul hx hb dX12_unask_40 ?_
        refine lv_iload_n hx hb dX12_unask_41 rfl (lv_at hl 2 rfl) ?_
        refine lv_iadd hx hb dX12_unask_42 ?_
        refine lv_iconst (v := (-1)) hx hb dX12_unask_43 (by decide) ?_
        obtain ⟨μ7, eμ7, hin, h⟩ := mwr_ex h
        refine kr_iast hC hW (wm_20 g μ) (wms_20 eμ7) hin dX12_unask_44 (fun H locs hW => ?_)
        refine lv_iconst (v := 1) hx hb dX12_unask_45 (by decide) ?_
        cases h
        exact kr_zret hC hr hlocks _ rfl hW dX12_unask_46
      · replace h := if_p hc6 h
        refine lv_iconst (v := 0) hx hb dX12_unask_31 (by decide) ?_
        cases h
        exact kr_zret hC hr hlocks _ rfl hW dX12_unask_32
set_option maxHeartbeats 4000000 in
set_option maxRecDepth 100000 in
theorem tl_md_aboardOf_36 (μ : Mm) (a1 : Int32) (a2 : Int32) (a5 : Int32) (hC : Cx g RX12 cX12_aboardOf 7 p s m args c) {e0 : (Int64)} (kx0 : ∀ (ls : Array Slot) (H : Heap) (locs : List Loc), lv_has ls 7 [(0, .ref (ad g 0)), (1, .int a1), (2, .int a2), (3, .long e0), (5, .int a5)] → wP g wm A s.heap μ H locs → W p l e (rmD 2) s m args below meth c H locs 0 0 Q (F0 m 75 ls [])) : ∀ (n : Nat) (q : Int64 × Int32), miter (fun q => md_aboardOf_b36 μ a1 a2 a5 q.1 q.2) n q = some e0 → ∀ (ls : Array Slot) (H : Heap) (locs : List Loc), lv_has ls 7 [(0, .ref (ad g 0)), (1, .int a1), (2, .int a2), (3, .long q.1), (5, .int a5), (6, .int q.2)] → wP g wm A s.heap μ H locs → W p l e (rmD 2) s m args below meth c H locs 0 0 Q (F0 m 36 ls []) := by
  obtain ⟨hx, hb, hml, hown, hts, hK, hN⟩ := id hC
  refine miter_ind (fun q r hf k1 k2 => ?_)
  obtain ⟨xs3, xs6⟩ := q
  intro ls H locs hl hW
  have h : md_aboardOf_b36 μ a1 a2 a5 xs3 xs6 = some r := hf
  unfold md_aboardOf_b36 at h
  refine lv_iload hx hb dX12_aboardOf_36 (lv_at hl 5 rfl) ?_
  refine lv_aload_n hx hb dX12_aboardOf_38 rfl (lv_at hl 0 rfl) ?_
  refine gf_X12_187_m0 hC hW dX12_aboardOf_39 ?_
  refine lv_icmp_ge (tgt := 75) hx hb dX12_aboardOf_42 (by decide) (fun hc5 => ?_) (fun hc5 => ?_)
  · replace h := if_p hc5 h
    obtain rfl := k2 _ (Option.some.inj h).symm
    exact kx0 _ _ _ (lv_sub hl [0, 1, 2, 3, 4] rfl) hW
  · replace h := if_n hc5 h
    refine lv_aload_n hx hb dX12_aboardOf_45 rfl (lv_at hl 0 rfl) ?_
    refine gf_X12_67_m0 hC hW dX12_aboardOf_46 ?_
    refine lv_bipush (v := 32) hx hb dX12_aboardOf_49 (by decide) ?_
    refine lv_iload hx hb dX12_aboardOf_51 (lv_at hl 4 rfl) ?_
    refine lv_imul hx hb dX12_aboardOf_53 ?_
    refine lv_iload hx hb dX12_aboardOf_54 (lv_at hl 5 rfl) ?_
    refine lv_iadd hx hb dX12_aboardOf_56 ?_
    obtain ⟨x6, ex6, hin, h⟩ := mrd_ex h
    refine kr_iald hC hW (wm_20 g μ) hin ex6 dX12_aboardOf_57 ?_
    refine lv_iload_n hx hb dX12_aboardOf_58 rfl (lv_at hl 1 rfl) ?_
    refine lv_icmp_ne (tgt := 69) hx hb dX12_aboardOf_59 (by decide) (fun hc7 => ?_) (fun hc7 => ?_)
    · replace h := if_n hc7 h
      refine lv_iinc (v := (xs6 + 1)) (lv' := [(6, .int (xs6 + 1)), (0, .ref (ad g 0)), (1, .int a1), (2, .int a2), (3, .long xs3), (5, .int a5)]) hx hb dX12_aboardOf_69 hl (k := 5) rfl (by rw [oi_1]) (by decide) rfl (fun ls hl => ?_)
      refine lv_goto (tgt := 36) hx hb dX12_aboardOf_72 (by decide) ?_
      exact k1 (xs3, (xs6 + 1)) (Option.some.inj h).symm _ _ _ (lv_sub hl [1, 2, 3, 4, 5, 0] rfl) hW
    · replace h := if_p hc7 h
      refine lv_lload_n hx hb dX12_aboardOf_62 rfl (lv_at hl 3 rfl) ?_
      refine lv_lconst (v := 1) hx hb dX12_aboardOf_63 (by decide) ?_
      refine lv_iload hx hb dX12_aboardOf_64 (lv_at hl 5 rfl) ?_
      refine lv_lshl (v := ((1 : Int64) <<< ((xs6 : Int32).toInt64 &&& 63))) hx hb dX12_aboardOf_66 rfl ?_
      refine lv_lor hx hb dX12_aboardOf_67 ?_
      refine lv_lstore_n (lv' := [(3, .long (xs3 ||| ((1 : Int64) <<< ((xs6 : Int32).toInt64 &&& 63)))), (0, .ref (ad g 0)), (1, .int a1), (2, .int a2), (5, .int a5), (6, .int xs6)]) hx hb dX12_aboardOf_68 rfl hl (by decide) rfl (fun ls hl => ?_)
      refine lv_iinc (v := (xs6 + 1)) (lv' := [(6, .int (xs6 + 1)), (3, .long (xs3 ||| ((1 : Int64) <<< ((xs6 : Int32).toInt64 &&& 63)))), (0, .ref (ad g 0)), (1, .int a1), (2, .int a2), (5, .int a5)]) hx hb dX12_aboardOf_69 hl (k := 5) rfl (by rw [oi_1]) (by decide) rfl (fun ls hl => ?_)
      refine lv_goto (tgt := 36) hx hb dX12_aboardOf_72 (by decide) ?_
      exact k1 ((xs3 ||| ((1 : Int64) <<< ((xs6 : Int32).toInt64 &&& 63))), (xs6 + 1)) (Option.some.inj h).symm _ _ _ (lv_sub hl [2, 3, 4, 1, 5, 0] rfl) hW
set_option maxHeartbeats 4000000 in
set_option maxRecDepth 100000 in
theorem tl_md_aboardOf_5 (μ : Mm) (a1 : Int32) (a2 : Int32) (hC : Cx g RX12 cX12_aboardOf 7 p s m args c) {e0 : (Int64)} (kx0 : ∀ (ls : Array Slot) (H : Heap) (locs : List Loc), lv_has ls 7 [(3, .long e0)] → wP g wm A s.heap μ H locs → W p l e (rmD 2) s m args below meth c H locs 0 0 Q (F0 m 81 ls [])) : ∀ (n : Nat) (q : Int64 × Int32), miter (fun q => md_aboardOf_b5 μ a1 a2 q.1 q.2) n q = some e0 → ∀ (ls : Array Slot) (H : Heap) (locs : List Loc), lv_has ls 7 [(0, .ref (ad g 0)), (1, .int a1), (2, .int a2), (3, .long q.1), (5, .int q.2)] → wP g wm A s.heap μ H locs → W p l e (rmD 2) s m args below meth c H locs 0 0 Q (F0 m 5 ls []) := by
  obtain ⟨hx, hb, hml, hown, hts, hK, hN⟩ := id hC
  refine miter_ind (fun q r hf k1 k2 => ?_)
  obtain ⟨xs3, xs5⟩ := q
  intro ls H locs hl hW
  have h : md_aboardOf_b5 μ a1 a2 xs3 xs5 = some r := hf
  unfold md_aboardOf_b5 at h
  refine lv_iload hx hb dX12_aboardOf_5 (lv_at hl 4 rfl) ?_
  refine lv_aload_n hx hb dX12_aboardOf_7 rfl (lv_at hl 0 rfl) ?_
  refine gf_X12_193_m0 hC hW dX12_aboardOf_8 ?_
  refine lv_icmp_ge (tgt := 81) hx hb dX12_aboardOf_11 (by decide) (fun hc1 => ?_) (fun hc1 => ?_)
  · replace h := if_p hc1 h
    obtain rfl := k2 _ (Option.some.inj h).symm
    exact kx0 _ _ _ (lv_sub hl [3] rfl) hW
  · replace h := if_n hc1 h
    refine lv_aload_n hx hb dX12_aboardOf_14 rfl (lv_at hl 0 rfl) ?_
    refine lv_iload_n hx hb dX12_aboardOf_15 rfl (lv_at hl 2 rfl) ?_
    refine lv_aload_n hx hb dX12_aboardOf_16 rfl (lv_at hl 0 rfl) ?_
    refine gf_X12_52_m0 hC hW dX12_aboardOf_17 ?_
    refine lv_iload hx hb dX12_aboardOf_20 (lv_at hl 4 rfl) ?_
    obtain ⟨x2, ex2, hin, h⟩ := mrd_ex h
    refine kr_iald hC hW (wm_15 g μ) hin ex2 dX12_aboardOf_22 ?_
    refine lv_iload_n hx hb dX12_aboardOf_23 rfl (lv_at hl 1 rfl) ?_
    obtain ⟨x3, hx3, h⟩ := mbv_some h
    refine kr_ci hC hW (kr_runV hC hW hl.1 (t_md_isVisited hx3) cw_X12_346 (wm_0 g μ) rfl rfl rfl (Nat.le_of_ble_eq_true rfl) dX12_aboardOf_24 (by decide)) (fun H locs hW => ?_)
    refine lv_if_ne (tgt := 33) hx hb dX12_aboardOf_27 (by decide) (fun hc4 => ?_) (fun hc4 => ?_)
    · replace h := if_n hc4 h
      refine lv_iconst (v := 0) hx hb dX12_aboardOf_33 (by decide) ?_
      refine lv_istore (lv' := [(6, .int 0), (0, .ref (ad g 0)), (1, .int a1), (2, .int a2), (3, .long xs3), (5, .int xs5)]) hx hb dX12_aboardOf_34 hl (by decide) rfl (fun ls hl => ?_)
      obtain ⟨x8, he9, h⟩ := mbv_some h
      refine tl_md_aboardOf_36 μ a1 a2 xs5 hC (fun ls H locs hl hW => ?_) FU (xs3, 0) he9 _ _ _ (lv_sub hl [1, 2, 3, 4, 5, 0] rfl) hW
      refine lv_iinc (v := (xs5 + 1)) (lv' := [(5, .int (xs5 + 1)), (0, .ref (ad g 0)), (1, .int a1), (2, .int a2), (3, .long x8)]) hx hb dX12_aboardOf_75 hl (k := 4) rfl (by rw [oi_1]) (by decide) rfl (fun ls hl => ?_)
      refine lv_goto (tgt := 5) hx hb dX12_aboardOf_78 (by decide) ?_
      exact k1 (x8, (xs5 + 1)) (Option.some.inj h).symm _ _ _ (lv_sub hl [1, 2, 3, 4, 0] rfl) hW
    · replace h := if_p hc4 h
      refine lv_goto (tgt := 75) hx hb dX12_aboardOf_30 (by decide) ?_
      refine lv_iinc (v := (xs5 + 1)) (lv' := [(5, .int (xs5 + 1)), (0, .ref (ad g 0)), (1, .int a1), (2, .int a2), (3, .long xs3)]) hx hb dX12_aboardOf_75 hl (k := 4) rfl (by rw [oi_1]) (by decide) rfl (fun ls hl => ?_)
      refine lv_goto (tgt := 5) hx hb dX12_aboardOf_78 (by decide) ?_
      exact k1 (xs3, (xs5 + 1)) (Option.some.inj h).symm _ _ _ (lv_sub hl [1, 2, 3, 4, 0] rfl) hW
set_option maxHeartbeats 4000000 in
set_option maxRecDepth 100000 in
theorem t_md_aboardOf {l : Launch} {g : Gx} {A : Nat → Prop} {μ : Mm} {a1 : Int32} {a2 : Int32} {v : Int64} (h : md_aboardOf μ a1 a2 = some v) : Ctl l g A wm yX12_aboardOf cX12_aboardOf 7 (some .long) 2 [.ref (ad g 0), .int a1, .int a2] μ v μ := by
  refine ent (lv := [(0, .ref (ad g 0)), (1, .int a1), (2, .int a2)]) (by decide) (Nat.le_of_ble_eq_true rfl) rfl ?_
  intro p e s m args below meth c hC hr hlocks hnm hW ls hl
  replace hC : Cx g RX12 cX12_aboardOf 7 p s m args c := hC
  obtain ⟨hx, hb, hml, hown, hts, hK, hN⟩ := id hC
  unfold md_aboardOf at h
  refine lv_lconst (v := 0) hx hb dX12_aboardOf_0 (by decide) ?_
  refine lv_lstore_n (lv' := [(3, .long 0), (0, .ref (ad g 0)), (1, .int a1), (2, .int a2)]) hx hb dX12_aboardOf_1 rfl hl (by decide) rfl (fun ls hl => ?_)
  refine lv_iconst (v := 0) hx hb dX12_aboardOf_2 (by decide) ?_
  refine lv_istore (lv' := [(5, .int 0), (3, .long 0), (0, .ref (ad g 0)), (1, .int a1), (2, .int a2)]) hx hb dX12_aboardOf_3 hl (by decide) rfl (fun ls hl => ?_)
  obtain ⟨x10, he11, h⟩ := mbv_some h
  refine tl_md_aboardOf_5 μ a1 a2 hC (fun ls H locs hl hW => ?_) FU (0, 0) he11 _ _ _ (lv_sub hl [2, 3, 4, 1, 0] rfl) hW
  refine lv_lload_n hx hb dX12_aboardOf_81 rfl (lv_at hl 0 rfl) ?_
  cases h
  exact kr_lret hC hr hlocks hW dX12_aboardOf_82
set_option maxHeartbeats 4000000 in
set_option maxRecDepth 100000 in
theorem t_md_aboard {l : Launch} {g : Gx} {A : Nat → Prop} {μ : Mm} {a1 : Int32} {a2 : Int32} {v : Int64} (h : md_aboard μ a1 a2 = some v) : Ctl l g A wm yX12_aboard cX12_aboard 3 (some .long) 3 [.ref (ad g 0), .int a1, .int a2] μ v μ := by
  refine ent (lv := [(0, .ref (ad g 0)), (1, .int a1), (2, .int a2)]) (by decide) (Nat.le_of_ble_eq_true rfl) rfl ?_
  intro p e s m args below meth c hC hr hlocks hnm hW ls hl
  replace hC : Cx g RX12 cX12_aboard 3 p s m args c := hC
  obtain ⟨hx, hb, hml, hown, hts, hK, hN⟩ := id hC
  unfold md_aboard at h
  refine lv_iload_n hx hb dX12_aboard_0 rfl (lv_at hl 1 rfl) ?_
  obtain ⟨x1, hx1, h⟩ := mbv_some h
  refine kr_ci hC hW (kr_runS hC hW hl.1 (t_md_isDay hx1) cw_X12_349 rfl rfl (Nat.le_of_ble_eq_true rfl) dX12_aboard_1 (by decide)) (fun H locs hW => ?_)
  refine lv_if_eq (tgt := 23) hx hb dX12_aboard_4 (by decide) (fun hc2 => ?_) (fun hc2 => ?_)
  · replace h := if_p hc2 h
    refine lv_ldc2 hx hb hown (hts _ tw_1651) dX12_aboard_23 ?_
    cases h
    exact kr_lret hC hr hlocks hW dX12_aboard_26
  · replace h := if_n hc2 h
    refine lv_iload_n hx hb dX12_aboard_7 rfl (lv_at hl 2 rfl) ?_
    obtain ⟨x3, hx3, h⟩ := mbv_some h
    refine kr_ci hC hW (kr_runS hC hW hl.1 (t_md_isVan hx3) cw_X12_203 rfl rfl (Nat.le_of_ble_eq_true rfl) dX12_aboard_8 (by decide)) (fun H locs hW => ?_)
    refine lv_if_eq (tgt := 23) hx hb dX12_aboard_11 (by decide) (fun hc4 => ?_) (fun hc4 => ?_)
    · replace h := if_p hc4 h
      refine lv_ldc2 hx hb hown (hts _ tw_1651) dX12_aboard_23 ?_
      cases h
      exact kr_lret hC hr hlocks hW dX12_aboard_26
    · replace h := if_n hc4 h
      refine lv_aload_n hx hb dX12_aboard_14 rfl (lv_at hl 0 rfl) ?_
      refine lv_iload_n hx hb dX12_aboard_15 rfl (lv_at hl 1 rfl) ?_
      refine lv_iload_n hx hb dX12_aboard_16 rfl (lv_at hl 2 rfl) ?_
      obtain ⟨x5, hx5, h⟩ := mbv_some h
      refine kr_cl hC hW (kr_runV hC hW hl.1 (t_md_aboardOf hx5) cw_X12_379 (wm_0 g μ) rfl rfl rfl (Nat.le_of_ble_eq_true rfl) dX12_aboard_17 (by decide)) (fun H locs hW => ?_)
      refine lv_goto (tgt := 26) hx hb dX12_aboard_20 (by decide) ?_
      cases h
      exact kr_lret hC hr hlocks hW dX12_aboard_26
set_option maxHeartbeats 4000000 in
set_option maxRecDepth 100000 in
theorem tl_md_firstVisit_2 (μ : Mm) (a1 : Int32) (hC : Cx g RX12 cX12_firstVisit 4 p s m args c) {e0 : (Int32) ⊕ (Unit)} (kx0 : (Sum.elim (fun a => ∀ (ls : Array Slot) (H : Heap) (locs : List Loc), lv_has ls 4 [(3, .int a)] → wP g wm A s.heap μ H locs → W p l e (rmD 3) s m args below meth c H locs 0 0 Q (F0 m 18 ls [])) (fun _ => True)) e0) (kx1 : (Sum.elim (fun _ => True) (fun a => ∀ (ls : Array Slot) (H : Heap) (locs : List Loc), lv_has ls 4 [] → wP g wm A s.heap μ H locs → W p l e (rmD 3) s m args below meth c H locs 0 0 Q (F0 m 26 ls []))) e0) : ∀ (n : Nat) (q : Int32), miter (fun q => md_firstVisit_b2 μ a1 q) n q = some e0 → ∀ (ls : Array Slot) (H : Heap) (locs : List Loc), lv_has ls 4 [(0, .ref (ad g 0)), (1, .int a1), (3, .int q)] → wP g wm A s.heap μ H locs → W p l e (rmD 3) s m args below meth c H locs 0 0 Q (F0 m 2 ls []) := by
  obtain ⟨hx, hb, hml, hown, hts, hK, hN⟩ := id hC
  refine miter_ind (fun q r hf k1 k2 => ?_)
  obtain ⟨xs3, rfl⟩ : ∃ z, z = q := ⟨_, rfl⟩
  intro ls H locs hl hW
  have h : md_firstVisit_b2 μ a1 xs3 = some r := hf
  unfold md_firstVisit_b2 at h
  refine lv_iload_n hx hb dX12_firstVisit_2 rfl (lv_at hl 2 rfl) ?_
  refine lv_sipush (v := 199) hx hb dX12_firstVisit_3 (by decide) ?_
  refine lv_icmp_gt (tgt := 26) hx hb dX12_firstVisit_6 (by decide) (fun hc1 => ?_) (fun hc1 => ?_)
  · replace h := if_p hc1 h
    obtain rfl := k2 _ (Option.some.inj h).symm
    exact kx1 _ _ _ (lv_sub hl [] rfl) hW
  · replace h := if_n hc1 h
    refine lv_aload_n hx hb dX12_firstVisit_9 rfl (lv_at hl 0 rfl) ?_
    refine lv_iload_n hx hb dX12_firstVisit_10 rfl (lv_at hl 1 rfl) ?_
    refine lv_iload_n hx hb dX12_firstVisit_11 rfl (lv_at hl 2 rfl) ?_
    obtain ⟨x2, hx2, h⟩ := mbv_some h
    refine kr_ci hC hW (kr_runV hC hW hl.1 (t_md_isVisitedByAny hx2) cw_X12_376 (wm_0 g μ) rfl rfl rfl (Nat.le_of_ble_eq_true rfl) dX12_firstVisit_12 (by decide)) (fun H locs hW => ?_)
    refine lv_if_eq (tgt := 20) hx hb dX12_firstVisit_15 (by decide) (fun hc3 => ?_) (fun hc3 => ?_)
    · replace h := if_p hc3 h
      refine lv_iinc (v := (xs3 + 1)) (lv' := [(3, .int (xs3 + 1)), (0, .ref (ad g 0)), (1, .int a1)]) hx hb dX12_firstVisit_20 hl (k := 2) rfl (by rw [oi_1]) (by decide) rfl (fun ls hl => ?_)
      refine lv_goto (tgt := 2) hx hb dX12_firstVisit_23 (by decide) ?_
      exact k1 (xs3 + 1) (Option.some.inj h).symm _ _ _ (lv_sub hl [1, 2, 0] rfl) hW
    · replace h := if_n hc3 h
      obtain rfl := k2 _ (Option.some.inj h).symm
      exact kx0 _ _ _ (lv_sub hl [2] rfl) hW
set_option maxHeartbeats 4000000 in
set_option maxRecDepth 100000 in
theorem t_md_firstVisit {l : Launch} {g : Gx} {A : Nat → Prop} {μ : Mm} {a1 : Int32} {a2 : Int32} {v : Int32} (h : md_firstVisit μ a1 a2 = some v) : Cti l g A wm yX12_firstVisit cX12_firstVisit 4 (some .int) 3 [.ref (ad g 0), .int a1, .int a2] μ v μ := by
  refine ent (lv := [(0, .ref (ad g 0)), (1, .int a1), (2, .int a2)]) (by decide) (Nat.le_of_ble_eq_true rfl) rfl ?_
  intro p e s m args below meth c hC hr hlocks hnm hW ls hl
  replace hC : Cx g RX12 cX12_firstVisit 4 p s m args c := hC
  obtain ⟨hx, hb, hml, hown, hts, hK, hN⟩ := id hC
  unfold md_firstVisit at h
  refine lv_iload_n hx hb dX12_firstVisit_0 rfl (lv_at hl 2 rfl) ?_
  refine lv_istore_n (lv' := [(3, .int a2), (0, .ref (ad g 0)), (1, .int a1), (2, .int a2)]) hx hb dX12_firstVisit_1 rfl hl (by decide) rfl (fun ls hl => ?_)
  rcases msum2_ex h with ⟨x5, he4, h⟩ | ⟨e0, he4, h⟩
  · refine tl_md_firstVisit_2 μ a1 hC (e0 := (.inl x5)) (fun ls H locs hl hW => ?_) trivial FU a2 he4 _ _ _ (lv_sub hl [1, 2, 0] rfl) hW
    refine lv_iload_n hx hb dX12_firstVisit_18 rfl (lv_at hl 0 rfl) ?_
    cases h
    exact kr_iret hC hr hlocks hW dX12_firstVisit_19
  · refine tl_md_firstVisit_2 μ a1 hC (e0 := (.inr ())) trivial (fun ls H locs hl hW => ?_) FU a2 he4 _ _ _ (lv_sub hl [1, 2, 0] rfl) hW
    refine lv_bipush (v := (-2)) hx hb dX12_firstVisit_26 (by decide) ?_
    cases h
    exact kr_iret hC hr hlocks hW dX12_firstVisit_28
set_option maxHeartbeats 4000000 in
set_option maxRecDepth 100000 in
theorem tj_md_promised_122 {μ : Mm} (a3 : Int32) (a5 : Int32) (y1 : Int32) (y2 : Int32) (hC : Cx g RX12 cX12_promised 7 p s m args c) (hr : meth.sig.returnType = some .int) (hlocks : meth.locks = false) {v : Int32} (hl : lv_has ls 7 [(0, .ref (ad g 0)), (3, .int a3), (5, .int a5)]) (hW : wP g wm A s.heap μ H locs) (h : md_promised_j122 μ a3 a5 y1 y2 = some v) : W p l e (rmD 4) s m args below meth c H locs 0 0 (MQ below (Qi g A wm v μ) args s 0 0 A) (F0 m 122 ls [.int y2, .int y1, .ref (ad g 0)]) := by
  obtain ⟨hx, hb, hml, hown, hts, hK, hN⟩ := id hC
  unfold md_promised_j122 at h
  obtain ⟨x10, hx10, h⟩ := mbv_some h
  refine kr_ci hC hW (kr_runV hC hW hl.1 (t_md_firstVisit hx10) cw_X12_385 (wm_0 g μ) rfl rfl rfl (Nat.le_of_ble_eq_true rfl) dX12_promised_122 (by decide)) (fun H locs hW => ?_)
  refine lv_istore (lv' := [(6, .int x10), (0, .ref (ad g 0)), (3, .int a3), (5, .int a5)]) hx hb dX12_promised_125 hl (by decide) rfl (fun ls hl => ?_)
  refine lv_iload hx hb dX12_promised_127 (lv_at hl 0 rfl) ?_
  refine lv_bipush (v := (-2)) hx hb dX12_promised_129 (by decide) ?_
  refine lv_icmp_ne (tgt := 139) hx hb dX12_promised_131 (by decide) (fun hc11 => ?_) (fun hc11 => ?_)
  · replace h := if_n hc11 h
    refine lv_aload_n hx hb dX12_promised_139 rfl (lv_at hl 1 rfl) ?_
    refine lv_iload_n hx hb dX12_promised_140 rfl (lv_at hl 2 rfl) ?_
    refine lv_iload hx hb dX12_promised_141 (lv_at hl 3 rfl) ?_
    refine lv_iload_n hx hb dX12_promised_143 rfl (lv_at hl 2 rfl) ?_
    refine lv_icmp_ne (tgt := 152) hx hb dX12_promised_144 (by decide) (fun hc12 => ?_) (fun hc12 => ?_)
    · replace h := if_n hc12 h
      refine lv_iload hx hb dX12_promised_152 (lv_at hl 0 rfl) ?_
      refine lv_iconst (v := 1) hx hb dX12_promised_154 (by decide) ?_
      refine lv_iadd hx hb dX12_promised_155 ?_
      obtain ⟨x13, hx13, h⟩ := mbv_some h
      refine kr_ci hC hW (kr_runV hC hW hl.1 (t_md_firstVisit hx13) cw_X12_385 (wm_0 g μ) rfl rfl rfl (Nat.le_of_ble_eq_true rfl) dX12_promised_156 (by decide)) (fun H locs hW => ?_)
      cases h
      exact kr_iret hC hr hlocks hW dX12_promised_159
    · replace h := if_p hc12 h
      refine lv_iload hx hb dX12_promised_147 (lv_at hl 0 rfl) ?_
      refine lv_goto (tgt := 156) hx hb dX12_promised_149 (by decide) ?_
      obtain ⟨x14, hx14, h⟩ := mbv_some h
      refine kr_ci hC hW (kr_runV hC hW hl.1 (t_md_firstVisit hx14) cw_X12_385 (wm_0 g μ) rfl rfl rfl (Nat.le_of_ble_eq_true rfl) dX12_promised_156 (by decide)) (fun H locs hW => ?_)
      cases h
      exact kr_iret hC hr hlocks hW dX12_promised_159
  · replace h := if_p hc11 h
    refine lv_bipush (v := (-2)) hx hb dX12_promised_134 (by decide) ?_
    refine lv_goto (tgt := 159) hx hb dX12_promised_136 (by decide) ?_
    cases h
    exact kr_iret hC hr hlocks hW dX12_promised_159
set_option maxHeartbeats 4000000 in
set_option maxRecDepth 100000 in
theorem t_md_promised {l : Launch} {g : Gx} {A : Nat → Prop} {μ : Mm} {a1 : Int32} {a2 : Int32} {v : Int32} (h : md_promised μ a1 a2 = some v) : Cti l g A wm yX12_promised cX12_promised 7 (some .int) 4 [.ref (ad g 0), .int a1, .int a2] μ v μ := by
  refine ent (lv := [(0, .ref (ad g 0)), (1, .int a1), (2, .int a2)]) (by decide) (Nat.le_of_ble_eq_true rfl) rfl ?_
  intro p e s m args below meth c hC hr hlocks hnm hW ls hl
  replace hC : Cx g RX12 cX12_promised 7 p s m args c := hC
  obtain ⟨hx, hb, hml, hown, hts, hK, hN⟩ := id hC
  unfold md_promised at h
  refine lv_aload_n hx hb dX12_promised_0 rfl (lv_at hl 0 rfl) ?_
  refine gf_X12_52_m0 hC hW dX12_promised_1 ?_
  refine lv_iload_n hx hb dX12_promised_4 rfl (lv_at hl 1 rfl) ?_
  obtain ⟨x1, ex1, hin, h⟩ := mrd_ex h
  refine kr_iald hC hW (wm_15 g μ) hin ex1 dX12_promised_5 ?_
  refine lv_istore_n (lv' := [(3, .int x1), (0, .ref (ad g 0)), (1, .int a1), (2, .int a2)]) hx hb dX12_promised_6 rfl hl (by decide) rfl (fun ls hl => ?_)
  refine lv_aload_n hx hb dX12_promised_7 rfl (lv_at hl 1 rfl) ?_
  refine gf_X12_22_m0 hC hW dX12_promised_8 ?_
  refine lv_iload_n hx hb dX12_promised_11 rfl (lv_at hl 3 rfl) ?_
  obtain ⟨x2, ex2, hin, h⟩ := mrd_ex h
  refine kr_iald hC hW (wm_5 g μ) hin ex2 dX12_promised_12 ?_
  refine lv_istore (lv' := [(4, .int x2), (3, .int x1), (0, .ref (ad g 0)), (1, .int a1), (2, .int a2)]) hx hb dX12_promised_13 hl (by decide) rfl (fun ls hl => ?_)
  refine lv_iload hx hb dX12_promised_15 (lv_at hl 0 rfl) ?_
  refine lv_bipush (v := 40) hx hb dX12_promised_17 (by decide) ?_
  refine lv_icmp_ne (tgt := 25) hx hb dX12_promised_19 (by decide) (fun hc3 => ?_) (fun hc3 => ?_)
  · replace h := if_n hc3 h
    refine lv_iload hx hb dX12_promised_25 (lv_at hl 0 rfl) ?_
    refine lv_if_ne (tgt := 40) hx hb dX12_promised_27 (by decide) (fun hc4 => ?_) (fun hc4 => ?_)
    · replace h := if_n hc4 h
      refine lv_iload hx hb dX12_promised_40 (lv_at hl 0 rfl) ?_
      refine lv_iconst (v := 3) hx hb dX12_promised_42 (by decide) ?_
      refine lv_icmp_gt (tgt := 81) hx hb dX12_promised_43 (by decide) (fun hc5 => ?_) (fun hc5 => ?_)
      · replace h := if_p hc5 h
        refine lv_aload_n hx hb dX12_promised_81 rfl (lv_at hl 2 rfl) ?_
        refine gf_X12_52_m0 hC hW dX12_promised_82 ?_
        refine lv_iload hx hb dX12_promised_85 (lv_at hl 0 rfl) ?_
        refine lv_bipush (v := 10) hx hb dX12_promised_87 (by decide) ?_
        refine lv_isub hx hb dX12_promised_89 ?_
        obtain ⟨x6, ex6, hin, h⟩ := mrd_ex h
        refine kr_iald hC hW (wm_15 g μ) hin ex6 dX12_promised_90 ?_
        refine lv_istore (lv' := [(5, .int x6), (4, .int x2), (3, .int x1), (0, .ref (ad g 0)), (1, .int a1), (2, .int a2)]) hx hb dX12_promised_91 hl (by decide) rfl (fun ls hl => ?_)
        refine lv_aload_n hx hb dX12_promised_93 rfl (lv_at hl 3 rfl) ?_
        refine lv_iload hx hb dX12_promised_94 (lv_at hl 0 rfl) ?_
        refine lv_aload_n hx hb dX12_promised_96 rfl (lv_at hl 3 rfl) ?_
        refine gf_X12_25_m0 hC hW dX12_promised_97 ?_
        refine lv_iload_n hx hb dX12_promised_100 rfl (lv_at hl 5 rfl) ?_
        obtain ⟨x7, ex7, hin, h⟩ := mrd_ex h
        refine kr_iald hC hW (wm_6 g μ) hin ex7 dX12_promised_101 ?_
        refine lv_aload_n hx hb dX12_promised_102 rfl (lv_at hl 3 rfl) ?_
        refine gf_X12_196_m0 hC hW dX12_promised_103 ?_
        refine lv_icmp_ge (tgt := 116) hx hb dX12_promised_106 (by decide) (fun hc8 => ?_) (fun hc8 => ?_)
        · replace h := if_p hc8 h
          refine lv_aload_n hx hb dX12_promised_116 rfl (lv_at hl 3 rfl) ?_
          refine gf_X12_25_m0 hC hW dX12_promised_117 ?_
          refine lv_iload_n hx hb dX12_promised_120 rfl (lv_at hl 5 rfl) ?_
          obtain ⟨x9, ex9, hin, h⟩ := mrd_ex h
          refine kr_iald hC hW (wm_6 g μ) hin ex9 dX12_promised_121 ?_
          exact tj_md_promised_122 x1 x6 x6 x9 hC hr hlocks (lv_sub hl [3, 2, 0] rfl) hW h
        · replace h := if_n hc8 h
          refine lv_aload_n hx hb dX12_promised_109 rfl (lv_at hl 3 rfl) ?_
          refine gf_X12_196_m0 hC hW dX12_promised_110 ?_
          refine lv_goto (tgt := 122) hx hb dX12_promised_113 (by decide) ?_
          exact tj_md_promised_122 x1 x6 x6 (μ 0 0) hC hr hlocks (lv_sub hl [3, 2, 0] rfl) hW h
      · replace h := if_n hc5 h
        refine lv_aload_n hx hb dX12_promised_46 rfl (lv_at hl 2 rfl) ?_
        refine lv_iload hx hb dX12_promised_47 (lv_at hl 0 rfl) ?_
        refine lv_iconst (v := 1) hx hb dX12_promised_49 (by decide) ?_
        refine lv_isub hx hb dX12_promised_50 ?_
        refine lv_iload_n hx hb dX12_promised_51 rfl (lv_at hl 1 rfl) ?_
        refine lv_aload_n hx hb dX12_promised_52 rfl (lv_at hl 2 rfl) ?_
        refine gf_X12_196_m0 hC hW dX12_promised_53 ?_
        obtain ⟨x15, hx15, h⟩ := mbv_some h
        refine kr_ci hC hW (kr_runV hC hW hl.1 (t_md_isVisited hx15) cw_X12_346 (wm_0 g μ) rfl rfl rfl (Nat.le_of_ble_eq_true rfl) dX12_promised_56 (by decide)) (fun H locs hW => ?_)
        refine lv_if_eq (tgt := 69) hx hb dX12_promised_59 (by decide) (fun hc16 => ?_) (fun hc16 => ?_)
        · replace h := if_p hc16 h
          refine lv_aload_n hx hb dX12_promised_69 rfl (lv_at hl 2 rfl) ?_
          refine lv_iload_n hx hb dX12_promised_70 rfl (lv_at hl 1 rfl) ?_
          refine lv_aload_n hx hb dX12_promised_71 rfl (lv_at hl 2 rfl) ?_
          refine gf_X12_196_m0 hC hW dX12_promised_72 ?_
          refine lv_iconst (v := 1) hx hb dX12_promised_75 (by decide) ?_
          refine lv_iadd hx hb dX12_promised_76 ?_
          obtain ⟨x17, hx17, h⟩ := mbv_some h
          refine kr_ci hC hW (kr_runV hC hW hl.1 (t_md_firstVisit hx17) cw_X12_385 (wm_0 g μ) rfl rfl rfl (Nat.le_of_ble_eq_true rfl) dX12_promised_77 (by decide)) (fun H locs hW => ?_)
          cases h
          exact kr_iret hC hr hlocks hW dX12_promised_80
        · replace h := if_n hc16 h
          refine lv_aload_n hx hb dX12_promised_62 rfl (lv_at hl 2 rfl) ?_
          refine gf_X12_196_m0 hC hW dX12_promised_63 ?_
          refine lv_goto (tgt := 80) hx hb dX12_promised_66 (by decide) ?_
          cases h
          exact kr_iret hC hr hlocks hW dX12_promised_80
    · replace h := if_p hc4 h
      refine lv_aload_n hx hb dX12_promised_30 rfl (lv_at hl 2 rfl) ?_
      refine lv_iload_n hx hb dX12_promised_31 rfl (lv_at hl 1 rfl) ?_
      refine lv_aload_n hx hb dX12_promised_32 rfl (lv_at hl 2 rfl) ?_
      refine gf_X12_196_m0 hC hW dX12_promised_33 ?_
      obtain ⟨x18, hx18, h⟩ := mbv_some h
      refine kr_ci hC hW (kr_runV hC hW hl.1 (t_md_firstVisit hx18) cw_X12_385 (wm_0 g μ) rfl rfl rfl (Nat.le_of_ble_eq_true rfl) dX12_promised_36 (by decide)) (fun H locs hW => ?_)
      cases h
      exact kr_iret hC hr hlocks hW dX12_promised_39
  · replace h := if_p hc3 h
    refine lv_bipush (v := (-2)) hx hb dX12_promised_22 (by decide) ?_
    cases h
    exact kr_iret hC hr hlocks hW dX12_promised_24
set_option maxHeartbeats 4000000 in
set_option maxRecDepth 100000 in
theorem t_md_promise {l : Launch} {g : Gx} {A : Nat → Prop} {μ : Mm} {a1 : Int32} {a2 : Int32} {v : Int32} (h : md_promise μ a1 a2 = some v) : Cti l g A wm yX12_promise cX12_promise 3 (some .int) 5 [.ref (ad g 0), .int a1, .int a2] μ v μ := by
  refine ent (lv := [(0, .ref (ad g 0)), (1, .int a1), (2, .int a2)]) (by decide) (Nat.le_of_ble_eq_true rfl) rfl ?_
  intro p e s m args below meth c hC hr hlocks hnm hW ls hl
  replace hC : Cx g RX12 cX12_promise 3 p s m args c := hC
  obtain ⟨hx, hb, hml, hown, hts, hK, hN⟩ := id hC
  unfold md_promise at h
  refine lv_aload_n hx hb dX12_promise_0 rfl (lv_at hl 0 rfl) ?_
  refine lv_iload_n hx hb dX12_promise_1 rfl (lv_at hl 1 rfl) ?_
  obtain ⟨x1, hx1, h⟩ := mbv_some h
  refine kr_ci hC hW (kr_runV hC hW hl.1 (t_md_isReader hx1) cw_X12_214 (wm_0 g μ) rfl rfl rfl (Nat.le_of_ble_eq_true rfl) dX12_promise_2 (by decide)) (fun H locs hW => ?_)
  refine lv_if_eq (tgt := 25) hx hb dX12_promise_5 (by decide) (fun hc2 => ?_) (fun hc2 => ?_)
  · replace h := if_p hc2 h
    refine lv_iconst (v := (-1)) hx hb dX12_promise_25 (by decide) ?_
    cases h
    exact kr_iret hC hr hlocks hW dX12_promise_26
  · replace h := if_n hc2 h
    refine lv_aload_n hx hb dX12_promise_8 rfl (lv_at hl 0 rfl) ?_
    refine lv_iload_n hx hb dX12_promise_9 rfl (lv_at hl 2 rfl) ?_
    obtain ⟨x3, hx3, h⟩ := mbv_some h
    refine kr_ci hC hW (kr_runV hC hW hl.1 (t_md_isBook hx3) cw_X12_217 (wm_0 g μ) rfl rfl rfl (Nat.le_of_ble_eq_true rfl) dX12_promise_10 (by decide)) (fun H locs hW => ?_)
    refine lv_if_eq (tgt := 25) hx hb dX12_promise_13 (by decide) (fun hc4 => ?_) (fun hc4 => ?_)
    · replace h := if_p hc4 h
      refine lv_iconst (v := (-1)) hx hb dX12_promise_25 (by decide) ?_
      cases h
      exact kr_iret hC hr hlocks hW dX12_promise_26
    · replace h := if_n hc4 h
      refine lv_aload_n hx hb dX12_promise_16 rfl (lv_at hl 0 rfl) ?_
      refine lv_iload_n hx hb dX12_promise_17 rfl (lv_at hl 1 rfl) ?_
      refine lv_iload_n hx hb dX12_promise_18 rfl (lv_at hl 2 rfl) ?_
      obtain ⟨x5, hx5, h⟩ := mbv_some h
      refine kr_ci hC hW (kr_runV hC hW hl.1 (t_md_promised hx5) cw_X12_388 (wm_0 g μ) rfl rfl rfl (Nat.le_of_ble_eq_true rfl) dX12_promise_19 (by decide)) (fun H locs hW => ?_)
      refine lv_goto (tgt := 26) hx hb dX12_promise_22 (by decide) ?_
      cases h
      exact kr_iret hC hr hlocks hW dX12_promise_26
set_option maxHeartbeats 4000000 in
set_option maxRecDepth 100000 in
theorem tl_md_isAskedAhead_3 (μ : Mm) (a1 : Int32) (a2 : Int32) (a3 : Int32) (hC : Cx g RX12 cX12_isAskedAhead 6 p s m args c) {e0 : (Unit) ⊕ (Unit)} (kx0 : (Sum.elim (fun a => ∀ (ls : Array Slot) (H : Heap) (locs : List Loc), lv_has ls 6 [] → wP g wm A s.heap μ H locs → W p l e (rmD 0) s m args below meth c H locs 0 0 Q (F0 m 59 ls [])) (fun _ => True)) e0) (kx1 : (Sum.elim (fun _ => True) (fun a => ∀ (ls : Array Slot) (H : Heap) (locs : List Loc), lv_has ls 6 [] → wP g wm A s.heap μ H locs → W p l e (rmD 0) s m args below meth c H locs 0 0 Q (F0 m 67 ls []))) e0) : ∀ (n : Nat) (q : Int32), miter (fun q => md_isAskedAhead_b3 μ a1 a2 a3 q) n q = some e0 → ∀ (ls : Array Slot) (H : Heap) (locs : List Loc), lv_has ls 6 [(0, .ref (ad g 0)), (1, .int a1), (2, .int a2), (3, .int a3), (4, .int q)] → wP g wm A s.heap μ H locs → W p l e (rmD 0) s m args below meth c H locs 0 0 Q (F0 m 3 ls []) := by
  obtain ⟨hx, hb, hml, hown, hts, hK, hN⟩ := id hC
  refine miter_ind (fun q r hf k1 k2 => ?_)
  obtain ⟨xs4, rfl⟩ : ∃ z, z = q := ⟨_, rfl⟩
  intro ls H locs hl hW
  have h : md_isAskedAhead_b3 μ a1 a2 a3 xs4 = some r := hf
  unfold md_isAskedAhead_b3 at h
  refine lv_iload hx hb dX12_isAskedAhead_3 (lv_at hl 4 rfl) ?_
  refine lv_aload_n hx hb dX12_isAskedAhead_5 rfl (lv_at hl 0 rfl) ?_
  refine gf_X12_193_m0 hC hW dX12_isAskedAhead_6 ?_
  refine lv_icmp_ge (tgt := 67) hx hb dX12_isAskedAhead_9 (by decide) (fun hc1 => ?_) (fun hc1 => ?_)
  · replace h := if_p hc1 h
    obtain rfl := k2 _ (Option.some.inj h).symm
    exact kx1 _ _ _ (lv_sub hl [] rfl) hW
  · replace h := if_n hc1 h
    refine lv_aload_n hx hb dX12_isAskedAhead_12 rfl (lv_at hl 0 rfl) ?_
    refine gf_X12_67_m0 hC hW dX12_isAskedAhead_13 ?_
    refine lv_bipush (v := 32) hx hb dX12_isAskedAhead_16 (by decide) ?_
    refine lv_iload hx hb dX12_isAskedAhead_18 (lv_at hl 4 rfl) ?_
    refine lv_imul hx hb dX12_isAskedAhead_20 ?_
    refine lv_iload_n hx hb dX12_isAskedAhead_21 rfl (lv_at hl 2 rfl) ?_
    refine lv_iadd hx hb dX12_isAskedAhead_22 ?_
    obtain ⟨x2, ex2, hin, h⟩ := mrd_ex h
    refine kr_iald hC hW (wm_20 g μ) hin ex2 dX12_isAskedAhead_23 ?_
    refine lv_istore (lv' := [(5, .int x2), (0, .ref (ad g 0)), (1, .int a1), (2, .int a2), (3, .int a3), (4, .int xs4)]) hx hb dX12_isAskedAhead_24 hl (by decide) rfl (fun ls hl => ?_)
    refine lv_iload hx hb dX12_isAskedAhead_26 (lv_at hl 5 rfl) ?_
    refine lv_iload_n hx hb dX12_isAskedAhead_28 rfl (lv_at hl 2 rfl) ?_
    refine lv_icmp_eq (tgt := 61) hx hb dX12_isAskedAhead_29 (by decide) (fun hc3 => ?_) (fun hc3 => ?_)
    · replace h := if_p hc3 h
      refine lv_iinc (v := (xs4 + 1)) (lv' := [(4, .int (xs4 + 1)), (5, .int x2), (0, .ref (ad g 0)), (1, .int a1), (2, .int a2), (3, .int a3)]) hx hb dX12_isAskedAhead_61 hl (k := 5) rfl (by rw [oi_1]) (by decide) rfl (fun ls hl => ?_)
      refine lv_goto (tgt := 3) hx hb dX12_isAskedAhead_64 (by decide) ?_
      exact k1 (xs4 + 1) (Option.some.inj h).symm _ _ _ (lv_sub hl [2, 3, 4, 5, 0] rfl) hW
    · replace h := if_n hc3 h
      refine lv_iload hx hb dX12_isAskedAhead_32 (lv_at hl 0 rfl) ?_
      refine lv_aload_n hx hb dX12_isAskedAhead_34 rfl (lv_at hl 1 rfl) ?_
      refine gf_X12_196_m0 hC hW dX12_isAskedAhead_35 ?_
      refine lv_icmp_lt (tgt := 61) hx hb dX12_isAskedAhead_38 (by decide) (fun hc4 => ?_) (fun hc4 => ?_)
      · replace h := if_p hc4 h
        refine lv_iinc (v := (xs4 + 1)) (lv' := [(4, .int (xs4 + 1)), (5, .int x2), (0, .ref (ad g 0)), (1, .int a1), (2, .int a2), (3, .int a3)]) hx hb dX12_isAskedAhead_61 hl (k := 5) rfl (by rw [oi_1]) (by decide) rfl (fun ls hl => ?_)
        refine lv_goto (tgt := 3) hx hb dX12_isAskedAhead_64 (by decide) ?_
        exact k1 (xs4 + 1) (Option.some.inj h).symm _ _ _ (lv_sub hl [2, 3, 4, 5, 0] rfl) hW
      · replace h := if_n hc4 h
        refine lv_iload hx hb dX12_isAskedAhead_41 (lv_at hl 0 rfl) ?_
        refine lv_iload_n hx hb dX12_isAskedAhead_43 rfl (lv_at hl 4 rfl) ?_
        refine lv_icmp_lt (tgt := 59) hx hb dX12_isAskedAhead_44 (by decide) (fun hc5 => ?_) (fun hc5 => ?_)
        · replace h := if_p hc5 h
          obtain rfl := k2 _ (Option.some.inj h).symm
          exact kx0 _ _ _ (lv_sub hl [] rfl) hW
        · replace h := if_n hc5 h
          refine lv_iload hx hb dX12_isAskedAhead_47 (lv_at hl 0 rfl) ?_
          refine lv_iload_n hx hb dX12_isAskedAhead_49 rfl (lv_at hl 4 rfl) ?_
          refine lv_icmp_ne (tgt := 61) hx hb dX12_isAskedAhead_50 (by decide) (fun hc6 => ?_) (fun hc6 => ?_)
          · replace h := if_n hc6 h
            refine lv_iinc (v := (xs4 + 1)) (lv' := [(4, .int (xs4 + 1)), (5, .int x2), (0, .ref (ad g 0)), (1, .int a1), (2, .int a2), (3, .int a3)]) hx hb dX12_isAskedAhead_61 hl (k := 5) rfl (by rw [oi_1]) (by decide) rfl (fun ls hl => ?_)
            refine lv_goto (tgt := 3) hx hb dX12_isAskedAhead_64 (by decide) ?_
            exact k1 (xs4 + 1) (Option.some.inj h).symm _ _ _ (lv_sub hl [2, 3, 4, 5, 0] rfl) hW
          · replace h := if_p hc6 h
            refine lv_iload hx hb dX12_isAskedAhead_53 (lv_at hl 5 rfl) ?_
            refine lv_iload_n hx hb dX12_isAskedAhead_55 rfl (lv_at hl 2 rfl) ?_
            refine lv_icmp_ge (tgt := 61) hx hb dX12_isAskedAhead_56 (by decide) (fun hc7 => ?_) (fun hc7 => ?_)
            · replace h := if_p hc7 h
              refine lv_iinc (v := (xs4 + 1)) (lv' := [(4, .int (xs4 + 1)), (5, .int x2), (0, .ref (ad g 0)), (1, .int a1), (2, .int a2), (3, .int a3)]) hx hb dX12_isAskedAhead_61 hl (k := 5) rfl (by rw [oi_1]) (by decide) rfl (fun ls hl => ?_)
              refine lv_goto (tgt := 3) hx hb dX12_isAskedAhead_64 (by decide) ?_
              exact k1 (xs4 + 1) (Option.some.inj h).symm _ _ _ (lv_sub hl [2, 3, 4, 5, 0] rfl) hW
            · replace h := if_n hc7 h
              obtain rfl := k2 _ (Option.some.inj h).symm
              exact kx0 _ _ _ (lv_sub hl [] rfl) hW
set_option maxHeartbeats 4000000 in
set_option maxRecDepth 100000 in
theorem t_md_isAskedAhead {l : Launch} {g : Gx} {A : Nat → Prop} {μ : Mm} {a1 : Int32} {a2 : Int32} {a3 : Int32} {v : Bool} (h : md_isAskedAhead μ a1 a2 a3 = some v) : Cti l g A wm yX12_isAskedAhead cX12_isAskedAhead 6 (some .boolean) 0 [.ref (ad g 0), .int a1, .int a2, .int a3] μ (bI v) μ := by
  refine ent (lv := [(0, .ref (ad g 0)), (1, .int a1), (2, .int a2), (3, .int a3)]) (by decide) (Nat.le_of_ble_eq_true rfl) rfl ?_
  intro p e s m args below meth c hC hr hlocks hnm hW ls hl
  replace hC : Cx g RX12 cX12_isAskedAhead 6 p s m args c := hC
  obtain ⟨hx, hb, hml, hown, hts, hK, hN⟩ := id hC
  unfold md_isAskedAhead at h
  refine lv_iconst (v := 0) hx hb dX12_isAskedAhead_0 (by decide) ?_
  refine lv_istore (lv' := [(4, .int 0), (0, .ref (ad g 0)), (1, .int a1), (2, .int a2), (3, .int a3)]) hx hb dX12_isAskedAhead_1 hl (by decide) rfl (fun ls hl => ?_)
  rcases msum2_ex h with ⟨e0, he8, h⟩ | ⟨e0, he8, h⟩
  · refine tl_md_isAskedAhead_3 μ a1 a2 a3 hC (e0 := (.inl ())) (fun ls H locs hl hW => ?_) trivial FU 0 he8 _ _ _ (lv_sub hl [1, 2, 3, 4, 0] rfl) hW
    refine lv_iconst (v := 1) hx hb dX12_isAskedAhead_59 (by decide) ?_
    cases h
    exact kr_zret hC hr hlocks _ rfl hW dX12_isAskedAhead_60
  · refine tl_md_isAskedAhead_3 μ a1 a2 a3 hC (e0 := (.inr ())) trivial (fun ls H locs hl hW => ?_) FU 0 he8 _ _ _ (lv_sub hl [1, 2, 3, 4, 0] rfl) hW
    refine lv_iconst (v := 0) hx hb dX12_isAskedAhead_67 (by decide) ?_
    cases h
    exact kr_zret hC hr hlocks _ rfl hW dX12_isAskedAhead_68
set_option maxHeartbeats 4000000 in
set_option maxRecDepth 100000 in
theorem tl_md_lengthOfSet_5 (μ : Mm) (a1 : Int64) (hC : Cx g RX12 cX12_lengthOfSet 5 p s m args c) {e0 : (Int32)} (kx0 : ∀ (ls : Array Slot) (H : Heap) (locs : List Loc), lv_has ls 5 [(3, .int e0)] → wP g wm A s.heap μ H locs → W p l e (rmD 0) s m args below meth c H locs 0 0 Q (F0 m 45 ls [])) : ∀ (n : Nat) (q : Int32 × Int32), miter (fun q => md_lengthOfSet_b5 μ a1 q.1 q.2) n q = some e0 → ∀ (ls : Array Slot) (H : Heap) (locs : List Loc), lv_has ls 5 [(0, .ref (ad g 0)), (1, .long a1), (3, .int q.1), (4, .int q.2)] → wP g wm A s.heap μ H locs → W p l e (rmD 0) s m args below meth c H locs 0 0 Q (F0 m 5 ls []) := by
  obtain ⟨hx, hb, hml, hown, hts, hK, hN⟩ := id hC
  refine miter_ind (fun q r hf k1 k2 => ?_)
  obtain ⟨xs3, xs4⟩ := q
  intro ls H locs hl hW
  have h : md_lengthOfSet_b5 μ a1 xs3 xs4 = some r := hf
  unfold md_lengthOfSet_b5 at h
  refine lv_iload hx hb dX12_lengthOfSet_5 (lv_at hl 3 rfl) ?_
  refine lv_aload_n hx hb dX12_lengthOfSet_7 rfl (lv_at hl 0 rfl) ?_
  refine gf_X12_187_m0 hC hW dX12_lengthOfSet_8 ?_
  refine lv_icmp_ge (tgt := 45) hx hb dX12_lengthOfSet_11 (by decide) (fun hc1 => ?_) (fun hc1 => ?_)
  · replace h := if_p hc1 h
    obtain rfl := k2 _ (Option.some.inj h).symm
    exact kx0 _ _ _ (lv_sub hl [2] rfl) hW
  · replace h := if_n hc1 h
    refine lv_iload_n hx hb dX12_lengthOfSet_14 rfl (lv_at hl 2 rfl) ?_
    refine lv_lload_n hx hb dX12_lengthOfSet_15 rfl (lv_at hl 1 rfl) ?_
    refine lv_iload hx hb dX12_lengthOfSet_16 (lv_at hl 3 rfl) ?_
    refine lv_lshr (v := (a1 >>> ((xs4 : Int32).toInt64 &&& 63))) hx hb dX12_lengthOfSet_18 rfl ?_
    refine lv_lconst (v := 1) hx hb dX12_lengthOfSet_19 (by decide) ?_
    refine lv_land hx hb dX12_lengthOfSet_20 ?_
    refine lv_lconst (v := 1) hx hb dX12_lengthOfSet_21 (by decide) ?_
    refine W.lcmp hx hb dX12_lengthOfSet_22 ?_
    refine lv_if_ne (tgt := 36) hx hb dX12_lengthOfSet_23 (by decide) (fun hc2 => ?_) (fun hc2 => ?_)
    · replace h := if_n hc2 h
      refine lv_iconst (v := 0) hx hb dX12_lengthOfSet_36 (by decide) ?_
      refine lv_iadd hx hb dX12_lengthOfSet_37 ?_
      refine lv_istore_n (lv' := [(3, .int (xs3 + 0)), (0, .ref (ad g 0)), (1, .long a1), (4, .int xs4)]) hx hb dX12_lengthOfSet_38 rfl hl (by decide) rfl (fun ls hl => ?_)
      refine lv_iinc (v := (xs4 + 1)) (lv' := [(4, .int (xs4 + 1)), (3, .int (xs3 + 0)), (0, .ref (ad g 0)), (1, .long a1)]) hx hb dX12_lengthOfSet_39 hl (k := 3) rfl (by rw [oi_1]) (by decide) rfl (fun ls hl => ?_)
      refine lv_goto (tgt := 5) hx hb dX12_lengthOfSet_42 (by decide) ?_
      exact k1 ((xs3 + 0), (xs4 + 1)) (Option.some.inj h).symm _ _ _ (lv_sub hl [2, 3, 1, 0] rfl) hW
    · replace h := if_p hc2 h
      refine lv_aload_n hx hb dX12_lengthOfSet_26 rfl (lv_at hl 0 rfl) ?_
      refine gf_X12_13_m0 hC hW dX12_lengthOfSet_27 ?_
      refine lv_iload hx hb dX12_lengthOfSet_30 (lv_at hl 3 rfl) ?_
      obtain ⟨x3, ex3, hin, h⟩ := mrd_ex h
      refine kr_iald hC hW (wm_2 g μ) hin ex3 dX12_lengthOfSet_32 ?_
      refine lv_goto (tgt := 37) hx hb dX12_lengthOfSet_33 (by decide) ?_
      refine lv_iadd hx hb dX12_lengthOfSet_37 ?_
      refine lv_istore_n (lv' := [(3, .int (xs3 + x3)), (0, .ref (ad g 0)), (1, .long a1), (4, .int xs4)]) hx hb dX12_lengthOfSet_38 rfl hl (by decide) rfl (fun ls hl => ?_)
      refine lv_iinc (v := (xs4 + 1)) (lv' := [(4, .int (xs4 + 1)), (3, .int (xs3 + x3)), (0, .ref (ad g 0)), (1, .long a1)]) hx hb dX12_lengthOfSet_39 hl (k := 3) rfl (by rw [oi_1]) (by decide) rfl (fun ls hl => ?_)
      refine lv_goto (tgt := 5) hx hb dX12_lengthOfSet_42 (by decide) ?_
      exact k1 ((xs3 + x3), (xs4 + 1)) (Option.some.inj h).symm _ _ _ (lv_sub hl [2, 3, 1, 0] rfl) hW
set_option maxHeartbeats 4000000 in
set_option maxRecDepth 100000 in
theorem t_md_lengthOfSet {l : Launch} {g : Gx} {A : Nat → Prop} {μ : Mm} {a1 : Int64} {v : Int32} (h : md_lengthOfSet μ a1 = some v) : Cti l g A wm yX12_lengthOfSet cX12_lengthOfSet 5 (some .int) 0 [.ref (ad g 0), .long a1] μ v μ := by
  refine ent (lv := [(0, .ref (ad g 0)), (1, .long a1)]) (by decide) (Nat.le_of_ble_eq_true rfl) rfl ?_
  intro p e s m args below meth c hC hr hlocks hnm hW ls hl
  replace hC : Cx g RX12 cX12_lengthOfSet 5 p s m args c := hC
  obtain ⟨hx, hb, hml, hown, hts, hK, hN⟩ := id hC
  unfold md_lengthOfSet at h
  refine lv_iconst (v := 0) hx hb dX12_lengthOfSet_0 (by decide) ?_
  refine lv_istore_n (lv' := [(3, .int 0), (0, .ref (ad g 0)), (1, .long a1)]) hx hb dX12_lengthOfSet_1 rfl hl (by decide) rfl (fun ls hl => ?_)
  refine lv_iconst (v := 0) hx hb dX12_lengthOfSet_2 (by decide) ?_
  refine lv_istore (lv' := [(4, .int 0), (3, .int 0), (0, .ref (ad g 0)), (1, .long a1)]) hx hb dX12_lengthOfSet_3 hl (by decide) rfl (fun ls hl => ?_)
  obtain ⟨x4, he5, h⟩ := mbv_some h
  refine tl_md_lengthOfSet_5 μ a1 hC (fun ls H locs hl hW => ?_) FU (0, 0) he5 _ _ _ (lv_sub hl [2, 3, 1, 0] rfl) hW
  refine lv_iload_n hx hb dX12_lengthOfSet_45 rfl (lv_at hl 0 rfl) ?_
  cases h
  exact kr_iret hC hr hlocks hW dX12_lengthOfSet_46
set_option maxHeartbeats 4000000 in
set_option maxRecDepth 100000 in
theorem tl_md_whyNot_164 (μ : Mm) (a1 : Int32) (a3 : Int32) (hC : Cx g RX12 cX12_whyNot 6 p s m args c) {e0 : (Int32)} (kx0 : ∀ (ls : Array Slot) (H : Heap) (locs : List Loc), lv_has ls 6 [(0, .ref (ad g 0)), (3, .int a3), (5, .int e0)] → wP g wm A s.heap μ H locs → W p l e (rmD 5) s m args below meth c H locs 0 0 Q (F0 m 189 ls [])) : ∀ (n : Nat) (q : Int32), miter (fun q => md_whyNot_b164 μ a1 a3 q) n q = some e0 → ∀ (ls : Array Slot) (H : Heap) (locs : List Loc), lv_has ls 6 [(0, .ref (ad g 0)), (1, .int a1), (3, .int a3), (5, .int q)] → wP g wm A s.heap μ H locs → W p l e (rmD 5) s m args below meth c H locs 0 0 Q (F0 m 164 ls []) := by
  obtain ⟨hx, hb, hml, hown, hts, hK, hN⟩ := id hC
  refine miter_ind (fun q r hf k1 k2 => ?_)
  obtain ⟨xs5, rfl⟩ : ∃ z, z = q := ⟨_, rfl⟩
  intro ls H locs hl hW
  have h : md_whyNot_b164 μ a1 a3 xs5 = some r := hf
  unfold md_whyNot_b164 at h
  refine lv_aload_n hx hb dX12_whyNot_164 rfl (lv_at hl 0 rfl) ?_
  refine lv_iload hx hb dX12_whyNot_165 (lv_at hl 3 rfl) ?_
  refine lv_aload_n hx hb dX12_whyNot_167 rfl (lv_at hl 0 rfl) ?_
  refine gf_X12_52_m0 hC hW dX12_whyNot_168 ?_
  refine lv_iload_n hx hb dX12_whyNot_171 rfl (lv_at hl 1 rfl) ?_
  obtain ⟨x17, ex17, hin, h⟩ := mrd_ex h
  refine kr_iald hC hW (wm_15 g μ) hin ex17 dX12_whyNot_172 ?_
  refine lv_iload_n hx hb dX12_whyNot_173 rfl (lv_at hl 2 rfl) ?_
  obtain ⟨x18, hx18, h⟩ := mbv_some h
  refine kr_ci hC hW (kr_runV hC hW hl.1 (t_md_isVisited hx18) cw_X12_346 (wm_0 g μ) rfl rfl rfl (Nat.le_of_ble_eq_true rfl) dX12_whyNot_174 (by decide)) (fun H locs hW => ?_)
  refine lv_if_ne (tgt := 189) hx hb dX12_whyNot_177 (by decide) (fun hc19 => ?_) (fun hc19 => ?_)
  · replace h := if_n hc19 h
    obtain rfl := k2 _ (Option.some.inj h).symm
    exact kx0 _ _ _ (lv_sub hl [0, 2, 3] rfl) hW
  · replace h := if_p hc19 h
    refine lv_iload hx hb dX12_whyNot_180 (lv_at hl 3 rfl) ?_
    refine lv_iconst (v := 1) hx hb dX12_whyNot_182 (by decide) ?_
    refine lv_iadd hx hb dX12_whyNot_183 ?_
    refine lv_istore (lv' := [(5, .int (xs5 + 1)), (0, .ref (ad g 0)), (1, .int a1), (3, .int a3)]) hx hb dX12_whyNot_184 hl (by decide) rfl (fun ls hl => ?_)
    refine lv_goto (tgt := 164) hx hb dX12_whyNot_186 (by decide) ?_
    exact k1 (xs5 + 1) (Option.some.inj h).symm _ _ _ (lv_sub hl [1, 2, 3, 0] rfl) hW
set_option maxHeartbeats 4000000 in
set_option maxRecDepth 100000 in
theorem tj_md_whyNot_149 {μ : Mm} (a1 : Int32) (a2 : Int32) (a3 : Int32) (hC : Cx g RX12 cX12_whyNot 6 p s m args c) (hr : meth.sig.returnType = some .int) (hlocks : meth.locks = false) {v : Int32} (hl : lv_has ls 6 [(0, .ref (ad g 0)), (1, .int a1), (2, .int a2), (3, .int a3)]) (hW : wP g wm A s.heap μ H locs) (h : md_whyNot_j149 μ a1 a2 a3 = some v) : W p l e (rmD 5) s m args below meth c H locs 0 0 (MQ below (Qi g A wm v μ) args s 0 0 A) (F0 m 149 ls []) := by
  obtain ⟨hx, hb, hml, hown, hts, hK, hN⟩ := id hC
  unfold md_whyNot_j149 at h
  refine lv_aload_n hx hb dX12_whyNot_149 rfl (lv_at hl 0 rfl) ?_
  refine lv_iload_n hx hb dX12_whyNot_150 rfl (lv_at hl 1 rfl) ?_
  refine lv_iload_n hx hb dX12_whyNot_151 rfl (lv_at hl 2 rfl) ?_
  refine lv_iload_n hx hb dX12_whyNot_152 rfl (lv_at hl 3 rfl) ?_
  obtain ⟨x15, hx15, h⟩ := mbv_some h
  refine kr_ci hC hW (kr_runV hC hW hl.1 (t_md_isAskedAhead hx15) cw_X12_391 (wm_0 g μ) rfl rfl rfl (Nat.le_of_ble_eq_true rfl) dX12_whyNot_153 (by decide)) (fun H locs hW => ?_)
  refine lv_if_eq (tgt := 161) hx hb dX12_whyNot_156 (by decide) (fun hc16 => ?_) (fun hc16 => ?_)
  · replace h := if_p hc16 h
    refine lv_iconst (v := 0) hx hb dX12_whyNot_161 (by decide) ?_
    refine lv_istore (lv' := [(5, .int 0), (0, .ref (ad g 0)), (1, .int a1), (2, .int a2), (3, .int a3)]) hx hb dX12_whyNot_162 hl (by decide) rfl (fun ls hl => ?_)
    obtain ⟨x20, he25, h⟩ := mbv_some h
    refine tl_md_whyNot_164 μ a1 a3 hC (fun ls H locs hl hW => ?_) FU 0 he25 _ _ _ (lv_sub hl [1, 2, 4, 0] rfl) hW
    refine lv_aload_n hx hb dX12_whyNot_189 rfl (lv_at hl 0 rfl) ?_
    refine lv_aload_n hx hb dX12_whyNot_190 rfl (lv_at hl 0 rfl) ?_
    refine lv_iload_n hx hb dX12_whyNot_191 rfl (lv_at hl 1 rfl) ?_
    refine lv_iload hx hb dX12_whyNot_192 (lv_at hl 2 rfl) ?_
    obtain ⟨x21, hx21, h⟩ := mbv_some h
    refine kr_cl hC hW (kr_runV hC hW hl.1 (t_md_aboardOf hx21) cw_X12_379 (wm_0 g μ) rfl rfl rfl (Nat.le_of_ble_eq_true rfl) dX12_whyNot_194 (by decide)) (fun H locs hW => ?_)
    obtain ⟨x22, hx22, h⟩ := mbv_some h
    refine kr_ci hC hW (kr_runV hC hW hl.1 (t_md_lengthOfSet hx22) cw_X12_394 (wm_0 g μ) rfl rfl rfl (Nat.le_of_ble_eq_true rfl) dX12_whyNot_197 (by decide)) (fun H locs hW => ?_)
    refine lv_aload_n hx hb dX12_whyNot_200 rfl (lv_at hl 0 rfl) ?_
    refine gf_X12_34_m0 hC hW dX12_whyNot_201 ?_
    refine lv_iload hx hb dX12_whyNot_204 (lv_at hl 2 rfl) ?_
    obtain ⟨x23, ex23, hin, h⟩ := mrd_ex h
    refine kr_iald hC hW (wm_9 g μ) hin ex23 dX12_whyNot_206 ?_
    refine lv_icmp_le (tgt := 215) hx hb dX12_whyNot_207 (by decide) (fun hc24 => ?_) (fun hc24 => ?_)
    · replace h := if_p hc24 h
      refine lv_iconst (v := 0) hx hb dX12_whyNot_215 (by decide) ?_
      cases h
      exact kr_iret hC hr hlocks hW dX12_whyNot_216
    · replace h := if_n hc24 h
      refine lv_bipush (v := 6) hx hb dX12_whyNot_210 (by decide) ?_
      refine lv_goto (tgt := 216) hx hb dX12_whyNot_212 (by decide) ?_
      cases h
      exact kr_iret hC hr hlocks hW dX12_whyNot_216
  · replace h := if_n hc16 h
    refine lv_iconst (v := 5) hx hb dX12_whyNot_159 (by decide) ?_
    cases h
    exact kr_iret hC hr hlocks hW dX12_whyNot_160
set_option maxHeartbeats 4000000 in
set_option maxRecDepth 100000 in
theorem tj_md_whyNot_108 {μ : Mm} (a1 : Int32) (a2 : Int32) (a3 : Int32) (a4 : Int32) (hC : Cx g RX12 cX12_whyNot 6 p s m args c) (hr : meth.sig.returnType = some .int) (hlocks : meth.locks = false) {v : Int32} (hl : lv_has ls 6 [(0, .ref (ad g 0)), (1, .int a1), (2, .int a2), (3, .int a3), (4, .int a4)]) (hW : wP g wm A s.heap μ H locs) (h : md_whyNot_j108 μ a1 a2 a3 a4 = some v) : W p l e (rmD 5) s m args below meth c H locs 0 0 (MQ below (Qi g A wm v μ) args s 0 0 A) (F0 m 108 ls []) := by
  obtain ⟨hx, hb, hml, hown, hts, hK, hN⟩ := id hC
  unfold md_whyNot_j108 at h
  refine lv_iload_n hx hb dX12_whyNot_108 rfl (lv_at hl 3 rfl) ?_
  refine lv_aload_n hx hb dX12_whyNot_109 rfl (lv_at hl 0 rfl) ?_
  refine gf_X12_196_m0 hC hW dX12_whyNot_110 ?_
  refine lv_icmp_ne (tgt := 149) hx hb dX12_whyNot_113 (by decide) (fun hc14 => ?_) (fun hc14 => ?_)
  · replace h := if_n hc14 h
    exact tj_md_whyNot_149 a1 a2 a3 hC hr hlocks (lv_sub hl [0, 1, 2, 3] rfl) hW h
  · replace h := if_p hc14 h
    refine lv_iload hx hb dX12_whyNot_116 (lv_at hl 4 rfl) ?_
    refine lv_iconst (v := 1) hx hb dX12_whyNot_118 (by decide) ?_
    refine lv_iconst (v := 3) hx hb dX12_whyNot_119 (by decide) ?_
    obtain ⟨x26, hx26, h⟩ := mbv_some h
    refine kr_ci hC hW (kr_runS hC hW hl.1 (t_md_in hx26) cw_X12_199 rfl rfl (Nat.le_of_ble_eq_true rfl) dX12_whyNot_120 (by decide)) (fun H locs hW => ?_)
    refine lv_if_eq (tgt := 149) hx hb dX12_whyNot_123 (by decide) (fun hc27 => ?_) (fun hc27 => ?_)
    · replace h := if_p hc27 h
      exact tj_md_whyNot_149 a1 a2 a3 hC hr hlocks (lv_sub hl [0, 1, 2, 3] rfl) hW h
    · replace h := if_n hc27 h
      refine lv_aload_n hx hb dX12_whyNot_126 rfl (lv_at hl 0 rfl) ?_
      refine lv_iload hx hb dX12_whyNot_127 (lv_at hl 4 rfl) ?_
      refine lv_iconst (v := 1) hx hb dX12_whyNot_129 (by decide) ?_
      refine lv_isub hx hb dX12_whyNot_130 ?_
      refine lv_aload_n hx hb dX12_whyNot_131 rfl (lv_at hl 0 rfl) ?_
      refine gf_X12_52_m0 hC hW dX12_whyNot_132 ?_
      refine lv_iload_n hx hb dX12_whyNot_135 rfl (lv_at hl 1 rfl) ?_
      obtain ⟨x28, ex28, hin, h⟩ := mrd_ex h
      refine kr_iald hC hW (wm_15 g μ) hin ex28 dX12_whyNot_136 ?_
      refine lv_aload_n hx hb dX12_whyNot_137 rfl (lv_at hl 0 rfl) ?_
      refine gf_X12_196_m0 hC hW dX12_whyNot_138 ?_
      obtain ⟨x29, hx29, h⟩ := mbv_some h
      refine kr_ci hC hW (kr_runV hC hW hl.1 (t_md_isVisited hx29) cw_X12_346 (wm_0 g μ) rfl rfl rfl (Nat.le_of_ble_eq_true rfl) dX12_whyNot_141 (by decide)) (fun H locs hW => ?_)
      refine lv_if_ne (tgt := 149) hx hb dX12_whyNot_144 (by decide) (fun hc30 => ?_) (fun hc30 => ?_)
      · replace h := if_n hc30 h
        exact tj_md_whyNot_149 a1 a2 a3 hC hr hlocks (lv_sub hl [0, 1, 2, 3] rfl) hW h
      · replace h := if_p hc30 h
        refine lv_iconst (v := 4) hx hb dX12_whyNot_147 (by decide) ?_
        cases h
        exact kr_iret hC hr hlocks hW dX12_whyNot_148
set_option maxHeartbeats 4000000 in
set_option maxRecDepth 100000 in
theorem t_md_whyNot {l : Launch} {g : Gx} {A : Nat → Prop} {μ : Mm} {a1 : Int32} {a2 : Int32} {v : Int32} (h : md_whyNot μ a1 a2 = some v) : Cti l g A wm yX12_whyNot cX12_whyNot 6 (some .int) 5 [.ref (ad g 0), .int a1, .int a2] μ v μ := by
  refine ent (lv := [(0, .ref (ad g 0)), (1, .int a1), (2, .int a2)]) (by decide) (Nat.le_of_ble_eq_true rfl) rfl ?_
  intro p e s m args below meth c hC hr hlocks hnm hW ls hl
  replace hC : Cx g RX12 cX12_whyNot 6 p s m args c := hC
  obtain ⟨hx, hb, hml, hown, hts, hK, hN⟩ := id hC
  unfold md_whyNot at h
  refine lv_aload_n hx hb dX12_whyNot_0 rfl (lv_at hl 0 rfl) ?_
  refine lv_iload_n hx hb dX12_whyNot_1 rfl (lv_at hl 1 rfl) ?_
  obtain ⟨x1, hx1, h⟩ := mbv_some h
  refine kr_ci hC hW (kr_runV hC hW hl.1 (t_md_isReader hx1) cw_X12_214 (wm_0 g μ) rfl rfl rfl (Nat.le_of_ble_eq_true rfl) dX12_whyNot_2 (by decide)) (fun H locs hW => ?_)
  refine lv_if_eq (tgt := 16) hx hb dX12_whyNot_5 (by decide) (fun hc2 => ?_) (fun hc2 => ?_)
  · replace h := if_p hc2 h
    refine lv_iconst (v := (-1)) hx hb dX12_whyNot_16 (by decide) ?_
    cases h
    exact kr_iret hC hr hlocks hW dX12_whyNot_17
  · replace h := if_n hc2 h
    refine lv_aload_n hx hb dX12_whyNot_8 rfl (lv_at hl 0 rfl) ?_
    refine lv_iload_n hx hb dX12_whyNot_9 rfl (lv_at hl 2 rfl) ?_
    obtain ⟨x3, hx3, h⟩ := mbv_some h
    refine kr_ci hC hW (kr_runV hC hW hl.1 (t_md_isBook hx3) cw_X12_217 (wm_0 g μ) rfl rfl rfl (Nat.le_of_ble_eq_true rfl) dX12_whyNot_10 (by decide)) (fun H locs hW => ?_)
    refine lv_if_ne (tgt := 18) hx hb dX12_whyNot_13 (by decide) (fun hc4 => ?_) (fun hc4 => ?_)
    · replace h := if_n hc4 h
      refine lv_aload_n hx hb dX12_whyNot_18 rfl (lv_at hl 0 rfl) ?_
      refine gf_X12_67_m0 hC hW dX12_whyNot_19 ?_
      refine lv_bipush (v := 32) hx hb dX12_whyNot_22 (by decide) ?_
      refine lv_iload_n hx hb dX12_whyNot_24 rfl (lv_at hl 1 rfl) ?_
      refine lv_imul hx hb dX12_whyNot_25 ?_
      refine lv_iload_n hx hb dX12_whyNot_26 rfl (lv_at hl 2 rfl) ?_
      refine lv_iadd hx hb dX12_whyNot_27 ?_
      obtain ⟨x5, ex5, hin, h⟩ := mrd_ex h
      refine kr_iald hC hW (wm_20 g μ) hin ex5 dX12_whyNot_28 ?_
      refine lv_istore_n (lv' := [(3, .int x5), (0, .ref (ad g 0)), (1, .int a1), (2, .int a2)]) hx hb dX12_whyNot_29 rfl hl (by decide) rfl (fun ls hl => ?_)
      refine lv_iload_n hx hb dX12_whyNot_30 rfl (lv_at hl 0 rfl) ?_
      refine lv_iconst (v := (-1)) hx hb dX12_whyNot_31 (by decide) ?_
      refine lv_icmp_eq (tgt := 43) hx hb dX12_whyNot_32 (by decide) (fun hc6 => ?_) (fun hc6 => ?_)
      · replace h := if_p hc6 h
        refine lv_iconst (v := (-1)) hx hb dX12_whyNot_43 (by decide) ?_
        cases h
        exact kr_iret hC hr hlocks hW dX12_whyNot_44
      · replace h := if_n hc6 h
        refine lv_iload_n hx hb dX12_whyNot_35 rfl (lv_at hl 0 rfl) ?_
        refine lv_aload_n hx hb dX12_whyNot_36 rfl (lv_at hl 1 rfl) ?_
        refine gf_X12_196_m0 hC hW dX12_whyNot_37 ?_
        refine lv_icmp_ge (tgt := 45) hx hb dX12_whyNot_40 (by decide) (fun hc7 => ?_) (fun hc7 => ?_)
        · replace h := if_p hc7 h
          refine lv_aload_n hx hb dX12_whyNot_45 rfl (lv_at hl 1 rfl) ?_
          refine gf_X12_22_m0 hC hW dX12_whyNot_46 ?_
          refine lv_iload_n hx hb dX12_whyNot_49 rfl (lv_at hl 3 rfl) ?_
          obtain ⟨x8, ex8, hin, h⟩ := mrd_ex h
          refine kr_iald hC hW (wm_5 g μ) hin ex8 dX12_whyNot_50 ?_
          refine lv_istore (lv' := [(4, .int x8), (3, .int x5), (0, .ref (ad g 0)), (1, .int a1), (2, .int a2)]) hx hb dX12_whyNot_51 hl (by decide) rfl (fun ls hl => ?_)
          refine lv_iload hx hb dX12_whyNot_53 (lv_at hl 0 rfl) ?_
          refine lv_bipush (v := 40) hx hb dX12_whyNot_55 (by decide) ?_
          refine lv_icmp_ne (tgt := 62) hx hb dX12_whyNot_57 (by decide) (fun hc9 => ?_) (fun hc9 => ?_)
          · replace h := if_n hc9 h
            refine lv_aload_n hx hb dX12_whyNot_62 rfl (lv_at hl 2 rfl) ?_
            refine lv_aload_n hx hb dX12_whyNot_63 rfl (lv_at hl 2 rfl) ?_
            refine gf_X12_52_m0 hC hW dX12_whyNot_64 ?_
            refine lv_iload_n hx hb dX12_whyNot_67 rfl (lv_at hl 3 rfl) ?_
            obtain ⟨x10, ex10, hin, h⟩ := mrd_ex h
            refine kr_iald hC hW (wm_15 g μ) hin ex10 dX12_whyNot_68 ?_
            refine lv_iload_n hx hb dX12_whyNot_69 rfl (lv_at hl 1 rfl) ?_
            obtain ⟨x11, hx11, h⟩ := mbv_some h
            refine kr_ci hC hW (kr_runV hC hW hl.1 (t_md_isVisitedByAny hx11) cw_X12_376 (wm_0 g μ) rfl rfl rfl (Nat.le_of_ble_eq_true rfl) dX12_whyNot_70 (by decide)) (fun H locs hW => ?_)
            refine lv_if_ne (tgt := 78) hx hb dX12_whyNot_73 (by decide) (fun hc12 => ?_) (fun hc12 => ?_)
            · replace h := if_n hc12 h
              refine lv_iload hx hb dX12_whyNot_78 (lv_at hl 0 rfl) ?_
              refine lv_bipush (v := 10) hx hb dX12_whyNot_80 (by decide) ?_
              refine lv_icmp_lt (tgt := 108) hx hb dX12_whyNot_82 (by decide) (fun hc13 => ?_) (fun hc13 => ?_)
              · replace h := if_p hc13 h
                exact tj_md_whyNot_108 a1 a2 x5 x8 hC hr hlocks (lv_sub hl [2, 3, 4, 1, 0] rfl) hW h
              · replace h := if_n hc13 h
                refine lv_aload_n hx hb dX12_whyNot_85 rfl (lv_at hl 2 rfl) ?_
                refine lv_iload_n hx hb dX12_whyNot_86 rfl (lv_at hl 3 rfl) ?_
                refine lv_iload_n hx hb dX12_whyNot_87 rfl (lv_at hl 4 rfl) ?_
                obtain ⟨x31, hx31, h⟩ := mbv_some h
                refine kr_ci hC hW (kr_runV hC hW hl.1 (t_md_promised hx31) cw_X12_388 (wm_0 g μ) rfl rfl rfl (Nat.le_of_ble_eq_true rfl) dX12_whyNot_88 (by decide)) (fun H locs hW => ?_)
                refine lv_istore (lv' := [(5, .int x31), (4, .int x8), (3, .int x5), (0, .ref (ad g 0)), (1, .int a1), (2, .int a2)]) hx hb dX12_whyNot_91 hl (by decide) rfl (fun ls hl => ?_)
                refine lv_iload hx hb dX12_whyNot_93 (lv_at hl 0 rfl) ?_
                refine lv_bipush (v := (-2)) hx hb dX12_whyNot_95 (by decide) ?_
                refine lv_icmp_eq (tgt := 106) hx hb dX12_whyNot_97 (by decide) (fun hc32 => ?_) (fun hc32 => ?_)
                · replace h := if_p hc32 h
                  refine lv_iconst (v := 3) hx hb dX12_whyNot_106 (by decide) ?_
                  cases h
                  exact kr_iret hC hr hlocks hW dX12_whyNot_107
                · replace h := if_n hc32 h
                  refine lv_iload hx hb dX12_whyNot_100 (lv_at hl 0 rfl) ?_
                  refine lv_iload_n hx hb dX12_whyNot_102 rfl (lv_at hl 2 rfl) ?_
                  refine lv_icmp_le (tgt := 108) hx hb dX12_whyNot_103 (by decide) (fun hc33 => ?_) (fun hc33 => ?_)
                  · replace h := if_p hc33 h
                    exact tj_md_whyNot_108 a1 a2 x5 x8 hC hr hlocks (lv_sub hl [3, 4, 5, 2, 1] rfl) hW h
                  · replace h := if_n hc33 h
                    refine lv_iconst (v := 3) hx hb dX12_whyNot_106 (by decide) ?_
                    cases h
                    exact kr_iret hC hr hlocks hW dX12_whyNot_107
            · replace h := if_p hc12 h
              refine lv_iconst (v := 2) hx hb dX12_whyNot_76 (by decide) ?_
              cases h
              exact kr_iret hC hr hlocks hW dX12_whyNot_77
          · replace h := if_p hc9 h
            refine lv_iconst (v := 1) hx hb dX12_whyNot_60 (by decide) ?_
            cases h
            exact kr_iret hC hr hlocks hW dX12_whyNot_61
        · replace h := if_n hc7 h
          refine lv_iconst (v := (-1)) hx hb dX12_whyNot_43 (by decide) ?_
          cases h
          exact kr_iret hC hr hlocks hW dX12_whyNot_44
    · replace h := if_p hc4 h
      refine lv_iconst (v := (-1)) hx hb dX12_whyNot_16 (by decide) ?_
      cases h
      exact kr_iret hC hr hlocks hW dX12_whyNot_17
set_option maxHeartbeats 4000000 in
set_option maxRecDepth 100000 in
theorem tl_md_asksFrom_2 (μ : Mm) (a1 : Int32) (a2 : Int32) (hC : Cx g RX12 cX12_asksFrom 4 p s m args c) {e0 : (Unit) ⊕ (Unit)} (kx0 : (Sum.elim (fun a => ∀ (ls : Array Slot) (H : Heap) (locs : List Loc), lv_has ls 4 [] → wP g wm A s.heap μ H locs → W p l e (rmD 0) s m args below meth c H locs 0 0 Q (F0 m 38 ls [])) (fun _ => True)) e0) (kx1 : (Sum.elim (fun _ => True) (fun a => ∀ (ls : Array Slot) (H : Heap) (locs : List Loc), lv_has ls 4 [] → wP g wm A s.heap μ H locs → W p l e (rmD 0) s m args below meth c H locs 0 0 Q (F0 m 46 ls []))) e0) : ∀ (n : Nat) (q : Int32), miter (fun q => md_asksFrom_b2 μ a1 a2 q) n q = some e0 → ∀ (ls : Array Slot) (H : Heap) (locs : List Loc), lv_has ls 4 [(0, .ref (ad g 0)), (1, .int a1), (2, .int a2), (3, .int q)] → wP g wm A s.heap μ H locs → W p l e (rmD 0) s m args below meth c H locs 0 0 Q (F0 m 2 ls []) := by
  obtain ⟨hx, hb, hml, hown, hts, hK, hN⟩ := id hC
  refine miter_ind (fun q r hf k1 k2 => ?_)
  obtain ⟨xs3, rfl⟩ : ∃ z, z = q := ⟨_, rfl⟩
  intro ls H locs hl hW
  have h : md_asksFrom_b2 μ a1 a2 xs3 = some r := hf
  unfold md_asksFrom_b2 at h
  refine lv_iload_n hx hb dX12_asksFrom_2 rfl (lv_at hl 3 rfl) ?_
  refine lv_aload_n hx hb dX12_asksFrom_3 rfl (lv_at hl 0 rfl) ?_
  refine gf_X12_187_m0 hC hW dX12_asksFrom_4 ?_
  refine lv_icmp_ge (tgt := 46) hx hb dX12_asksFrom_7 (by decide) (fun hc1 => ?_) (fun hc1 => ?_)
  · replace h := if_p hc1 h
    obtain rfl := k2 _ (Option.some.inj h).symm
    exact kx1 _ _ _ (lv_sub hl [] rfl) hW
  · replace h := if_n hc1 h
    refine lv_aload_n hx hb dX12_asksFrom_10 rfl (lv_at hl 0 rfl) ?_
    refine gf_X12_67_m0 hC hW dX12_asksFrom_11 ?_
    refine lv_bipush (v := 32) hx hb dX12_asksFrom_14 (by decide) ?_
    refine lv_iload_n hx hb dX12_asksFrom_16 rfl (lv_at hl 1 rfl) ?_
    refine lv_imul hx hb dX12_asksFrom_17 ?_
    refine lv_iload_n hx hb dX12_asksFrom_18 rfl (lv_at hl 3 rfl) ?_
    refine lv_iadd hx hb dX12_asksFrom_19 ?_
    obtain ⟨x2, ex2, hin, h⟩ := mrd_ex h
    refine kr_iald hC hW (wm_20 g μ) hin ex2 dX12_asksFrom_20 ?_
    refine lv_iconst (v := (-1)) hx hb dX12_asksFrom_21 (by decide) ?_
    refine lv_icmp_eq (tgt := 40) hx hb dX12_asksFrom_22 (by decide) (fun hc3 => ?_) (fun hc3 => ?_)
    · replace h := if_p hc3 h
      refine lv_iinc (v := (xs3 + 1)) (lv' := [(3, .int (xs3 + 1)), (0, .ref (ad g 0)), (1, .int a1), (2, .int a2)]) hx hb dX12_asksFrom_40 hl (k := 3) rfl (by rw [oi_1]) (by decide) rfl (fun ls hl => ?_)
      refine lv_goto (tgt := 2) hx hb dX12_asksFrom_43 (by decide) ?_
      exact k1 (xs3 + 1) (Option.some.inj h).symm _ _ _ (lv_sub hl [1, 2, 3, 0] rfl) hW
    · replace h := if_n hc3 h
      refine lv_aload_n hx hb dX12_asksFrom_25 rfl (lv_at hl 0 rfl) ?_
      refine gf_X12_22_m0 hC hW dX12_asksFrom_26 ?_
      refine lv_iload_n hx hb dX12_asksFrom_29 rfl (lv_at hl 3 rfl) ?_
      obtain ⟨x4, ex4, hin, h⟩ := mrd_ex h
      refine kr_iald hC hW (wm_5 g μ) hin ex4 dX12_asksFrom_30 ?_
      refine lv_bipush (v := 10) hx hb dX12_asksFrom_31 (by decide) ?_
      refine lv_iload_n hx hb dX12_asksFrom_33 rfl (lv_at hl 2 rfl) ?_
      refine lv_iadd hx hb dX12_asksFrom_34 ?_
      refine lv_icmp_ne (tgt := 40) hx hb dX12_asksFrom_35 (by decide) (fun hc5 => ?_) (fun hc5 => ?_)
      · replace h := if_n hc5 h
        refine lv_iinc (v := (xs3 + 1)) (lv' := [(3, .int (xs3 + 1)), (0, .ref (ad g 0)), (1, .int a1), (2, .int a2)]) hx hb dX12_asksFrom_40 hl (k := 3) rfl (by rw [oi_1]) (by decide) rfl (fun ls hl => ?_)
        refine lv_goto (tgt := 2) hx hb dX12_asksFrom_43 (by decide) ?_
        exact k1 (xs3 + 1) (Option.some.inj h).symm _ _ _ (lv_sub hl [1, 2, 3, 0] rfl) hW
      · replace h := if_p hc5 h
        obtain rfl := k2 _ (Option.some.inj h).symm
        exact kx0 _ _ _ (lv_sub hl [] rfl) hW
set_option maxHeartbeats 4000000 in
set_option maxRecDepth 100000 in
theorem t_md_asksFrom {l : Launch} {g : Gx} {A : Nat → Prop} {μ : Mm} {a1 : Int32} {a2 : Int32} {v : Bool} (h : md_asksFrom μ a1 a2 = some v) : Cti l g A wm yX12_asksFrom cX12_asksFrom 4 (some .boolean) 0 [.ref (ad g 0), .int a1, .int a2] μ (bI v) μ := by
  refine ent (lv := [(0, .ref (ad g 0)), (1, .int a1), (2, .int a2)]) (by decide) (Nat.le_of_ble_eq_true rfl) rfl ?_
  intro p e s m args below meth c hC hr hlocks hnm hW ls hl
  replace hC : Cx g RX12 cX12_asksFrom 4 p s m args c := hC
  obtain ⟨hx, hb, hml, hown, hts, hK, hN⟩ := id hC
  unfold md_asksFrom at h
  refine lv_iconst (v := 0) hx hb dX12_asksFrom_0 (by decide) ?_
  refine lv_istore_n (lv' := [(3, .int 0), (0, .ref (ad g 0)), (1, .int a1), (2, .int a2)]) hx hb dX12_asksFrom_1 rfl hl (by decide) rfl (fun ls hl => ?_)
  rcases msum2_ex h with ⟨e0, he6, h⟩ | ⟨e0, he6, h⟩
  · refine tl_md_asksFrom_2 μ a1 a2 hC (e0 := (.inl ())) (fun ls H locs hl hW => ?_) trivial FU 0 he6 _ _ _ (lv_sub hl [1, 2, 3, 0] rfl) hW
    refine lv_iconst (v := 1) hx hb dX12_asksFrom_38 (by decide) ?_
    cases h
    exact kr_zret hC hr hlocks _ rfl hW dX12_asksFrom_39
  · refine tl_md_asksFrom_2 μ a1 a2 hC (e0 := (.inr ())) trivial (fun ls H locs hl hW => ?_) FU 0 he6 _ _ _ (lv_sub hl [1, 2, 3, 0] rfl) hW
    refine lv_iconst (v := 0) hx hb dX12_asksFrom_46 (by decide) ?_
    cases h
    exact kr_zret hC hr hlocks _ rfl hW dX12_asksFrom_47
end
