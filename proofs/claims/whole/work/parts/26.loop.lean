def ST_all (Rel : Mm → Mm → Prop) : Prop := ST_now Rel ∧ ST_book Rel ∧ ST_shelf Rel ∧ ST_stop Rel ∧ ST_visit Rel ∧ ST_reader Rel ∧ ST_taste Rel ∧ ST_had Rel ∧ ST_feed Rel ∧ ST_law Rel ∧ ST_wants Rel ∧ ST_visits Rel ∧ ST_move Rel ∧ ST_lend Rel ∧ ST_back Rel ∧ ST_lost Rel ∧ ST_bookIs Rel ∧ ST_readerIs Rel ∧ ST_pays Rel ∧ ST_ask Rel ∧ ST_unask Rel ∧ ST_aboard Rel ∧ ST_promise Rel ∧ ST_whyNot Rel ∧ ST_ring Rel ∧ ST_load Rel ∧ ST_served Rel ∧ ST_least Rel ∧ ST_dull Rel ∧ ST_onward Rel ∧ ST_different Rel ∧ ST_pace Rel ∧ ST_round Rel ∧ ST_went Rel ∧ ST_lostDay Rel ∧ ST_put Rel ∧ ST_knownIn Rel ∧ ST_where Rel ∧ ST_counts Rel ∧ ST_council Rel ∧ ST_check Rel ∧ ST_count Rel
theorem kl_room {L i : Nat} (hL : L ≤ 3072) (h6 : 6 * i ≤ L) (hc : ¬ (Int32.ofNat L - 6 < nI (6 * i))) : 6 * i + 6 ≤ L := by
  rcases Nat.lt_or_ge L (6 * i + 6) with h | h
  · exfalso
    refine hc ?_
    rw [Int32.lt_iff_toInt_lt, nI_toInt (by omega)]
    have e : (Int32.ofNat L - 6) = nI L - nI 6 := rfl
    rw [e, pk_sub_toInt (by omega) (by omega)]
    omega
  · exact h
set_option maxHeartbeats 8000000 in
set_option maxRecDepth 100000 in
theorem law_loop {p : Program} {l : Launch} {e : Env} {s : State} {m : MethodId} {below : List Frame} {meth : Method} {c : Code} {D : va_G} {cs : ClassId × ClassId × ClassId} {β : Nat → Nat} {Rel : Mm → Mm → Prop} {b L : Nat} {xs : Nat → Int32} {ax : Nat} (hall : ST_all Rel) (hX : va_X b L xs s s.heap) (hbl : b < s.heap.size) (hL : L ≤ 3072) (hr : meth.sig.returnType = ret) (hlocks : meth.locks = false) :
    ∀ (n i : Nat) (α : Nat → Nat) (μ ν : Mm) (H : Heap) (locs : List Loc) (ls : Array Slot) (cells slots : Nat), L + 1 ≤ i + n → 6 * i ≤ L → cells ≤ 2000 + i → slots ≤ 100000 + 5 * i → ad (gx D cs α) 0 = ax → Rel μ ν → Cx (gx D cs α) RL code 4 p s m #[Value.ref b] c → wA (gx D cs α) (wx (gx D cs α) μ ++ wm (gx D cs β) ν) (fun q => s.heap.size ≤ q) s.heap H locs → lv_has ls 4 [(0, .ref b), (1, .ref (ad (gx D cs α) 0)), (2, .ref (ad (gx D cs β) 0)), (3, .int (nI (6 * i)))] → W p l e room_1 s m #[Value.ref b] below meth c H locs cells slots (lw_Z below #[Value.ref b] s) (F0 m 18 ls []) := by
  intro n
  induction n with
  | zero => intro i α μ ν H locs ls cells slots h1 h2; exact absurd h2 (by omega)
  | succ n ih =>
    intro i α μ ν H locs ls cells slots hn h6 hc1 hc2 hα hRel hC hW hl
    obtain ⟨hx, hb, hml, hown, hts, hK, hN⟩ := id hC
    obtain ⟨s_now, s_book, s_shelf, s_stop, s_visit, s_reader, s_taste, s_had, s_feed, s_law, s_wants, s_visits, s_move, s_lend, s_back, s_lost, s_bookIs, s_readerIs, s_pays, s_ask, s_unask, s_aboard, s_promise, s_whyNot, s_ring, s_load, s_served, s_least, s_dull, s_onward, s_different, s_pace, s_round, s_went, s_lostDay, s_put, s_knownIn, s_where, s_counts, s_council, s_check, s_count⟩ := id hall
    refine lv_iload_n hx hb dL_law_18 rfl (lv_at hl 3 rfl) ?_
    refine lv_aload_n hx hb dL_law_19 rfl (lv_at hl 0 rfl) ?_
    refine va_slen hx hb hX hbl (Nat.not_le.mpr hbl) hW.2.2.1 dL_law_20 ?_
    refine lv_bipush (v := 6) hx hb dL_law_21 (by decide) ?_
    refine lv_isub hx hb dL_law_23 ?_
    refine lv_icmp_gt (tgt := 1757) hx hb dL_law_24 (by decide) (fun hc => ?_) (fun hc => ?_)
    · refine lv_iconst (v := 1) hx hb dL_law_1757 (by decide) ?_
      refine va_forget (fun q hq => hW.2.2.1.2.2 q hq) ?_
      refine W.widen (k := 600000) (n := 7302250) (by omega) (by omega) ?_
      exact lw_ret hx hb hr hlocks dL_law_1758
    have hi : 6 * i + 6 ≤ L := kl_room hL h6 hc
    refine lv_aload_n hx hb dL_law_27 rfl (lv_at hl 0 rfl) ?_
    refine lv_iload_n hx hb dL_law_28 rfl (lv_at hl 3 rfl) ?_
    refine kl_l0 hC hX hbl hi hL hW dL_law_29 ?_
    refine lv_bipush (v := 63) hx hb dL_law_30 (by decide) ?_
    refine lv_iand hx hb dL_law_32 ?_
    have hcs : cells + 1 ≤ 600000 ∧ slots + 5 ≤ 7302250 := by omega
    have kend : ∀ {H : Heap} {locs : List Loc} {ls : Array Slot} (z : Nat → Nat) (μ ν : Mm), z 0 = ad (gx D cs α) 0 → Rel μ ν → wA (gx D cs α) (wx (gx D cs z) μ ++ wm (gx D cs β) ν) (fun q => s.heap.size ≤ q) s.heap H locs → lv_has ls 4 [(0, .ref b), (1, .ref (ad (gx D cs α) 0)), (2, .ref (ad (gx D cs β) 0)), (3, .int (nI (6 * i)))] → W p l e room_1 s m #[Value.ref b] below meth c H locs (cells + 1) (slots + 5) (lw_Z below #[Value.ref b] s) (F0 m 1751 ls []) := by
      intro H locs ls z μ ν hz hR hW hl
      refine lv_iinc (v := nI (6 * (i + 1))) (lv' := [(3, .int (nI (6 * (i + 1)))), (0, .ref b), (1, .ref (ad (gx D cs α) 0)), (2, .ref (ad (gx D cs β) 0))]) hx hb dL_law_1751 hl (k := 3) rfl (by rw [show Int32.ofInt 6 = nI 6 from (by decide), nI_add, Nat.mul_succ]) (by decide) rfl (fun ls hl => ?_)
      refine lv_goto (tgt := 18) hx hb dL_law_1754 (by decide) ?_
      refine ih (i + 1) z μ ν _ _ ls _ _ (by omega) (by omega) (by omega) (by omega) (hz.trans hα) hR hC hW ?_
      have h9 := lv_sub hl [1, 2, 3, 0] rfl
      rw [← hz] at h9
      exact h9
    obtain ⟨x, hxv⟩ : ∃ z, z = (xs (6 * i) &&& 63) := ⟨_, rfl⟩
    rw [← hxv]
    by_cases h0 : x = 0
    · refine lv_tableIn (off := 183) (tgt := 216) hx hb dL_law_33 (by rw [h0]; decide) (by rw [h0]; decide) (by rw [h0]; rfl) (by decide) ?_
      exact lc_0 hC hX hbl hi hL s_now hRel hcs hW hl kend
    by_cases h1 : x = 1
    · refine lv_tableIn (off := 206) (tgt := 239) hx hb dL_law_33 (by rw [h1]; decide) (by rw [h1]; decide) (by rw [h1]; rfl) (by decide) ?_
      exact lc_1 hC hX hbl hi hL s_book hRel hcs hW hl kend
    by_cases h2 : x = 2
    · refine lv_tableIn (off := 259) (tgt := 292) hx hb dL_law_33 (by rw [h2]; decide) (by rw [h2]; decide) (by rw [h2]; rfl) (by decide) ?_
      exact lc_2 hC hX hbl hi hL s_shelf hRel hcs hW hl kend
    by_cases h3 : x = 3
    · refine lv_tableIn (off := 292) (tgt := 325) hx hb dL_law_33 (by rw [h3]; decide) (by rw [h3]; decide) (by rw [h3]; rfl) (by decide) ?_
      exact lc_3 hC hX hbl hi hL s_stop hRel hcs hW hl kend
    by_cases h4 : x = 4
    · refine lv_tableIn (off := 335) (tgt := 368) hx hb dL_law_33 (by rw [h4]; decide) (by rw [h4]; decide) (by rw [h4]; rfl) (by decide) ?_
      exact lc_4 hC hX hbl hi hL s_visit hRel hcs hW hl kend
    by_cases h5 : x = 5
    · refine lv_tableIn (off := 378) (tgt := 411) hx hb dL_law_33 (by rw [h5]; decide) (by rw [h5]; decide) (by rw [h5]; rfl) (by decide) ?_
      exact lc_5 hC hX hbl hi hL s_reader hRel hcs hW hl kend
    by_cases h6 : x = 6
    · refine lv_tableIn (off := 411) (tgt := 444) hx hb dL_law_33 (by rw [h6]; decide) (by rw [h6]; decide) (by rw [h6]; rfl) (by decide) ?_
      exact lc_6 hC hX hbl hi hL s_taste hRel hcs hW hl kend
    by_cases h7 : x = 7
    · refine lv_tableIn (off := 454) (tgt := 487) hx hb dL_law_33 (by rw [h7]; decide) (by rw [h7]; decide) (by rw [h7]; rfl) (by decide) ?_
      exact lc_7 hC hX hbl hi hL s_had hRel hcs hW hl kend
    by_cases h8 : x = 8
    · refine lv_tableIn (off := 487) (tgt := 520) hx hb dL_law_33 (by rw [h8]; decide) (by rw [h8]; decide) (by rw [h8]; rfl) (by decide) ?_
      exact lc_8 hC hX hbl hi hL s_feed hRel hcs hW hl kend
    by_cases h9 : x = 9
    · refine lv_tableIn (off := 550) (tgt := 583) hx hb dL_law_33 (by rw [h9]; decide) (by rw [h9]; decide) (by rw [h9]; rfl) (by decide) ?_
      exact lc_9 hC hX hbl hi hL s_law hRel hcs hW hl kend
    by_cases h10 : x = 10
    · refine lv_tableIn (off := 573) (tgt := 606) hx hb dL_law_33 (by rw [h10]; decide) (by rw [h10]; decide) (by rw [h10]; rfl) (by decide) ?_
      exact lc_10 hC hX hbl hi hL s_wants hRel hcs hW hl kend
    by_cases h11 : x = 11
    · refine lv_tableIn (off := 632) (tgt := 665) hx hb dL_law_33 (by rw [h11]; decide) (by rw [h11]; decide) (by rw [h11]; rfl) (by decide) ?_
      exact lc_11 hC hX hbl hi hL s_visits hRel hcs hW hl kend
    by_cases h12 : x = 12
    · refine lv_tableIn (off := 675) (tgt := 708) hx hb dL_law_33 (by rw [h12]; decide) (by rw [h12]; decide) (by rw [h12]; rfl) (by decide) ?_
      exact lc_12 hC hX hbl hi hL s_move hRel hcs hW hl kend
    by_cases h13 : x = 13
    · refine lv_tableIn (off := 708) (tgt := 741) hx hb dL_law_33 (by rw [h13]; decide) (by rw [h13]; decide) (by rw [h13]; rfl) (by decide) ?_
      exact lc_13 hC hX hbl hi hL s_lend hRel hcs hW hl kend
    by_cases h14 : x = 14
    · refine lv_tableIn (off := 741) (tgt := 774) hx hb dL_law_33 (by rw [h14]; decide) (by rw [h14]; decide) (by rw [h14]; rfl) (by decide) ?_
      exact lc_14 hC hX hbl hi hL s_back hRel hcs hW hl kend
    by_cases h15 : x = 15
    · refine lv_tableIn (off := 784) (tgt := 817) hx hb dL_law_33 (by rw [h15]; decide) (by rw [h15]; decide) (by rw [h15]; rfl) (by decide) ?_
      exact lc_15 hC hX hbl hi hL s_lost hRel hcs hW hl kend
    by_cases h16 : x = 16
    · refine lv_tableIn (off := 807) (tgt := 840) hx hb dL_law_33 (by rw [h16]; decide) (by rw [h16]; decide) (by rw [h16]; rfl) (by decide) ?_
      exact lc_16 hC hX hbl hi hL s_bookIs hRel hcs hW hl kend
    by_cases h17 : x = 17
    · refine lv_tableIn (off := 840) (tgt := 873) hx hb dL_law_33 (by rw [h17]; decide) (by rw [h17]; decide) (by rw [h17]; rfl) (by decide) ?_
      exact lc_17 hC hX hbl hi hL s_readerIs hRel hcs hW hl kend
    by_cases h18 : x = 18
    · refine lv_tableIn (off := 873) (tgt := 906) hx hb dL_law_33 (by rw [h18]; decide) (by rw [h18]; decide) (by rw [h18]; rfl) (by decide) ?_
      exact lc_18 hC hX hbl hi hL s_pays hRel hcs hW hl kend
    by_cases h19 : x = 19
    · refine lv_tableIn (off := 906) (tgt := 939) hx hb dL_law_33 (by rw [h19]; decide) (by rw [h19]; decide) (by rw [h19]; rfl) (by decide) ?_
      exact lc_19 hC hX hbl hi hL s_ask hRel hcs hW hl kend
    by_cases h20 : x = 20
    · refine lv_tableIn (off := 949) (tgt := 982) hx hb dL_law_33 (by rw [h20]; decide) (by rw [h20]; decide) (by rw [h20]; rfl) (by decide) ?_
      exact lc_20 hC hX hbl hi hL s_unask hRel hcs hW hl kend
    by_cases h21 : x = 21
    · refine lv_tableIn (off := 982) (tgt := 1015) hx hb dL_law_33 (by rw [h21]; decide) (by rw [h21]; decide) (by rw [h21]; rfl) (by decide) ?_
      exact lc_21 hC hX hbl hi hL s_aboard hRel hcs hW hl kend
    by_cases h22 : x = 22
    · refine lv_tableIn (off := 1016) (tgt := 1049) hx hb dL_law_33 (by rw [h22]; decide) (by rw [h22]; decide) (by rw [h22]; rfl) (by decide) ?_
      exact lc_22 hC hX hbl hi hL s_promise hRel hcs hW hl kend
    by_cases h23 : x = 23
    · refine lv_tableIn (off := 1049) (tgt := 1082) hx hb dL_law_33 (by rw [h23]; decide) (by rw [h23]; decide) (by rw [h23]; rfl) (by decide) ?_
      exact lc_23 hC hX hbl hi hL s_whyNot hRel hcs hW hl kend
    by_cases h24 : x = 24
    · refine lv_tableIn (off := 1082) (tgt := 1115) hx hb dL_law_33 (by rw [h24]; decide) (by rw [h24]; decide) (by rw [h24]; rfl) (by decide) ?_
      exact lc_24 hC hX hbl hi hL s_ring hRel hcs hW hl kend
    by_cases h25 : x = 25
    · refine lv_tableIn (off := 1105) (tgt := 1138) hx hb dL_law_33 (by rw [h25]; decide) (by rw [h25]; decide) (by rw [h25]; rfl) (by decide) ?_
      exact lc_25 hC hX hbl hi hL s_load hRel hcs hW hl kend
    by_cases h26 : x = 26
    · refine lv_tableIn (off := 1159) (tgt := 1192) hx hb dL_law_33 (by rw [h26]; decide) (by rw [h26]; decide) (by rw [h26]; rfl) (by decide) ?_
      exact lc_26 hC hX hbl hi hL s_served hRel hcs hW hl kend
    by_cases h27 : x = 27
    · refine lv_tableIn (off := 1232) (tgt := 1265) hx hb dL_law_33 (by rw [h27]; decide) (by rw [h27]; decide) (by rw [h27]; rfl) (by decide) ?_
      exact lc_27 hC hX hbl hi hL s_least hRel hcs hW hl kend
    by_cases h28 : x = 28
    · refine lv_tableIn (off := 1255) (tgt := 1288) hx hb dL_law_33 (by rw [h28]; decide) (by rw [h28]; decide) (by rw [h28]; rfl) (by decide) ?_
      exact lc_28 hC hX hbl hi hL s_dull hRel hcs hW hl kend
    by_cases h29 : x = 29
    · refine lv_tableIn (off := 1289) (tgt := 1322) hx hb dL_law_33 (by rw [h29]; decide) (by rw [h29]; decide) (by rw [h29]; rfl) (by decide) ?_
      exact lc_29 hC hX hbl hi hL s_onward hRel hcs hW hl kend
    by_cases h30 : x = 30
    · refine lv_tableIn (off := 1322) (tgt := 1355) hx hb dL_law_33 (by rw [h30]; decide) (by rw [h30]; decide) (by rw [h30]; rfl) (by decide) ?_
      exact lc_30 hC hX hbl hi hL s_different hRel hcs hW hl kend
    by_cases h31 : x = 31
    · refine lv_tableIn (off := 1355) (tgt := 1388) hx hb dL_law_33 (by rw [h31]; decide) (by rw [h31]; decide) (by rw [h31]; rfl) (by decide) ?_
      exact lc_31 hC hX hbl hi hL s_pace hRel hcs hW hl kend
    by_cases h32 : x = 32
    · refine lv_tableIn (off := 1378) (tgt := 1411) hx hb dL_law_33 (by rw [h32]; decide) (by rw [h32]; decide) (by rw [h32]; rfl) (by decide) ?_
      exact lc_32 hC hX hbl hi hL s_round hRel hcs hW hl kend
    by_cases h33 : x = 33
    · refine lv_tableIn (off := 1421) (tgt := 1454) hx hb dL_law_33 (by rw [h33]; decide) (by rw [h33]; decide) (by rw [h33]; rfl) (by decide) ?_
      exact lc_33 hC hX hbl hi hL s_went hRel hcs hW hl kend
    by_cases h34 : x = 34
    · refine lv_tableIn (off := 1454) (tgt := 1487) hx hb dL_law_33 (by rw [h34]; decide) (by rw [h34]; decide) (by rw [h34]; rfl) (by decide) ?_
      exact lc_34 hC hX hbl hi hL s_lostDay hRel hcs hW hl kend
    by_cases h35 : x = 35
    · refine lv_tableIn (off := 1507) (tgt := 1540) hx hb dL_law_33 (by rw [h35]; decide) (by rw [h35]; decide) (by rw [h35]; rfl) (by decide) ?_
      exact lc_35 hC hX hbl hi hL s_put hRel hcs hW hl kend
    by_cases h36 : x = 36
    · refine lv_tableIn (off := 1540) (tgt := 1573) hx hb dL_law_33 (by rw [h36]; decide) (by rw [h36]; decide) (by rw [h36]; rfl) (by decide) ?_
      exact lc_36 hC hX hbl hi hL s_knownIn hRel hcs hW hl kend
    by_cases h37 : x = 37
    · refine lv_tableIn (off := 1563) (tgt := 1596) hx hb dL_law_33 (by rw [h37]; decide) (by rw [h37]; decide) (by rw [h37]; rfl) (by decide) ?_
      exact lc_37 hC hX hbl hi hL s_where hRel hcs hW hl kend
    by_cases h38 : x = 38
    · refine lv_tableIn (off := 1606) (tgt := 1639) hx hb dL_law_33 (by rw [h38]; decide) (by rw [h38]; decide) (by rw [h38]; rfl) (by decide) ?_
      exact lc_38 hC hX hbl hi hL s_counts hRel hcs hW hl kend
    by_cases h39 : x = 39
    · refine lv_tableIn (off := 1639) (tgt := 1672) hx hb dL_law_33 (by rw [h39]; decide) (by rw [h39]; decide) (by rw [h39]; rfl) (by decide) ?_
      exact lc_39 hC hX hbl hi hL s_council hRel hcs hW hl kend
    by_cases h40 : x = 40
    · refine lv_tableIn (off := 1672) (tgt := 1705) hx hb dL_law_33 (by rw [h40]; decide) (by rw [h40]; decide) (by rw [h40]; rfl) (by decide) ?_
      exact lc_40 hC hX hbl hi hL s_check hRel hcs hW hl kend
    by_cases h41 : x = 41
    · refine lv_tableIn (off := 1695) (tgt := 1728) hx hb dL_law_33 (by rw [h41]; decide) (by rw [h41]; decide) (by rw [h41]; rfl) (by decide) ?_
      exact lc_41 hC hX hbl hi hL s_count hRel hcs hW hl kend
    have t0 := lv_neT (a := 0) h0 (by decide)
    have t1 := lv_neT (a := 1) h1 (by decide)
    have t2 := lv_neT (a := 2) h2 (by decide)
    have t3 := lv_neT (a := 3) h3 (by decide)
    have t4 := lv_neT (a := 4) h4 (by decide)
    have t5 := lv_neT (a := 5) h5 (by decide)
    have t6 := lv_neT (a := 6) h6 (by decide)
    have t7 := lv_neT (a := 7) h7 (by decide)
    have t8 := lv_neT (a := 8) h8 (by decide)
    have t9 := lv_neT (a := 9) h9 (by decide)
    have t10 := lv_neT (a := 10) h10 (by decide)
    have t11 := lv_neT (a := 11) h11 (by decide)
    have t12 := lv_neT (a := 12) h12 (by decide)
    have t13 := lv_neT (a := 13) h13 (by decide)
    have t14 := lv_neT (a := 14) h14 (by decide)
    have t15 := lv_neT (a := 15) h15 (by decide)
    have t16 := lv_neT (a := 16) h16 (by decide)
    have t17 := lv_neT (a := 17) h17 (by decide)
    have t18 := lv_neT (a := 18) h18 (by decide)
    have t19 := lv_neT (a := 19) h19 (by decide)
    have t20 := lv_neT (a := 20) h20 (by decide)
    have t21 := lv_neT (a := 21) h21 (by decide)
    have t22 := lv_neT (a := 22) h22 (by decide)
    have t23 := lv_neT (a := 23) h23 (by decide)
    have t24 := lv_neT (a := 24) h24 (by decide)
    have t25 := lv_neT (a := 25) h25 (by decide)
    have t26 := lv_neT (a := 26) h26 (by decide)
    have t27 := lv_neT (a := 27) h27 (by decide)
    have t28 := lv_neT (a := 28) h28 (by decide)
    have t29 := lv_neT (a := 29) h29 (by decide)
    have t30 := lv_neT (a := 30) h30 (by decide)
    have t31 := lv_neT (a := 31) h31 (by decide)
    have t32 := lv_neT (a := 32) h32 (by decide)
    have t33 := lv_neT (a := 33) h33 (by decide)
    have t34 := lv_neT (a := 34) h34 (by decide)
    have t35 := lv_neT (a := 35) h35 (by decide)
    have t36 := lv_neT (a := 36) h36 (by decide)
    have t37 := lv_neT (a := 37) h37 (by decide)
    have t38 := lv_neT (a := 38) h38 (by decide)
    have t39 := lv_neT (a := 39) h39 (by decide)
    have t40 := lv_neT (a := 40) h40 (by decide)
    have t41 := lv_neT (a := 41) h41 (by decide)
    refine lv_tableOut (tgt := 1751) hx hb dL_law_33 (by omega) (by decide) ?_
    refine W.widen (k := cells + 1) (n := slots + 5) (Nat.le_succ _) (Nat.le_add_right _ _) ?_
    exact kend α μ ν rfl hRel hW hl
