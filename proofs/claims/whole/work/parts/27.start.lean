theorem ci_L_9 : kw_i RL 9 yX11_init cX11_init 1 0 := ⟨tw_19, tw_20, tw_1, tw_21, rfl, by decide, by decide, by decide +kernel⟩
theorem ci_L_12 : kw_i RL 12 yX12_init cX12_init 2 0 := ⟨tw_1156, tw_1157, tw_13, tw_1158, rfl, by decide, by decide, by decide +kernel⟩
set_option maxHeartbeats 8000000 in
set_option maxRecDepth 100000 in
/-- the law from its entry, over any relation of the two memories that holds at the start and that each pair of calls keeps -/
theorem whole_open {Rel : Mm → Mm → Prop} (h0 : ∀ κ : Mm, (∀ i, i < 512 → κ 0 i = -1) → (∀ i, i < 3 → κ 1 i = 30) → Rel (mx0 κ) mm0) (hall : ST_all Rel) {p : Program} {e : Env} {s : State} {m : MethodId} {below : List Frame} {meth : Method} {c : Code} (l : Launch) {b L : Nat} {xs : Nat → Int32} (hL : L ≤ 3072) (C0 : lw_At p s m meth c b L xs) : W p l e room_1 s m #[Value.ref b] below meth c s.heap [] 0 0 (lw_Z below #[Value.ref b] s) (entryFrame m ([Value.ref b] : List Value).toArray 4) := by
  obtain ⟨hx, hb, hr, hml, hown, hts0, hX, hbl, hlocks, hgv⟩ := id C0
  have hts : ∀ w ∈ wT, w.before #[Value.ref b] s = true := fun w hw => hts0 w (wT_in w hw)
  obtain ⟨c0, i0, hk0⟩ := u_known (C := RX0) (T := TX0) (N := 6) hts inX0 (hts _ tw_235)
  obtain ⟨c1, i1, hk1⟩ := u_known (C := RX1) (T := TX1) (N := 6) hts inX1 (hts _ tw_204)
  obtain ⟨c2, i2, hk2⟩ := u_known (C := RX2) (T := TX2) (N := 11) hts inX2 (hts _ tw_42)
  obtain ⟨c3, i3, hk3⟩ := u_known (C := RX3) (T := TX3) (N := 11) hts inX3 (hts _ tw_268)
  obtain ⟨c4, i4, hk4⟩ := u_known (C := RX4) (T := TX4) (N := 5) hts inX4 (hts _ tw_565)
  obtain ⟨c5, i5, hk5⟩ := u_known (C := RX5) (T := TX5) (N := 8) hts inX5 (hts _ tw_100)
  obtain ⟨c6, i6, hk6⟩ := u_known (C := RX6) (T := TX6) (N := 6) hts inX6 (hts _ tw_332)
  obtain ⟨c7, i7, hk7⟩ := u_known (C := RX7) (T := TX7) (N := 15) hts inX7 (hts _ tw_358)
  obtain ⟨c8, i8, hk8⟩ := u_known (C := RX8) (T := TX8) (N := 14) hts inX8 (hts _ tw_143)
  obtain ⟨c9, i9, hk9⟩ := u_known (C := RX9) (T := TX9) (N := 2) hts inX9 (hts _ tw_26)
  obtain ⟨c10, i10, hk10⟩ := u_known (C := RX10) (T := TX10) (N := 5) hts inX10 (hts _ tw_262)
  obtain ⟨c11, i11, hk11⟩ := u_known (C := RX11) (T := TX11) (N := 13) hts inX11 (hts _ tw_18)
  obtain ⟨c12, i12, hk12⟩ := u_known (C := RX12) (T := TX12) (N := 78) hts inX12 (hts _ tw_1155)
  obtain ⟨cA, kA, oA, fA, gA, tA⟩ := Cond.arrayClass_spec (hts _ tw_40)
  obtain ⟨cB, kB, oB, fB, gB, tB⟩ := Cond.arrayClass_spec (hts _ tw_1395)
  obtain ⟨cC, kC, oC, fC, gC, tC⟩ := Cond.arrayClass_spec (hts _ tw_1396)
  let D : va_G := (fun k => ([c0, c1, c2, c3, c4, c5, c6, c7, c8, c9, c10, c11, c12] : List ClassId).getD k 0, fun k => ([i0, i1, i2, i3, i4, i5, i6, i7, i8, i9, i10, i11, i12] : List (Nat → Nat)).getD k (fun _ => 0))
  let cs : ClassId × ClassId × ClassId := (cA, cB, cC)
  have hK : va_K D vwCl (gT (gx D cs (fun _ => 0))) s := by
    refine ⟨fun c q hq => ?_, fun k q hq => ?_⟩
    · match c, hq with
      | 0, hq => cases hq; exact hk0
      | 1, hq => cases hq; exact hk1
      | 2, hq => cases hq; exact hk2
      | 3, hq => cases hq; exact hk3
      | 4, hq => cases hq; exact hk4
      | 5, hq => cases hq; exact hk5
      | 6, hq => cases hq; exact hk6
      | 7, hq => cases hq; exact hk7
      | 8, hq => cases hq; exact hk8
      | 9, hq => cases hq; exact hk9
      | 10, hq => cases hq; exact hk10
      | 11, hq => cases hq; exact hk11
      | 12, hq => cases hq; exact hk12
      | k + 13, hq => simp [vwCl] at hq
    · match k, hq with
      | 0, hq => cases hq; exact ⟨fun n z => ⟨fun k h => (by cases h), kA, gA, oA, tA⟩, fA⟩
      | 1, hq => cases hq; exact ⟨fun n z => ⟨fun k h => (by cases h), kB, gB, oB, tB⟩, fB⟩
      | 2, hq => cases hq; exact ⟨fun n z => ⟨fun k h => (by cases h), kC, gC, oC, tC⟩, fC⟩
      | k + 3, hq => simp [gT] at hq
  have hN : ∀ w ∈ nW, va_Nw w s := fun w hw => va_Nw.of (nW_tab w hw) (hts0 w (nW_in w hw))
  have hC : Cx (gx D cs (fun _ => 0)) RL code 4 p s m #[Value.ref b] c := ⟨hx, hb, hml, hown, hts, hK, hN⟩
  generalize D = D at hC
  generalize cs = cs at hC
  clear hK hN
  have hW : wA (gx D cs (fun _ => 0)) [] (fun q => s.heap.size ≤ q) s.heap s.heap [] := ⟨fun k q h => by simp at h, ⟨fun i j p q h => by simp at h, fun k q h => by simp at h⟩, va_S.rf, fun _ h => h⟩
  have hl := lv_entry ([.ref b]) (n := 4) (Nat.le_of_ble_eq_true rfl)
  rw [lg_entry_eq]
  generalize (lg_sl ([.ref b]) ++ List.replicate (4 - (lg_sl ([.ref b])).length) Slot.unset).toArray = ls at hl ⊢
  replace hl : lv_has ls 4 [(0, .ref b)] := hl
  refine ka_new (g := gx D cs (fun _ => 0)) (ci := 11) (fs := [.null, .null, .null, .null, .null, .null, .null, .null, .null, .null, .null, .null, .int 0]) (C := RX11) (T := TX11) (N := 13) hC hW rfl inX11 tyX11 tyX11_ok tw_17 tw_18 tw_1 (by decide +kernel) (Nat.le_of_ble_eq_true rfl) (Nat.le_of_ble_eq_true rfl) dL_law_0 (fun q1 H hW => ?_)
  replace hW : wA (gx D cs (fun _ => 0)) [(q1, .inr (11, [.null, .null, .null, .null, .null, .null, .null, .null, .null, .null, .null, .null, .int 0]))] (fun q => s.heap.size ≤ q) s.heap H _ := hW
  refine W.widen (k := 1) (n := 13) (Nat.le_of_ble_eq_true rfl) (Nat.le_of_ble_eq_true rfl) ?_
  refine lv_dup hx hb dL_law_3 rfl ?_
  refine ka_after (g := gx D cs (fun _ => 0)) (w0 := [(q1, .inr (11, [.null, .null, .null, .null, .null, .null, .null, .null, .null, .null, .null, .null, .int 0]))]) (wr := []) hW [0] [] rfl rfl (by decide) (by decide) (ka_runI (g := gx D cs (fun _ => 0)) hC hW hl.1 [0] (by decide) rfl (tc_X11 q1 _) ⟨rfl, rfl⟩ ci_L_9 rfl rfl (Nat.le_of_ble_eq_true rfl) dL_law_4 ⟨Nat.le_of_ble_eq_true rfl, Nat.le_of_ble_eq_true rfl⟩ ⟨Nat.le_of_ble_eq_true rfl, Nat.le_of_ble_eq_true rfl⟩) (fun z1 H locs hz1 hW => ?_)
  obtain ⟨hq1, hf1, hf2⟩ := hz1
  replace hW : wA (gx D cs (fun _ => 0)) (wx (gx D cs z1.1) (mx0 z1.2)) (fun q => s.heap.size ≤ q) s.heap H locs := hW
  refine W.widen (k := 100) (n := 20000) (Nat.le_of_ble_eq_true rfl) (Nat.le_of_ble_eq_true rfl) ?_
  refine lv_astore_n (lv' := [(1, .ref q1), (0, .ref b)]) hx hb dL_law_7 rfl hl (by decide) rfl (fun ls hl => ?_)
  refine ka_new (g := gx D cs (fun _ => 0)) (ci := 12) (fs := [.int 0, .int 0, .int 0, .int 0, .int 0, .int 0, .null, .null, .null, .null, .null, .null, .null, .null, .null, .null, .null, .null, .null, .null, .null, .null, .null, .null, .null, .null, .null, .null, .null, .null, .null, .null, .null, .null, .null, .int 0, .int 0, .null, .int 0, .int 0, .int 0, .int 0, .int 0, .int 0, .int 0, .int 0, .int 0, .null, .null, .null, .null, .null, .null, .null, .null, .null, .null, .null, .int 0, .null, .null, .int 0, .null, .null, .null, .null, .null, .null, .int 0, .null, .null, .null, .null, .null, .null, .null, .null, .int 0]) (C := RX12) (T := TX12) (N := 78) hC hW rfl inX12 tyX12 tyX12_ok tw_1154 tw_1155 tw_13 (by decide +kernel) (Nat.le_of_ble_eq_true rfl) (Nat.le_of_ble_eq_true rfl) dL_law_8 (fun q2 H hW => ?_)
  refine W.widen (k := 101) (n := 20078) (Nat.le_of_ble_eq_true rfl) (Nat.le_of_ble_eq_true rfl) ?_
  refine lv_dup hx hb dL_law_11 rfl ?_
  refine ka_after (g := gx D cs (fun _ => 0)) (w0 := [(q2, .inr (12, [.int 0, .int 0, .int 0, .int 0, .int 0, .int 0, .null, .null, .null, .null, .null, .null, .null, .null, .null, .null, .null, .null, .null, .null, .null, .null, .null, .null, .null, .null, .null, .null, .null, .null, .null, .null, .null, .null, .null, .int 0, .int 0, .null, .int 0, .int 0, .int 0, .int 0, .int 0, .int 0, .int 0, .int 0, .int 0, .null, .null, .null, .null, .null, .null, .null, .null, .null, .null, .null, .int 0, .null, .null, .int 0, .null, .null, .null, .null, .null, .null, .int 0, .null, .null, .null, .null, .null, .null, .null, .null, .int 0]))]) (wr := wx (gx D cs z1.1) (mx0 z1.2)) hW [77] [0, 1, 2, 3, 4, 5, 6, 7, 8, 9, 10, 11, 12, 13, 14, 15, 16, 17, 18, 19, 20, 21, 22, 23, 24, 25, 26, 27, 28, 29, 30, 31, 32, 33, 34, 35, 36, 37, 38, 39, 40, 41, 42, 43, 44, 45, 46, 47, 48, 49, 50, 51, 52, 53, 54, 55, 56, 57, 58, 59, 60, 61, 62, 63, 64, 65, 66, 67, 68, 69, 70, 71, 72, 73, 74, 75, 76] rfl rfl (by decide) (by decide) (ka_runI (g := gx D cs (fun _ => 0)) hC hW hl.1 [77] (by decide) rfl (tc_X12 q2 _) ⟨rfl, rfl⟩ ci_L_12 rfl rfl (Nat.le_of_ble_eq_true rfl) dL_law_12 ⟨Nat.le_of_ble_eq_true rfl, Nat.le_of_ble_eq_true rfl⟩ ⟨Nat.le_of_ble_eq_true rfl, Nat.le_of_ble_eq_true rfl⟩) (fun z2 H locs hz2 hW => ?_)
  replace hW : wA (gx D cs z1.1) (wx (gx D cs z1.1) (mx0 z1.2) ++ wm (gx D cs z2.1) mm0) (fun q => s.heap.size ≤ q) s.heap H locs := hW
  refine W.widen (k := 2000) (n := 100000) (Nat.le_of_ble_eq_true rfl) (Nat.le_of_ble_eq_true rfl) ?_
  refine lv_astore_n (lv' := [(2, .ref q2), (1, .ref q1), (0, .ref b)]) hx hb dL_law_15 rfl hl (by decide) rfl (fun ls hl => ?_)
  refine lv_iconst (v := 0) hx hb dL_law_16 (by decide) ?_
  refine lv_istore_n (lv' := [(3, .int 0), (2, .ref q2), (1, .ref q1), (0, .ref b)]) hx hb dL_law_17 rfl hl (by decide) rfl (fun ls hl => ?_)
  refine law_loop (D := D) (cs := cs) (β := z2.1) (Rel := Rel) hall hX hbl hL hr hlocks (L + 1) 0 z1.1 (mx0 z1.2) mm0 _ _ ls _ _ (by omega) (by omega) (by omega) (by omega) rfl (h0 z1.2 hf1 hf2) hC hW ?_
  have h9 := lv_sub hl [3, 2, 1, 0] rfl
  have e1 : q1 = ad (gx D cs z1.1) 0 := hq1.symm
  have e2 : q2 = ad (gx D cs z2.1) 0 := hz2.symm
  rw [e1, e2] at h9
  exact h9
