/-! who is there today and wants what -/
def todB (ν : Mm) (v r : Nat) : Bool := visB ν v (ν 15 r).toNatClampNeg (nT ν)
def wtB (ν : Mm) (v b : Nat) (lim : Int32) (r : Nat) : Bool := todB ν v r && !decide (wishV ν r b 0 < lim)
theorem todB_abs {ν ν' : Mm} (h : absM ν' = absM ν) (v r : Nat) : todB ν' v r = todB ν v r := by
  have : todB (absM ν') v r = todB (absM ν) v r := by rw [h]
  exact this
theorem wtB_abs {ν ν' : Mm} (h : absM ν' = absM ν) (v b : Nat) (lim : Int32) (r : Nat) : wtB ν' v b lim r = wtB ν v b lim r := by
  unfold wtB
  rw [todB_abs h, wishV_abs h]
theorem x_today {μ ν : Mm} (h : Rel μ ν) {v : Nat} (hv : v < 3) : ∃ x, vs_readersToday μ (nI v) = some x ∧ ∀ r, r < 32 → tb x r = (decide (r < nR ν) && todB ν v r) := by
  have hS := g_S h.2
  have hT := g_T h.2
  have hR := g_R h.2
  unfold vs_readersToday vs_readersOf vs_readersOf_l4
  obtain ⟨x, x1, x2⟩ := x_stopsOn h.1 h.2 hv (d := nT ν) (by omega)
  rw [x_T h.1, hT.1, x1, mbv_s]
  obtain ⟨e, h1, h2⟩ := miter_cnt (f := fun q : Int32 × Int32 => vs_readersOf_b4 μ x q.1 q.2) (fun i (a : Int32) => (a, nI i)) (nS ν) (fun i a => ∀ r, r < 32 → tb a r = (decide (r < nR ν) && decide ((ν 15 r).toNatClampNeg < i) && todB ν v r)) (fun a => ∀ r, r < 32 → tb a r = (decide (r < nR ν) && todB ν v r)) (fun i a hi hI => by
      left
      have hb : vs_readersOf_b4 μ x a (nI i) = if visB ν v i (nT ν) = true then some (.inl (a ||| μ 39 i, nI (i + 1))) else some (.inl (a, nI (i + 1))) := by
        unfold vs_readersOf_b4
        have hd : (decide (i < nS ν) && visB ν v i (nT ν)) = visB ν v i (nT ν) := by simp [hi]
        rw [x_S h.1, hS.1, if_neg (nI_ge hi (by omega)), hasBit_eq _ (by omega), mbv_s, x2 i (by omega), hd, mrd_nI (by omega) (by decide), nI_1]
        by_cases c : visB ν v i (nT ν) = true
        · rw [ifb_t c, if_pos c]
        · rw [ifb_f c, if_neg c]
      by_cases c : visB ν v i (nT ν) = true
      · rw [if_pos c] at hb
        refine ⟨_, hb, fun r hr => ?_⟩
        rw [tb_or, hI r hr, h.1.2.2.2.2.2.2.2.2.2.2.1 i (by omega) r hr]
        by_cases cr : r < nR ν
        · obtain ⟨s, s1, s2⟩ := g_home h.2 cr
          have et : todB ν v r = visB ν v s (nT ν) := by unfold todB; rw [s2, nI_clamp (by omega)]
          rw [et, s2, nI_clamp (by omega)]
          have e2 : (nI s = nI i) ↔ s = i := nI_eq (by omega) (by omega)
          by_cases e : s = i
          · subst e; simp [cr, c]
          · have : (s < i) ↔ (s < i + 1) := by omega
            simp [e2, e, this]
        · simp [cr]
      · rw [if_neg c] at hb
        refine ⟨_, hb, fun r hr => ?_⟩
        rw [hI r hr]
        by_cases cr : r < nR ν
        · obtain ⟨s, s1, s2⟩ := g_home h.2 cr
          have et : todB ν v r = visB ν v s (nT ν) := by unfold todB; rw [s2, nI_clamp (by omega)]
          rw [et, s2, nI_clamp (by omega)]
          by_cases e : s = i
          · subst e
            have c' : visB ν v s (nT ν) = false := by simpa using c
            simp [c']
          · have : (s < i) ↔ (s < i + 1) := by omega
            simp [this]
        · simp [cr]) (fun a hI => ⟨a, by
      show vs_readersOf_b4 μ x a (nI (nS ν)) = _
      unfold vs_readersOf_b4
      rw [x_S h.1, hS.1, if_pos (nI_le (Nat.le_refl _) (by omega))], fun r hr => by
      rw [hI r hr]
      by_cases cr : r < nR ν
      · obtain ⟨s, s1, s2⟩ := g_home h.2 cr
        rw [s2, nI_clamp (by omega)]
        simp [s1]
      · simp [cr]⟩) FU 0 0 (by omega) (by unfold FU; omega) (fun r hr => by rw [tb_zero]; simp)
  have h1' : miter (fun q : Int32 × Int32 => vs_readersOf_b4 μ x q.1 q.2) FU (0, 0) = some e := h1
  rw [h1', mbv_s, mbv_s]
  exact ⟨e, rfl, h2⟩
theorem x_wantG {μ ν : Mm} (h : Rel μ ν) {b : Nat} {Pd : Nat → Bool} (hb : b < nB ν) {x : Int32} (hx : ∀ r, r < 32 → tb x r = (decide (r < nR ν) && Pd r)) (lim : Int32) : ∃ μ', vs_wantersOf μ (nI b) x lim = some (mkb (fun r => Pd r && !decide (wishV ν r b 0 < lim)) (nR ν), μ') ∧ absX μ' = absX μ ∧ ∀ c, c ≠ 52 → c ≠ 69 → c ≠ 10 → μ' c = μ c := by
  have hR := g_R h.2
  unfold vs_wantersOf vs_wantersOf_l6
  obtain ⟨e, h1, h2, h3, h4⟩ := miter_cnt (f := fun q : Int32 × Int32 × Mm => vs_wantersOf_b6 q.2.2 (nI b) x lim q.1 q.2.1) (fun i (m : Mm) => (mkb (fun r => Pd r && !decide (wishV ν r b 0 < lim)) i, nI i, m)) (nR ν) (fun _ m => absX m = absX μ ∧ ∀ c, c ≠ 52 → c ≠ 69 → c ≠ 10 → m c = μ c) (fun e => e.1 = mkb (fun r => Pd r && !decide (wishV ν r b 0 < lim)) (nR ν) ∧ absX e.2 = absX μ ∧ ∀ c, c ≠ 52 → c ≠ 69 → c ≠ 10 → e.2 c = μ c) (fun i m hi hI => by
      left
      obtain ⟨i1, i2⟩ := hI
      have hm : Rel m ν := Rel_abs i1 rfl h
      have xR : m 3 7 = nI (nR ν) := (x_R hm.1).trans hR.1
      obtain ⟨m', w1, w2, w3⟩ := x_wish hm hi hb 0
      have hbit := hx i (by omega)
      have hd : decide (i < nR ν) = true := by simp [hi]
      rw [hd, Bool.true_and] at hbit
      have hb6 : vs_wantersOf_b6 m (nI b) x lim (mkb (fun r => Pd r && !decide (wishV ν r b 0 < lim)) i) (nI i) = some (.inl (mkb (fun r => Pd r && !decide (wishV ν r b 0 < lim)) (i + 1), nI (i + 1), if Pd i = true then m' else m)) := by
        unfold vs_wantersOf_b6
        rw [xR, if_neg (nI_ge hi (by omega)), hasBit_eq _ (by omega), mbv_s, hbit, x_T hm.1, w1, mbm_s, nI_1, mkb_S]
        by_cases c : Pd i = true
        · rw [ifb_t c, if_pos c]
          by_cases c2 : wishV ν i b 0 < lim
          · rw [if_pos c2, if_neg (by simp [c2])]
          · rw [if_neg c2, if_pos (by simp [c, c2])]
        · rw [ifb_f c, if_neg c, if_neg (by simp [c])]
      refine ⟨_, hb6, ?_⟩
      by_cases c : Pd i = true
      · rw [if_pos c]; exact ⟨w2.trans i1, fun q z1 z2 z3 => (w3 q z1 z2 z3).trans (i2 q z1 z2 z3)⟩
      · rw [if_neg c]; exact ⟨i1, i2⟩) (fun m hI => by
      have hm : Rel m ν := Rel_abs hI.1 rfl h
      have xR : m 3 7 = nI (nR ν) := (x_R hm.1).trans hR.1
      refine ⟨(mkb (fun r => Pd r && !decide (wishV ν r b 0 < lim)) (nR ν), m), ?_, rfl, hI⟩
      show vs_wantersOf_b6 m (nI b) x lim (mkb (fun r => Pd r && !decide (wishV ν r b 0 < lim)) (nR ν)) (nI (nR ν)) = _
      unfold vs_wantersOf_b6
      rw [xR, if_pos (nI_le (Nat.le_refl _) (by omega))]) FU 0 μ (by omega) (by unfold FU; omega) ⟨rfl, fun _ _ _ _ => rfl⟩
  have h1' : miter (fun q : Int32 × Int32 × Mm => vs_wantersOf_b6 q.2.2 (nI b) x lim q.1 q.2.1) FU (0, 0, μ) = some e := h1
  rw [h1']
  refine ⟨e.2, ?_, h3, h4⟩
  show some (e.1, e.2) = _
  rw [h2]
theorem x_wantedOf {μ ν : Mm} (h : Rel μ ν) {r : Nat} (hr : r < nR ν) (x lim : Int32) : ∃ μ', vs_wantedOf μ (nI r) x lim = some (mkb (fun b => tb x b && !decide (wishV ν r b 0 < lim)) (nB ν), μ') ∧ absX μ' = absX μ ∧ ∀ c, c ≠ 52 → c ≠ 69 → c ≠ 10 → μ' c = μ c := by
  have hB := g_B h.2
  unfold vs_wantedOf vs_wantedOf_l6
  obtain ⟨e, h1, h2, h3, h4⟩ := miter_cnt (f := fun q : Int32 × Int32 × Mm => vs_wantedOf_b6 q.2.2 (nI r) x lim q.1 q.2.1) (fun i (m : Mm) => (mkb (fun b => tb x b && !decide (wishV ν r b 0 < lim)) i, nI i, m)) (nB ν) (fun _ m => absX m = absX μ ∧ ∀ c, c ≠ 52 → c ≠ 69 → c ≠ 10 → m c = μ c) (fun e => e.1 = mkb (fun b => tb x b && !decide (wishV ν r b 0 < lim)) (nB ν) ∧ absX e.2 = absX μ ∧ ∀ c, c ≠ 52 → c ≠ 69 → c ≠ 10 → e.2 c = μ c) (fun i m hi hI => by
      left
      obtain ⟨i1, i2⟩ := hI
      have hm : Rel m ν := Rel_abs i1 rfl h
      have xB : m 2 10 = nI (nB ν) := (x_B hm.1).trans hB.1
      obtain ⟨m', w1, w2, w3⟩ := x_wish hm hr hi 0
      have hb6 : vs_wantedOf_b6 m (nI r) x lim (mkb (fun b => tb x b && !decide (wishV ν r b 0 < lim)) i) (nI i) = some (.inl (mkb (fun b => tb x b && !decide (wishV ν r b 0 < lim)) (i + 1), nI (i + 1), if tb x i = true then m' else m)) := by
        unfold vs_wantedOf_b6
        rw [xB, if_neg (nI_ge hi (by omega)), hasBit_eq _ (by omega), mbv_s, x_T hm.1, w1, mbm_s, nI_1, mkb_S]
        by_cases c : tb x i = true
        · rw [ifb_t c, if_pos c]
          by_cases c2 : wishV ν r i 0 < lim
          · rw [if_pos c2, if_neg (by simp [c2])]
          · rw [if_neg c2, if_pos (by simp [c, c2])]
        · rw [ifb_f c, if_neg c, if_neg (by simp [c])]
      refine ⟨_, hb6, ?_⟩
      by_cases c : tb x i = true
      · rw [if_pos c]; exact ⟨w2.trans i1, fun q z1 z2 z3 => (w3 q z1 z2 z3).trans (i2 q z1 z2 z3)⟩
      · rw [if_neg c]; exact ⟨i1, i2⟩) (fun m hI => by
      have hm : Rel m ν := Rel_abs hI.1 rfl h
      have xB : m 2 10 = nI (nB ν) := (x_B hm.1).trans hB.1
      refine ⟨(mkb (fun b => tb x b && !decide (wishV ν r b 0 < lim)) (nB ν), m), ?_, rfl, hI⟩
      show vs_wantedOf_b6 m (nI r) x lim (mkb (fun b => tb x b && !decide (wishV ν r b 0 < lim)) (nB ν)) (nI (nB ν)) = _
      unfold vs_wantedOf_b6
      rw [xB, if_pos (nI_le (Nat.le_refl _) (by omega))]) FU 0 μ (by omega) (by unfold FU; omega) ⟨rfl, fun _ _ _ _ => rfl⟩
  have h1' : miter (fun q : Int32 × Int32 × Mm => vs_wantedOf_b6 q.2.2 (nI r) x lim q.1 q.2.1) FU (0, 0, μ) = some e := h1
  rw [h1']
  refine ⟨e.2, ?_, h3, h4⟩
  show some (e.1, e.2) = _
  rw [h2]
def wsOK (ν w : Mm) (v : Nat) (lim : Int32) (i : Nat) : Prop := ∀ r, r < i → ∀ b, b < nB ν → w 50 (32 * r + b) = bI (wtB ν v b lim r)
theorem m_wishes {μ ν : Mm} (h : Rel μ ν) {v : Nat} (hv : v < 3) (lim : Int32) : ∃ w, md_wishes ν (nI v) lim = some w ∧ absM w = absM ν ∧ wsOK ν w v lim (nR ν) := by
  have hR := g_R h.2
  have hB := g_B h.2
  have hS := g_S h.2
  have hT := g_T h.2
  have inner : ∀ (r : Nat) (w : Mm), r < nR ν → absM w = absM ν → wsOK ν w v lim r → ∃ w', md_wishes_l21 w (nI v) lim (nI r) (bI (todB ν v r)) 0 = some w' ∧ absM w' = absM ν ∧ wsOK ν w' v lim (r + 1) := by
    intro r w hr hw hok
    unfold md_wishes_l21
    obtain ⟨e, h1, h2, h3, h4⟩ := miter_cnt (f := fun q : Int32 × Mm => md_wishes_b21 q.2 (nI v) lim (nI r) (bI (todB ν v r)) q.1) (fun i (m : Mm) => (nI i, m)) (nB ν) (fun i m => absM m = absM ν ∧ wsOK ν m v lim r ∧ ∀ b, b < i → m 50 (32 * r + b) = bI (wtB ν v b lim r)) (fun m => absM m = absM ν ∧ wsOK ν m v lim r ∧ ∀ b, b < nB ν → m 50 (32 * r + b) = bI (wtB ν v b lim r)) (fun i m hi hI => by
        left
        obtain ⟨i1, i2, i3⟩ := hI
        have hm : Rel μ m := Rel_abs rfl i1 h
        have eB : m 0 1 = nI (nB ν) := by rw [(g_B hm.2).1, nB_abs i1]
        have eR := nR_abs i1
        obtain ⟨m', w1, w2, w3⟩ := m_wish hm (r := r) (b := i) (by rw [eR]; exact hr) (by rw [nB_abs i1]; exact hi) 0
        rw [wishV_abs i1] at w1
        have fin : ∀ (y : Mm) (bb : Bool), absM y = absM ν → y 50 = m 50 → wtB ν v i lim r = bb → (absM (mset y 50 (32 * r + i) (bI bb)) = absM ν ∧ wsOK ν (mset y 50 (32 * r + i) (bI bb)) v lim r ∧ ∀ b, b < i + 1 → mset y 50 (32 * r + i) (bI bb) 50 (32 * r + b) = bI (wtB ν v b lim r)) := by
          intro y bb y1 y2 y3
          refine ⟨(absM_s rfl).trans y1, fun r' hr' b' hb' => ?_, fun b hb => ?_⟩
          · rw [mset_n (by omega), y2]; exact i2 r' hr' b' hb'
          · by_cases e : b = i
            · subst e; rw [mset_s, y3]
            · rw [mset_n (by omega), y2]; exact i3 b (by omega)
        have eix : (32 : Int32) * nI r + nI i = nI (32 * r + i) := ix2 32 r i
        by_cases c : todB ν v r = true
        · by_cases c2 : wishV ν r i 0 < lim
          · refine ⟨mset m' 50 (32 * r + i) (bI false), ?_, fin m' false (w2.trans i1) (w3 50 (by decide) (by decide)) (by unfold wtB; simp [c2])⟩
            show md_wishes_b21 m (nI v) lim (nI r) (bI (todB ν v r)) (nI i) = _
            unfold md_wishes_b21
            rw [eB, if_neg (nI_ge hi (by omega)), ifb_t c, w1, mbm_s, if_pos c2, eix, mwr_nI (by omega) (by decide), nI_1, nar0]
            rfl
          · refine ⟨mset m' 50 (32 * r + i) (bI true), ?_, fin m' true (w2.trans i1) (w3 50 (by decide) (by decide)) (by unfold wtB; simp [c, c2])⟩
            show md_wishes_b21 m (nI v) lim (nI r) (bI (todB ν v r)) (nI i) = _
            unfold md_wishes_b21
            rw [eB, if_neg (nI_ge hi (by omega)), ifb_t c, w1, mbm_s, if_neg c2, eix, mwr_nI (by omega) (by decide), nI_1, nar1]
            rfl
        · refine ⟨mset m 50 (32 * r + i) (bI false), ?_, fin m false i1 rfl (by unfold wtB; simp [c])⟩
          show md_wishes_b21 m (nI v) lim (nI r) (bI (todB ν v r)) (nI i) = _
          unfold md_wishes_b21
          rw [eB, if_neg (nI_ge hi (by omega)), ifb_f c, eix, mwr_nI (by omega) (by decide), nI_1, nar0]
          rfl) (fun m hI => ⟨m, by
        show md_wishes_b21 m (nI v) lim (nI r) (bI (todB ν v r)) (nI (nB ν)) = _
        unfold md_wishes_b21
        rw [(g_B (Good_abs hI.1 h.2)).1, nB_abs hI.1, if_pos (nI_le (Nat.le_refl _) (by omega))], hI⟩) FU 0 w (by omega) (by unfold FU; omega) ⟨hw, hok, fun b hb => absurd hb (Nat.not_lt_zero b)⟩
    refine ⟨e, h1, h2, fun r' hr' b hb => ?_⟩
    by_cases er : r' = r
    · subst er; exact h4 b hb
    · exact h3 r' (by omega) b hb
  unfold md_wishes md_wishes_l2
  obtain ⟨e, h1, h2, h3⟩ := miter_cnt (f := fun q : Int32 × Mm => md_wishes_b2 q.2 (nI v) lim q.1) (fun i (m : Mm) => (nI i, m)) (nR ν) (fun i m => absM m = absM ν ∧ wsOK ν m v lim i) (fun m => absM m = absM ν ∧ wsOK ν m v lim (nR ν)) (fun i m hi hI => by
      left
      obtain ⟨i1, i2⟩ := hI
      have gm := Good_abs i1 h.2
      obtain ⟨w', w1, w2, w3⟩ := inner i m hi i1 i2
      obtain ⟨s, s1, s2⟩ := g_home gm (r := i) (by rw [nR_abs i1]; exact hi)
      have hSm := (g_S gm).2
      have hTm := g_T gm
      have et : md_isToday m (nI i) (nI v) = some (todB ν v i) := by
        unfold md_isToday
        rw [mrd_nI (by omega) (by decide), s2, hTm.1, m_isVisited hv (by omega) (by omega), mbv_s, ← todB_abs i1]
        unfold todB
        rw [s2, nI_clamp (by omega)]
      refine ⟨w', ?_, w2, w3⟩
      show md_wishes_b2 m (nI v) lim (nI i) = _
      unfold md_wishes_b2
      rw [(g_R gm).1, nR_abs i1, if_neg (nI_ge hi (by omega)), et, mbv_s, w1, mbv_s, nI_1]) (fun m hI => ⟨m, by
      show md_wishes_b2 m (nI v) lim (nI (nR ν)) = _
      unfold md_wishes_b2
      rw [(g_R (Good_abs hI.1 h.2)).1, nR_abs hI.1, if_pos (nI_le (Nat.le_refl _) (by omega))], hI⟩) FU 0 ν (by omega) (by unfold FU; omega) ⟨rfl, fun r hr => absurd hr (Nat.not_lt_zero r)⟩
  have h1' : miter (fun q : Int32 × Mm => md_wishes_b2 q.2 (nI v) lim q.1) FU (0, ν) = some e := h1
  rw [h1', mbv_s]
  exact ⟨e, rfl, h2, h3⟩
