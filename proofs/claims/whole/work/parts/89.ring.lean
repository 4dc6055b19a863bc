/-! rings: both sides -/
def rgX (μ : Mm) (a : Nat × (Nat → Nat)) : Prop := a.1 ≤ 16 ∧ μ 5 5 = nI a.1 ∧ ∀ j, j < a.1 → μ 47 j = nI (a.2 j)
theorem x_lowest {μ : Mm} {W : Nat → Nat → Bool} {s R k r j : Nat} (hs : s < R) (hR : R ≤ 16) (hW : ∀ r, r < R → ∀ q, q < 16 → tb (μ 45 r) q = W r q) (hF : ∀ r, r < 16 → μ 46 r = stF W s R k r) (hk : k < 100) (hr : r < R) (h1 : 1 ≤ j) (h2 : j ≤ k) {x : Nat} (hx : lf (fun q => W r q && dk W s R j q) R 0 = some x) : vs_Asks_lowestNext μ (nI r) (nI j) (nI R) = some (nI x) := by
  unfold vs_Asks_lowestNext vs_Asks_lowestNext_l3
  have key := find_loop (f := fun q => vs_Asks_lowestNext_b3 μ (nI r) (nI j) (nI R) q) (p := fun q => W r q && dk W s R j q) 0 R (fun q => .inl (nI q)) (.inr ()) (fun i _ hi => by
    show vs_Asks_lowestNext_b3 μ (nI r) (nI j) (nI R) (nI i) = _
    unfold vs_Asks_lowestNext_b3
    rw [if_neg (nI_ge hi (by omega)), mrd_nI (by omega) (by decide), hasBit_eq _ (by omega), mbv_s, hW r hr i (by omega), mrd_nI (by omega) (by decide), hF i (by omega), nI_1]
    by_cases c : W r i = true
    · rw [ifb_t c]
      by_cases c2 : stF W s R k i = nI j
      · rw [if_pos c2, if_pos (by rw [c, (stF_iff h1 h2 hk).mp c2]; rfl)]
      · rw [if_neg c2, if_neg (fun z => by
          rw [Bool.and_eq_true] at z
          exact c2 ((stF_iff h1 h2 hk).mpr z.2))]
    · rw [ifb_f c, if_neg (fun z => by
        rw [Bool.and_eq_true] at z
        exact c z.1)]) (by
    show vs_Asks_lowestNext_b3 μ (nI r) (nI j) (nI R) (nI R) = _
    unfold vs_Asks_lowestNext_b3
    rw [if_pos (nI_le (Nat.le_refl _) (by omega))]) R 0 FU (Nat.le_refl _) (by omega) (by unfold FU; omega)
  rw [show (0 : Int32) = nI 0 from rfl, key, hx]
  rfl
theorem x_tellF {μ : Mm} {W : Nat → Nat → Bool} {s R k : Nat} (hs : s < R) (hR : R ≤ 16) (hW : ∀ r, r < R → ∀ q, q < 16 → tb (μ 45 r) q = W r q) (hF : ∀ r, r < 16 → μ 46 r = stF W s R k r) (hk1 : 1 ≤ k) (hk : k < R) (hh : hitB W s R k = true) (h5 : μ 5 5 = nI (k + 1)) : ∃ G : Nat → Int32, vs_Asks_tellFrom μ (nI s) (nI R) = some (mrp μ 47 G) ∧ ∀ j, j < k + 1 → G j = nI (rwF W s R (k + 1) j) := by
  unfold vs_Asks_tellFrom
  rw [show (0 : Int32) = nI 0 from rfl, mwr_nI (by decide) (by decide), mset_is]
  unfold vs_Asks_tellFrom_l9
  obtain ⟨e, h1, G, h2, h3⟩ := miter_cnt (f := fun q : Int32 × Mm => vs_Asks_tellFrom_b9 q.2 (nI R) q.1) (fun i (G : Nat → Int32) => (nI i, mrp μ 47 G)) (k + 1) (fun i G => 1 ≤ i ∧ ∀ j, j < i → G j = nI (rwF W s R (k + 1) j)) (fun e => ∃ G : Nat → Int32, e = mrp μ 47 G ∧ ∀ j, j < k + 1 → G j = nI (rwF W s R (k + 1) j)) (fun i G hi hI => by
      left
      obtain ⟨i1, hG⟩ := hI
      obtain ⟨m, rfl⟩ : ∃ m, i = m + 1 := ⟨i - 1, by omega⟩
      have hh' : hitB W s R (k + 1 - 1) = true := hh
      obtain ⟨z1, z2, z3, z4, z5⟩ := rwF_ok (by omega) hh' m hi
      have hrk := rwF_lt hs (by omega) hh' m (by omega)
      have hl : lf (fun q => W (rwF W s R (k + 1) m) q && dk W s R (k + 1 - (m + 1)) q) R 0 = some (rwF W s R (k + 1) (m + 1)) := lf_eq (Nat.zero_le _) (by omega) (by rw [z1, z2]; rfl) (fun j _ hj => z5 j hj)
      refine ⟨upd G (m + 1) (nI (rwF W s R (k + 1) (m + 1))), ?_, by omega, fun j hj => ?_⟩
      · show vs_Asks_tellFrom_b9 (mrp μ 47 G) (nI R) (nI (m + 1)) = _
        unfold vs_Asks_tellFrom_b9
        rw [show mrp μ 47 G 5 5 = nI (k + 1) from h5, if_neg (nI_ge hi (by omega)), nI_pred, mrd_nI (by omega) (by decide), mrp_s, hG m (by omega), pk_sub (by omega), x_lowest (μ := mrp μ 47 G) hs hR hW hF (by omega) hrk (by omega) (by omega) hl, mbv_s, mwr_nI (by omega) (by decide), mset_mrp, nI_1]
      · by_cases c : j = m + 1
        · subst c; rw [upd_s]
        · rw [upd_n c]; exact hG j (by omega)) (fun G hI => ⟨mrp μ 47 G, by
      show vs_Asks_tellFrom_b9 (mrp μ 47 G) (nI R) (nI (k + 1)) = _
      unfold vs_Asks_tellFrom_b9
      rw [show mrp μ 47 G 5 5 = nI (k + 1) from h5, if_pos (nI_le (Nat.le_refl _) (by omega))], G, rfl, hI.2⟩) FU 1 (upd (μ 47) 0 (nI s)) (by omega) (by unfold FU; omega) ⟨Nat.le_refl _, fun j hj => by
      have : j = 0 := by omega
      subst this
      rw [upd_s]; rfl⟩
  have h1' : miter (fun q : Int32 × Mm => vs_Asks_tellFrom_b9 q.2 (nI R) q.1) FU (1, mrp μ 47 (upd (μ 47) 0 (nI s))) = some e := h1
  rw [h1', mbv_s, h2]
  exact ⟨G, rfl, h3⟩
theorem x_findl {μ : Mm} {W : Nat → Nat → Bool} {R : Nat} (hR : R ≤ 16) (hW : ∀ r, r < R → ∀ q, q < 16 → tb (μ 45 r) q = W r q) (h0 : μ 5 5 = 0) : ∃ u, vs_Asks_findRing_l32 μ (nI R) 0 = some u ∧ absX u = absX μ ∧ rgX u (rfold W R R) := by
  unfold vs_Asks_findRing_l32
  obtain ⟨e, h1, h2, h3⟩ := miter_cnt (f := fun q : Int32 × Mm => vs_Asks_findRing_b32 q.2 (nI R) q.1) (fun i (w : Mm) => (nI i, w)) R (fun i w => (absX w = absX μ ∧ w 45 = μ 45) ∧ rgX w (rfold W R i)) (fun w => absX w = absX μ ∧ rgX w (rfold W R R)) (fun i w hi hI => by
      left
      obtain ⟨⟨i1, i45⟩, i2⟩ := hI
      have hW' : ∀ r, r < R → ∀ q, q < 16 → tb (w 45 r) q = W r q := by rw [i45]; exact hW
      have goal : ∃ w', vs_Asks_findRing_b32 w (nI R) (nI i) = some (.inl (nI (i + 1), w')) ∧ (absX w' = absX μ ∧ w' 45 = μ 45) ∧ rgX w' (rfold W R (i + 1)) := by
        unfold vs_Asks_findRing_b32
        rw [if_neg (nI_ge hi (by omega)), nI_1]
        show ∃ w', _ ∧ _ ∧ rgX w' (rstep W R i (rfold W R i))
        generalize rfold W R i = a at i2
        unfold rstep
        obtain ⟨F, ⟨n1, n2⟩ | ⟨k, k1, k2, k3⟩⟩ := x_short hi hR hW'
        · rw [n1, n2, mbm_s, if_pos rfl]
          exact ⟨_, rfl, ⟨(absX_mrp (fun _ => rfl)).trans i1, i45⟩, i2⟩
        · obtain ⟨l1, l2, l3⟩ := lst_ok k1
          rw [k1, k2, mbm_s, if_neg (nI_m1 (by omega)), show mrp w 46 F 5 5 = nI a.1 from i2.2.1]
          have a16 := i2.1
          have new : ∃ u, (mst (mrp w 46 F) 5 5 (nI (k + 1)) fun μ11 => mbv (vs_Asks_tellFrom μ11 (nI i) (nI R)) fun μ13 => (some (.inl (nI (i + 1), μ13)) : Option ((Int32 × Mm) ⊕ Mm))) = some (.inl (nI (i + 1), u)) ∧ (absX u = absX μ ∧ u 45 = μ 45) ∧ rgX u (k + 1, rwF W i R (k + 1)) := by
            rw [mst_s]
            obtain ⟨G, g1, g2⟩ := x_tellF (μ := mset (mrp w 46 F) 5 5 (nI (k + 1))) hi hR hW' k3 l1 l2 l3 rfl
            rw [g1, mbv_s]
            exact ⟨_, rfl, ⟨(absX_mrp (fun _ => rfl)).trans ((absX_s rfl).trans ((absX_mrp (fun _ => rfl)).trans i1)), i45⟩, by show k + 1 ≤ 16; omega, rfl, fun j hj => g2 j hj⟩
          show ∃ w', _ ∧ _ ∧ rgX w' (if 0 < a.1 ∧ a.1 ≤ k + 1 then a else (k + 1, rwF W i R (k + 1)))
          by_cases c : a.1 = 0
          · rw [if_pos (by rw [c]; rfl), if_neg (show ¬ (0 < a.1 ∧ a.1 ≤ k + 1) by omega)]
            exact new
          · rw [if_neg (show ¬ (nI a.1 = 0) from nI_ne (b := 0) (by omega) (by decide) c)]
            by_cases c2 : a.1 ≤ k + 1
            · rw [if_pos (nI_le c2 (by omega)), if_pos (show 0 < a.1 ∧ a.1 ≤ k + 1 by omega)]
              exact ⟨_, rfl, ⟨(absX_mrp (fun _ => rfl)).trans i1, i45⟩, i2⟩
            · rw [if_neg (nI_ge (by omega) (by omega)), if_neg (show ¬ (0 < a.1 ∧ a.1 ≤ k + 1) by omega)]
              exact new
      exact goal) (fun w hI => ⟨w, by
      show vs_Asks_findRing_b32 w (nI R) (nI R) = _
      unfold vs_Asks_findRing_b32
      rw [if_pos (nI_le (Nat.le_refl _) (by omega))], hI.1.1, hI.2⟩) FU 0 μ (by omega) (by unfold FU; omega) ⟨⟨rfl, rfl⟩, Nat.zero_le _, h0, fun j hj => absurd hj (Nat.not_lt_zero j)⟩
  exact ⟨e, h1, h2, h3⟩
theorem x_findRing {μ ν : Mm} (h : Rel μ ν) : ∃ u, vs_Asks_findRing μ (nI (nR ν)) = some u ∧ absX u = absX μ ∧ rgX u (rfold (askW ν) (nR ν) (nR ν)) := by
  have hR := g_R h.2
  unfold vs_Asks_findRing vs_Asks_findRing_l2
  obtain ⟨e, h1, h2, h3⟩ := miter_cnt (f := fun q : Int32 × Mm => vs_Asks_findRing_b2 q.2 (nI (nR ν)) q.1) (fun i (w : Mm) => (nI i, w)) (nR ν) (fun i w => absX w = absX μ ∧ ∀ r, r < i → ∀ q, q < 16 → tb (w 45 r) q = askW ν r q) (fun w => absX w = absX μ ∧ ∀ r, r < nR ν → ∀ q, q < 16 → tb (w 45 r) q = askW ν r q) (fun i w hi hI => by
      left
      obtain ⟨i1, i2⟩ := hI
      have hw : Rel w ν := Rel_abs i1 rfl h
      obtain ⟨y, y1, y2⟩ := x_awaited hw hi
      refine ⟨mset w 45 i y, ?_, (absX_s rfl).trans i1, fun r hr q hq => ?_⟩
      · show vs_Asks_findRing_b2 w (nI (nR ν)) (nI i) = _
        unfold vs_Asks_findRing_b2
        rw [if_neg (nI_ge hi (by omega)), y1, mbv_s, mwr_nI (by omega) (by decide), nI_1]
      · by_cases e : r = i
        · subst e; rw [mset_s]; exact y2 q hq
        · rw [mset_n e]; exact i2 r (by omega) q hq) (fun w hI => ⟨w, by
      show vs_Asks_findRing_b2 w (nI (nR ν)) (nI (nR ν)) = _
      unfold vs_Asks_findRing_b2
      rw [if_pos (nI_le (Nat.le_refl _) (by omega))], hI⟩) FU 0 μ (by omega) (by unfold FU; omega) ⟨rfl, fun r hr => absurd hr (Nat.not_lt_zero r)⟩
  have h1' : miter (fun q : Int32 × Mm => vs_Asks_findRing_b2 q.2 (nI (nR ν)) q.1) FU (0, μ) = some e := h1
  rw [h1', mbv_s, mst_s]
  obtain ⟨u, u1, u2, u3⟩ := x_findl (μ := mset e 5 5 0) hR.2 h3 rfl
  rw [u1, mbv_s]
  exact ⟨u, rfl, u2.trans ((absX_s rfl).trans h2), u3⟩
theorem st_ring : ST_ring Rel := by
  intro μ ν a1 h
  have hR := g_R h.2
  unfold vs_ring md_ring
  obtain ⟨u, u1, u2, u3⟩ := x_findRing h
  have ab : absM (mset ν 0 68 0) = absM ν := absM_s rfl
  obtain ⟨w, w1, w2, w3⟩ := m_ringl (ν := mset ν 0 68 0) (Good_abs ab h.2) rfl a1
  have w3' : rgM w (rfold (askW ν) (nR ν) (nR ν)) := w3
  have hr : Rel u w := Rel_abs u2 (w2.trans ab) h
  rw [(x_R h.1).trans hR.1, u1, mbv_s, mst_s, w1, mbv_s, u3.2.1, w3'.2.1]
  by_cases c : a1 = -1
  · rw [if_pos c, if_pos c]; exact ⟨_, u, w, rfl, rfl, hr⟩
  · rw [if_neg c, if_neg c, within_eq, in_eq, mbv_s, mbv_s]
    have h16 := u3.1
    rw [ix_wi (by omega)]
    by_cases c2 : ¬ (ix a1 (rfold (askW ν) (nR ν) (nR ν)).1 = true)
    · rw [ifb_f c2, ifb_f c2]; exact ⟨-1, u, w, rfl, rfl, hr⟩
    · rw [Classical.not_not] at c2
      rw [ifb_t c2, ifb_t c2]
      obtain ⟨j, hj, rfl⟩ := ix_t c2 (by omega)
      rw [mrd_nI (by omega) (by decide), mrd_nI (by omega) (by decide), u3.2.2 j hj, w3'.2.2 j hj]
      exact ⟨_, u, w, rfl, rfl, hr⟩
