/-! rounds -/
def FLm (ν w : Mm) : Prop := (∀ c, c ≠ 56 → c ≠ 57 → c ≠ 0 → w c = ν c) ∧ ∀ i, i ≠ 77 → w 0 i = ν 0 i
theorem FLm_r (ν : Mm) : FLm ν ν := ⟨fun _ _ _ _ => rfl, fun _ _ => rfl⟩
theorem FLm_t {a b c : Mm} (h : FLm a b) (h2 : FLm b c) : FLm a c := ⟨fun q x y z => (h2.1 q x y z).trans (h.1 q x y z), fun i x => (h2.2 i x).trans (h.2 i x)⟩
theorem FLm_abs {ν w : Mm} (h : FLm ν w) : absM w = absM ν := by
  funext c i
  unfold absM
  by_cases c0 : c = 0
  · subst c0
    by_cases ci : i = 77
    · subst ci; rfl
    · rw [h.2 i ci]
  · by_cases c1 : c = 56
    · subst c1; rfl
    · by_cases c2 : c = 57
      · subst c2; rfl
      · rw [h.1 c c1 c2 c0]
theorem FLm_56 {ν w : Mm} (h : FLm ν w) (i : Nat) (v : Int32) : FLm ν (mset w 56 i v) := ⟨fun c a b d => by rw [mset_o a]; exact h.1 c a b d, fun j a => by rw [mset_oo (by decide)]; exact h.2 j a⟩
theorem FLm_77 {ν w : Mm} (h : FLm ν w) (v : Int32) : FLm ν (mset w 0 77 v) := ⟨fun c a b d => by rw [mset_o d]; exact h.1 c a b d, fun j a => by rw [mset_n a]; exact h.2 j a⟩
theorem FLm_57 {ν w : Mm} (h : FLm ν w) (T : Nat → Int32) : FLm ν (mrp w 57 T) := ⟨fun c a b d => by rw [mrp_o b]; exact h.1 c a b d, fun j a => by rw [mrp_o (by decide)]; exact h.2 j a⟩
section
variable {ν w : Mm} {p : Nat → Bool}
theorem nS_fl (h : FLm ν w) : nS w = nS ν := by unfold nS; rw [h.2 2 (by decide)]
theorem wy_fl (h : FLm ν w) : wyR w p = wyR ν p := by
  funext a b
  unfold wyR cxN
  rw [nS_fl h, h.1 10 (by decide) (by decide) (by decide), h.1 11 (by decide) (by decide) (by decide)]
theorem mi_fl (h : FLm ν w) : miV w p = miV ν p := by unfold miV; rw [nS_fl h, wy_fl h]
theorem visB_fl (h : FLm ν w) (v s d : Nat) : visB w v s d = visB ν v s d := by
  unfold visB
  rw [h.1 22 (by decide) (by decide) (by decide), h.1 13 (by decide) (by decide) (by decide), h.1 14 (by decide) (by decide) (by decide), h.1 23 (by decide) (by decide) (by decide)]
theorem m_lay (g : Good ν) {f : Mm → Int32 → Option ((Int32 × Mm) ⊕ Mm)} (hs : ∀ i w, i < nS ν → FLm ν w → w 0 77 = nI (cn p i) → f w (nI i) = if p i = true then some (.inl (nI (i + 1), mset (mset w 56 (cn p i) (nI i)) 0 77 (nI (cn p i + 1)))) else some (.inl (nI (i + 1), w))) (he : ∀ w, FLm ν w → f w (nI (nS ν)) = some (.inr w)) : ∃ w, miter (fun q : Int32 × Mm => f q.2 q.1) FU (0, mset ν 0 77 0) = some w ∧ FLm ν w ∧ w 0 77 = nI (cn p (nS ν)) ∧ cOK (w 56) p (nS ν) := by
  have hS := g_S g
  obtain ⟨e, h1, h2, h3, h4⟩ := miter_cnt (f := fun q : Int32 × Mm => f q.2 q.1) (fun i (u : Mm) => (nI i, u)) (nS ν) (fun i u => FLm ν u ∧ u 0 77 = nI (cn p i) ∧ ∀ s, s < i → p s = true → u 56 (cn p s) = nI s) (fun u => FLm ν u ∧ u 0 77 = nI (cn p (nS ν)) ∧ ∀ s, s < nS ν → p s = true → u 56 (cn p s) = nI s) (fun i u hi hI => by
      left
      obtain ⟨i1, i2, i3⟩ := hI
      have hb := hs i u hi i1 i2
      have hcn : cn p (i + 1) = cn p i + (p i).toNat := rfl
      by_cases c2 : p i = true
      · rw [if_pos c2] at hb
        refine ⟨_, hb, FLm_77 (FLm_56 i1 _ _) _, ?_, fun s z1 z2 => ?_⟩
        · rw [mset_s, hcn, c2]; rfl
        · rw [mset_oo (by decide)]
          by_cases e : s = i
          · subst e; rw [mset_s]
          · have := cn_lt2 (p := p) (show s < i by omega) z2
            rw [mset_n (by omega)]; exact i3 s (by omega) z2
      · rw [if_neg c2] at hb
        refine ⟨u, hb, i1, ?_, fun s z1 z2 => ?_⟩
        · rw [i2, hcn, show p i = false by simpa using c2]; rfl
        · by_cases e : s = i
          · subst e; exact absurd z2 c2
          · exact i3 s (by omega) z2) (fun u hI => ⟨u, he u hI.1, hI⟩) FU 0 (mset ν 0 77 0) (by omega) (by unfold FU; omega) ⟨FLm_77 (FLm_r ν) _, rfl, fun s hs => absurd hs (Nat.not_lt_zero s)⟩
  refine ⟨e, h1, h2, h3, fun a ha => ?_⟩
  obtain ⟨z1, z2, z3⟩ := psn_ok ha
  have := h4 _ z1 z2
  rw [z3] at this
  exact this
theorem m_laysV (g : Good ν) {v d : Nat} (hv : v < 3) (hd : d < 200) : ∃ w, md_laysVisits ν (nI v) (nI d) = some w ∧ FLm ν w ∧ w 0 77 = nI (cn (fun s => visB ν v s d) (nS ν)) ∧ cOK (w 56) (fun s => visB ν v s d) (nS ν) := by
  have hS := g_S g
  unfold md_laysVisits md_laysVisits_l7
  rw [mst_s]
  obtain ⟨w, w1, w2⟩ := m_lay (p := fun s => visB ν v s d) g (f := fun u q => md_laysVisits_b7 u (nI v) (nI d) q) (fun i u hi hf h7 => by
    show md_laysVisits_b7 u (nI v) (nI d) (nI i) = _
    unfold md_laysVisits_b7
    have hcl := cn_le (fun s => visB ν v s d) i
    rw [hf.2 2 (by decide), hS.1, if_neg (nI_ge hi (by omega)), m_isVisited hv (by omega) hd, mbv_s, visB_fl hf, h7, mwr_nI (by omega) (by decide), mst_s, mset_oo (by decide), h7, nI_1, nI_1]
    by_cases c : visB ν v i d = true
    · rw [ifb_t c, if_pos c]
    · rw [ifb_f c, if_neg c]) (fun u hf => by
    show md_laysVisits_b7 u (nI v) (nI d) (nI (nS ν)) = _
    unfold md_laysVisits_b7
    rw [hf.2 2 (by decide), hS.1, if_pos (nI_le (Nat.le_refl _) (by omega))])
  rw [w1, mbv_s]
  exact ⟨w, rfl, w2⟩
theorem m_laysT (g : Good ν) (x y z : Int32) : ∃ w, md_laysTold ν x y z = some w ∧ FLm ν w ∧ w 0 77 = nI (cn (fun s => decide (ν 13 s = x) && decide (ν 14 s = y) && !decide (nI s = z)) (nS ν)) ∧ cOK (w 56) (fun s => decide (ν 13 s = x) && decide (ν 14 s = y) && !decide (nI s = z)) (nS ν) := by
  have hS := g_S g
  unfold md_laysTold md_laysTold_l8
  rw [mst_s]
  obtain ⟨w, w1, w2⟩ := m_lay (p := fun s => decide (ν 13 s = x) && decide (ν 14 s = y) && !decide (nI s = z)) g (f := fun u q => md_laysTold_b8 u x y z q) (fun i u hi hf h7 => by
    show md_laysTold_b8 u x y z (nI i) = _
    unfold md_laysTold_b8
    have hcl := cn_le (fun s => decide (ν 13 s = x) && decide (ν 14 s = y) && !decide (nI s = z)) i
    rw [hf.2 2 (by decide), hS.1, if_neg (nI_ge hi (by omega)), mrd_nI (by omega) (by decide), mrd_nI (by omega) (by decide), hf.1 13 (by decide) (by decide) (by decide), hf.1 14 (by decide) (by decide) (by decide), h7, mwr_nI (by omega) (by decide), mst_s, mset_oo (by decide), h7, nI_1, nI_1]
    by_cases c : ν 13 i = x
    · rw [if_pos c]
      by_cases c2 : ν 14 i = y
      · rw [if_pos c2]
        by_cases c3 : nI i = z
        · rw [if_pos c3, if_neg (by simp [c3])]
        · rw [if_neg c3, if_pos (by simp [c, c2, c3])]
      · rw [if_neg c2, if_neg (by simp [c2])]
    · rw [if_neg c, if_neg (by simp [c])]) (fun u hf => by
    show md_laysTold_b8 u x y z (nI (nS ν)) = _
    unfold md_laysTold_b8
    rw [hf.2 2 (by decide), hS.1, if_pos (nI_le (Nat.le_refl _) (by omega))])
  rw [w1, mbv_s]
  exact ⟨w, rfl, w2⟩
def laid (ν w : Mm) (p : Nat → Bool) : Prop := FLm ν w ∧ w 0 77 = nI (cn p (nS ν)) ∧ cOK (w 56) p (nS ν)
theorem m_milesF (g : Good ν) (hl : laid ν w p) (hc : cn p (nS ν) ≤ 8) : ∃ u, md_miles w = some (nI (miV ν p), u) ∧ laid ν u p ∧ hoOK (u 57) (cn p (nS ν)) (wyR ν p) (2 ^ cn p (nS ν)) := by
  obtain ⟨f, h7, hr⟩ := hl
  have gw := Good_abs (FLm_abs f) g
  have e := nS_fl f
  obtain ⟨T, t1, t2⟩ := m_miles (p := p) gw (by rw [e]; exact hc) (by rw [e]; exact h7) (by rw [e]; exact hr)
  rw [e, wy_fl f] at t2
  rw [mi_fl f] at t1
  exact ⟨_, t1, ⟨FLm_57 f T, h7, hr⟩, t2⟩
theorem m_haltsF (g : Good ν) (hl : laid ν w p) : md_halts w = some (sm (fun s => if p s = true then ν 12 s else 0) (nS ν)) := by
  obtain ⟨f, h7, hr⟩ := hl
  have gw := Good_abs (FLm_abs f) g
  have e := nS_fl f
  have hS := g_S g
  have := cn_le p (nS ν)
  rw [m_halts (p := p) gw (by rw [e]; omega) (by rw [e]; exact h7) (by rw [e]; exact hr), e, f.1 12 (by decide) (by decide) (by decide)]
theorem m_stopAtF (g : Good ν) (hl : laid ν w p) (hc : cn p (nS ν) ≤ 8) (hT : hoOK (w 57) (cn p (nS ν)) (wyR ν p) (2 ^ cn p (nS ν))) {j : Nat} (hj : j < cn p (nS ν)) : md_stopAt w (nI j) = some (nI (psn p (nS ν) (pth (wyR ν p) (cn p (nS ν)) (j + 1)).2)) := by
  obtain ⟨f, h7, hr⟩ := hl
  have gw := Good_abs (FLm_abs f) g
  have e := nS_fl f
  have := m_stopAt (p := p) gw (by rw [e]; exact hc) (by rw [e]; exact h7) (by rw [e]; exact hr) (by rw [e, wy_fl f]; exact hT) (j := j) (by rw [e]; exact hj)
  rw [this, e, wy_fl f]
theorem mi_lt (hc : cn p (nS ν) ≤ 8) : miV ν p < 100000 := by
  have h2k : 2 ^ cn p (nS ν) ≤ 256 := Nat.pow_le_pow_right (by decide) hc
  have h2p : 0 < 2 ^ cn p (nS ν) := Nat.pow_pos (by decide)
  have := HH_le hc (wyR_le ν p) (m := 2 ^ cn p (nS ν) - 1) (by omega) (cn p (nS ν))
  unfold miV
  omega
end
theorem st_round : ST_round Rel := by
  intro μ ν a1 a2 a3 h
  have hS := g_S h.2
  unfold vs_round md_round
  rw [x_isVan, m_isVan, x_isDay, m_isDay, within_eq, in_eq, mbv_s, mbv_s, mbv_s, mbv_s, mbv_s, mbv_s]
  by_cases c1 : ¬ (ix a1 3 = true)
  · rw [ifb_f c1, ifb_f c1]; exact ⟨-1, μ, ν, rfl, rfl, h⟩
  rw [Classical.not_not] at c1
  rw [ifb_t c1, ifb_t c1]
  obtain ⟨v, hv, rfl⟩ := ix_t c1 (by omega)
  by_cases c2 : ¬ (ix a2 200 = true)
  · rw [ifb_f c2, ifb_f c2]; exact ⟨-1, μ, ν, rfl, rfl, h⟩
  rw [Classical.not_not] at c2
  rw [ifb_t c2, ifb_t c2]
  obtain ⟨d, hd, rfl⟩ := ix_t c2 (by omega)
  by_cases c3 : ¬ (wi a3 (-1) 8 = true)
  · rw [ifb_f c3, ifb_f c3]; exact ⟨-1, μ, ν, rfl, rfl, h⟩
  rw [Classical.not_not] at c3
  rw [ifb_t c3, ifb_t c3]
  obtain ⟨x, x1, x2⟩ := x_stopsOn h.1 h.2 hv hd
  obtain ⟨w, w1, w2⟩ := m_laysV h.2 hv hd
  have hl : laid ν w (fun s => visB ν v s d) := w2
  have hcl := cn_le (fun s => visB ν v s d) (nS ν)
  rw [x1, mbv_s, w1, mbv_s, w2.2.1]
  by_cases c : cn (fun s => visB ν v s d) (nS ν) ≤ 8
  · obtain ⟨u, u1, u2⟩ := x_shortest h x2 c
    obtain ⟨z, z1, z2, z3⟩ := m_milesF h.2 hl c
    have hmi := mi_lt (ν := ν) (p := fun s => visB ν v s d) c
    have hr : Rel u z := Rel_abs u2.1 (FLm_abs z2.1) h
    have hu : Rel u ν := Rel_abs u2.1 rfl h
    rw [u1, mbm_s, if_pos (show nI (cn (fun s => visB ν v s d) (nS ν)) ≤ 8 from nI_le (b := 8) c (by decide)), z1, mbm_s, if_neg (nI_m2 (by omega))]
    by_cases d1 : a3 = -1
    · rw [if_pos d1, if_pos d1]; exact ⟨_, u, z, rfl, rfl, hr⟩
    rw [if_neg d1, if_neg d1]
    by_cases d2 : a3 = 8
    · rw [if_pos d2, if_pos d2, x_minutes hu x2, mbv_s, m_haltsF h.2 z2, mbv_s, z2.1.2 4 (by decide)]
      exact ⟨_, u, z, rfl, rfl, hr⟩
    rw [if_neg d2, if_neg d2]
    have hj : ∃ j, j < 8 ∧ a3 = nI j := by
      unfold wi at c3
      rw [Bool.and_eq_true, decide_eq_true_eq, decide_eq_true_eq, Int32.le_iff_toInt_le, Int32.le_iff_toInt_le] at c3
      have e1 : (-1 : Int32).toInt = -1 := rfl
      have e8 : (8 : Int32).toInt = 8 := rfl
      have hn1 : a3.toInt ≠ -1 := fun q => d1 (Int32.toInt_inj.mp (by rw [q, e1]))
      have hn8 : a3.toInt ≠ 8 := fun q => d2 (Int32.toInt_inj.mp (by rw [q, e8]))
      obtain ⟨j, j1, j2⟩ := nI_of (x := a3) (by rw [Int32.lt_iff_toInt_lt]; have e0 : (0 : Int32).toInt = 0 := rfl; omega)
      refine ⟨j, ?_, j2⟩
      have := nI_toInt j1
      rw [← j2] at this
      omega
    obtain ⟨j, hj8, rfl⟩ := hj
    rw [z2.2.1]
    by_cases d3 : j < cn (fun s => visB ν v s d) (nS ν)
    · rw [if_pos (nI_lt d3 (by omega)), x_stopAt hS.2 c u2 d3, mbv_s, m_stopAtF h.2 z2 c z3 d3, mbv_s]
      exact ⟨_, u, z, rfl, rfl, hr⟩
    · rw [if_neg (fun q => d3 ((nI_ltI (by omega) (by omega)).mp q))]
      unfold vs_Rounds_stopAt
      rw [u2.2.1, if_neg (fun q => d3 ((nI_ltI (by omega) (by omega)).mp q)), mbv_s]
      exact ⟨-1, u, z, rfl, rfl, hr⟩
  · rw [x_short_no h x2 (by omega), mbm_s, if_pos rfl, if_neg (show ¬ (nI (cn (fun s => visB ν v s d) (nS ν)) ≤ 8) from nI_ge (a := 8) (by omega) (by omega))]
    exact ⟨-2, _, w, rfl, rfl, Rel_abs (absX_s rfl) (FLm_abs w2.1) h⟩
