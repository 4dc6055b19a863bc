/-! lost days -/
theorem x_daF {μ ν : Mm} (h : Rel μ ν) {s d0 n : Nat} (hs : s < nS ν) (hn : d0 + n ≤ 200) (hn1 : 1 ≤ d0 + n) (b : Int32) : ∃ u, vs_putElsewhere_l12 μ (nI s) (nI (d0 + n - 1)) b (-1) (-1) (-1) (nI d0) = some ((daF ν s b d0 n).1, (daF ν s b d0 n).2.1, (daF ν s b d0 n).2.2, u) ∧ absX u = absX μ := by
  unfold vs_putElsewhere_l12
  obtain ⟨e, h1, u, h2, h3⟩ := miter_cnt (f := fun q : Int32 × Int32 × Int32 × Int32 × Mm => vs_putElsewhere_b12 q.2.2.2.2 (nI s) (nI (d0 + n - 1)) b q.1 q.2.1 q.2.2.1 q.2.2.2.1) (fun i (u : Mm) => ((daF ν s b d0 i).1, (daF ν s b d0 i).2.1, (daF ν s b d0 i).2.2, nI (d0 + i), u)) n (fun _ u => absX u = absX μ) (fun e => ∃ u, e = ((daF ν s b d0 n).1, (daF ν s b d0 n).2.1, (daF ν s b d0 n).2.2, u) ∧ absX u = absX μ) (fun i u hi hI => by
      left
      have hu : Rel u ν := Rel_abs hI rfl h
      obtain ⟨u', v1, v2⟩ := x_vaF hu hs (d := d0 + i) (by omega) (nI (d0 + n - 1)) b (daF ν s b d0 i)
      refine ⟨u', ?_, v2.trans hI⟩
      show vs_putElsewhere_b12 u (nI s) (nI (d0 + n - 1)) b (daF ν s b d0 i).1 (daF ν s b d0 i).2.1 (daF ν s b d0 i).2.2 (nI (d0 + i)) = _
      unfold vs_putElsewhere_b12
      rw [if_neg (fun z => by have := (nI_ltI (a := d0 + n - 1) (b := d0 + i) (by omega) (by omega)).mp z; omega), v1, mbv_s]
      simp only [un4]
      rw [nI_1]
      rfl) (fun u hI => ⟨_, by
      show vs_putElsewhere_b12 u (nI s) (nI (d0 + n - 1)) b (daF ν s b d0 n).1 (daF ν s b d0 n).2.1 (daF ν s b d0 n).2.2 (nI (d0 + n)) = _
      unfold vs_putElsewhere_b12
      rw [if_pos (nI_lt (by omega) (by omega))], u, rfl, hI⟩) FU 0 μ (by omega) (by unfold FU; omega) rfl
  exact ⟨u, by rw [← h2]; exact h1, h3⟩
theorem m_daF {ν w : Mm} (g : Good ν) {s d n m : Nat} (hs : s < nS ν) (hd : d < 200) (hm : m ≤ 28) (hn : d + 1 + n = min (d + m) 199 + 1) (b : Int32) (y : Int32) (hw : absM w = absM (pu2 ν s (-1) y)) : ∃ w' y', md_putsStop_l15 w (nI s) (nI d) (nI m) b (-1) (nI (d + 1)) = some ((daF ν s b (d + 1) n).1, w') ∧ ((daF ν s b (d + 1) n).1 ≠ -1 → y' = (daF ν s b (d + 1) n).2.2) ∧ absM w' = absM (pu2 ν s (daF ν s b (d + 1) n).2.1 y') := by
  have edm : nI d + nI m = nI (d + m) := nI_add d m
  unfold md_putsStop_l15
  obtain ⟨e, h1, w', y', h2, h3, h4⟩ := miter_cnt (f := fun q : Int32 × Int32 × Mm => md_putsStop_b15 q.2.2 (nI s) (nI d) (nI m) b q.1 q.2.1) (fun i (u : Mm) => ((daF ν s b (d + 1) i).1, nI (d + 1 + i), u)) n (fun i u => ∃ y', ((daF ν s b (d + 1) i).1 ≠ -1 → y' = (daF ν s b (d + 1) i).2.2) ∧ absM u = absM (pu2 ν s (daF ν s b (d + 1) i).2.1 y')) (fun e => ∃ w' y', e = ((daF ν s b (d + 1) n).1, w') ∧ ((daF ν s b (d + 1) n).1 ≠ -1 → y' = (daF ν s b (d + 1) n).2.2) ∧ absM w' = absM (pu2 ν s (daF ν s b (d + 1) n).2.1 y')) (fun i u hi hI => by
      left
      obtain ⟨y', i1, i2⟩ := hI
      obtain ⟨w', y2, v1, v2, v3⟩ := m_vaF g hs (d := d + 1 + i) (by omega) (nI d) (nI m) b (daF ν s b (d + 1) i) (daF_ok i (by omega)) y' i1 i2
      refine ⟨w', ?_, y2, v2, v3⟩
      show md_putsStop_b15 u (nI s) (nI d) (nI m) b (daF ν s b (d + 1) i).1 (nI (d + 1 + i)) = _
      unfold md_putsStop_b15
      rw [edm, if_neg (fun z => by have := (nI_ltI (a := d + m) (b := d + 1 + i) (by omega) (by omega)).mp z; omega), if_neg (show ¬ ((199 : Int32) < nI (d + 1 + i)) from fun z => by have := (nI_ltI (a := 199) (b := d + 1 + i) (by decide) (by omega)).mp z; omega), v1, mbv_s]
      simp only [un2]
      rw [nI_1]
      rfl) (fun u hI => by
      obtain ⟨y', i1, i2⟩ := hI
      refine ⟨((daF ν s b (d + 1) n).1, u), ?_, u, y', rfl, i1, i2⟩
      show md_putsStop_b15 u (nI s) (nI d) (nI m) b (daF ν s b (d + 1) n).1 (nI (d + 1 + n)) = _
      unfold md_putsStop_b15
      rw [edm, hn]
      by_cases c : d + m ≤ 199
      · rw [Nat.min_eq_left c, if_pos (nI_lt (by omega) (by omega))]
      · rw [Nat.min_eq_right (by omega), if_neg (fun z => by have := (nI_ltI (a := d + m) (b := 199 + 1) (by omega) (by omega)).mp z; omega), if_pos (by decide)]) FU 0 w (by omega) (by unfold FU; omega) ⟨y, fun z => absurd rfl z, hw⟩
  exact ⟨w', y', by rw [← h2]; exact h1, h3, h4⟩
theorem pu_rel {μ ν : Mm} (h : Rel μ ν) {s : Nat} {x y y' : Int32} (hx : gO x 199) (hy : x ≠ -1 → gI y 2) (h1 : x ≠ -1 → y' = y) (h2 : x = -1 → y' = -1) : Rel (mset (mset μ 37 s x) 38 s y') (pu2 ν s x y) := by
  refine ⟨?_, pu2_good h.2 hx hy⟩
  obtain ⟨n, rb, ⟨s1, s2, s3, s4, s5, s6, s7⟩, rr, rv, ra, hpv, hrest⟩ := h.1
  refine ⟨n, rb, ⟨s1, s2, s3, s4, s5, ?_, s7⟩, rr, rv, ra, fun t ht => ?_, hrest⟩
  · show upd (μ 37) s x = upd (ν 24) s x
    rw [s6]
  · show (upd (ν 24) s x t ≠ -1 → upd (μ 38) s y' t = upd (ν 25) s y t) ∧ (upd (ν 24) s x t = -1 → upd (μ 38) s y' t = -1)
    by_cases e : t = s
    · subst e; rw [upd_s, upd_s, upd_s]; exact ⟨h1, h2⟩
    · rw [upd_n e, upd_n e, upd_n e]; exact hpv t ht
theorem pt_rel {μ ν : Mm} (h : Rel μ ν) {v d s : Nat} (hv : v < 3) (hd : d < 200) (hs : s < nS ν) : Rel (mset μ 42 (200 * v + d) (μ 42 (200 * v + d) ||| ((1 : Int32) <<< (nI s &&& 31)))) (mset ν 23 (2000 * v + 10 * d + s) 1) := by
  have hS := g_S h.2
  obtain ⟨⟨n, rb, rs, rr, rv, ra, hpv, hhad, hkind, hout, hrd, htold, hput, hrest⟩, ⟨gn, gb, gsh, gst, grd, gas, gha, glo, gpu, grest⟩⟩ := h
  refine ⟨⟨n, rb, rs, rr, rv, ra, hpv, hhad, hkind, hout, hrd, htold, fun v' hv' d' hd' s' hs' => ?_, hrest⟩, ⟨gn, gb, gsh, gst, grd, gas, gha, glo, fun v' hv' d' hd' s' hs' => ?_, grest⟩⟩
  · show tb (upd (μ 42) (200 * v + d) (μ 42 (200 * v + d) ||| ((1 : Int32) <<< (nI s &&& 31))) (200 * v' + d')) s' = (decide (s' < 10) && decide (upd (ν 23) (2000 * v + 10 * d + s) 1 (2000 * v' + 10 * d' + s') ≠ 0))
    by_cases e : 200 * v' + d' = 200 * v + d
    · have ev : v' = v := by omega
      have ed : d' = d := by omega
      subst ev; subst ed
      rw [upd_s, tb_set _ (by omega) hs', hput v' hv' d' hd' s' hs']
      by_cases e2 : s' = s
      · subst e2
        rw [upd_s]
        have : s' < 10 := by omega
        simp [this]
      · rw [upd_n (by omega)]
        simp [e2]
    · rw [upd_n e]
      by_cases c : s' < 10
      · rw [upd_n (by omega)]; exact hput v' hv' d' hd' s' hs'
      · rw [hput v' hv' d' hd' s' hs']; simp [c]
  · show (upd (ν 23) (2000 * v + 10 * d + s) 1 (2000 * v' + 10 * d' + s') = 0 ∨ upd (ν 23) (2000 * v + 10 * d + s) 1 (2000 * v' + 10 * d' + s') = 1) ∧ (nS ν ≤ s' → upd (ν 23) (2000 * v + 10 * d + s) 1 (2000 * v' + 10 * d' + s') = 0)
    by_cases e : 2000 * v' + 10 * d' + s' = 2000 * v + 10 * d + s
    · have es : s' = s := by omega
      rw [e, upd_s]
      exact ⟨Or.inr rfl, fun q => by omega⟩
    · rw [upd_n e]; exact gpu v' hv' d' hd' s' hs'
theorem put_eq {μ ν : Mm} (h : Rel μ ν) {s d m : Nat} (hs : s < nS ν) (hd : d < 200) (hm : m ≤ 28) (hm1 : 1 ≤ m) (b : Int32) : ∃ r u w, vs_putElsewhere μ (nI s) (nI (d + 1)) (nI (min (d + m) 199)) b = some (r, u) ∧ md_putsStop ν (nI s) (nI d) (nI m) b = some (r, w) ∧ Rel u w ∧ nS w = nS ν := by
  have hS := g_S h.2
  have hs10 : s < 10 := by omega
  obtain ⟨n, hn⟩ : ∃ n, d + 1 + n = min (d + m) 199 + 1 := ⟨min (d + m) 199 - d, by omega⟩
  have hL : min (d + m) 199 = d + 1 + n - 1 := by omega
  unfold vs_putElsewhere md_putsStop
  obtain ⟨u, u1, u2⟩ := x_daF h hs (d0 := d + 1) (n := n) (by omega) (by omega) b
  have hu : Rel u ν := Rel_abs u2 rfl h
  have ew : absM (mset ν 24 s (-1)) = absM (pu2 ν s (-1) (ν 25 s)) := by
    unfold pu2
    congr 1
    funext c i
    by_cases e : c = 25
    · subst e
      by_cases e2 : i = s
      · subst e2; rw [mset_s, mset_oo (by decide)]
      · rw [mset_n e2]
    · rw [mset_o e]
  obtain ⟨w, y, w1, w2, w3⟩ := m_daF h.2 hs hd hm hn b (ν 25 s) ew
  rw [hL, u1, mbv_s, mwr_nI hs10 (by decide), nI_1, w1, mbv_s]
  simp only [un2, un4]
  have ok := daF_ok (ν := ν) (s := s) (b := b) (d0 := d + 1) n (by omega)
  generalize daF ν s b (d + 1) n = a at *
  unfold md_putsStop_j107
  have eS : nS w = nS ν := by
    unfold nS
    have : absM w 0 2 = absM (pu2 ν s a.2.1 y) 0 2 := by rw [w3]
    have this : w 0 2 = ν 0 2 := this
    rw [this]
  rcases ok with ⟨o1, o2, o3⟩ | ⟨o1, ⟨d', d1, d2⟩, v', v1, v2⟩
  · rw [if_pos o1, if_pos o1]
    unfold vs_Stops_forgetPut
    rw [mwr_nI hs10 (by decide), mwr_nI hs10 (by decide), mbv_s]
    rw [o2] at w3
    exact ⟨false, _, w, rfl, rfl, Rel_abs rfl w3 (pu_rel hu (y := y) (Or.inl rfl) (fun z => absurd rfl z) (fun z => absurd rfl z) (fun _ => rfl)), eS⟩
  · rw [if_neg o1, if_neg o1]
    have ey := w2 o1
    rw [v2] at ey
    rw [d2, ey] at w3
    have e25 : w 25 s = nI v' := by
      have : absM w 25 s = absM (pu2 ν s (nI d') (nI v')) 25 s := by rw [w3]
      have this : w 25 s = mset (mset ν 24 s (nI d')) 25 s (nI v') 25 s := this
      rw [this, mset_s]
    have e24 : w 24 s = nI d' := by
      have : absM w 24 s = absM (pu2 ν s (nI d') (nI v')) 24 s := by rw [w3]
      have this : w 24 s = mset (mset ν 24 s (nI d')) 25 s (nI v') 24 s := this
      rw [this, mset_oo (by decide), mset_s]
    unfold vs_Stops_keepPut md_putAt
    have ex : nI v' * (200 : Int32) + nI d' = nI (200 * v' + d') := ix3 200 v' d'
    have em : (2000 : Int32) * nI v' + 10 * nI d' + nI s = nI (2000 * v' + 10 * d' + s) := by
      rw [show (2000 : Int32) * nI v' = nI (2000 * v') from pk_mul 2000 v', show (10 : Int32) * nI d' = nI (10 * d') from pk_mul 10 d', nI_add, nI_add]
    rw [mwr_nI hs10 (by decide), mwr_nI hs10 (by decide), d2, v2, ex, mrd_nI (by omega) (by decide), mwr_nI (by omega) (by decide), mbv_s, mrd_nI hs10 (by decide), mrd_nI hs10 (by decide), e25, e24, mbv_s, em, mwr_nI (by omega) (by decide), nar1]
    have hr := pt_rel (pu_rel hu (s := s) (x := nI d') (y := nI v') (y' := nI v') (Or.inr ⟨d', by omega, rfl⟩) (fun _ => ⟨v', by omega, rfl⟩) (fun _ => rfl) (fun z => absurd z (nI_m1 (by omega)))) v1 d1 (s := s) (show s < nS ν from hs)
    refine ⟨true, _, _, rfl, rfl, Rel_abs rfl ?_ hr, ?_⟩
    · rw [absM_in rfl, absM_in rfl, w3]
    · show nS (mset w 23 _ 1) = nS ν
      rw [← eS]
      rfl
theorem lose_rel {μ ν : Mm} (h : Rel μ ν) {v d : Nat} (hv : v < 3) (hd : d < 200) : Rel (mset (mset μ 43 (200 * v + d) 1) 4 13 (μ 4 13 + 1)) (mset (mset ν 22 (200 * v + d) 1) 0 36 (ν 0 36 + 1)) := by
  obtain ⟨⟨⟨n1, n2, n3, n4, n5, n6, n7, n8, n9⟩, rb, rs, rr, rv, ra, hpv, hhad, hkind, hout, hrd, htold, hput, hlost, hrest⟩, ⟨gn, gb, gsh, gst, grd, gas, gha, glo, grest⟩⟩ := h
  refine ⟨⟨⟨n1, n2, n3, n4, n5, n6, ?_, n8, n9⟩, rb, rs, rr, rv, ra, hpv, hhad, hkind, hout, hrd, htold, hput, fun v' hv' d' hd' => ?_, hrest⟩, ⟨gn, gb, gsh, gst, grd, gas, gha, fun v' hv' d' hd' => ?_, grest⟩⟩
  · show μ 4 13 + 1 = ν 0 36 + 1
    rw [n7]
  · show upd (μ 43) (200 * v + d) 1 (200 * v' + d') = 0 ↔ upd (ν 22) (200 * v + d) 1 (200 * v' + d') = 0
    by_cases e : 200 * v' + d' = 200 * v + d
    · rw [e, upd_s, upd_s]
    · rw [upd_n e, upd_n e]; exact hlost v' hv' d' hd'
  · show upd (ν 22) (200 * v + d) 1 (200 * v' + d') = 0 ∨ upd (ν 22) (200 * v + d) 1 (200 * v' + d') = 1
    by_cases e : 200 * v' + d' = 200 * v + d
    · rw [e, upd_s]; exact Or.inr rfl
    · rw [upd_n e]; exact glo v' hv' d' hd'
theorem st_lostDay : ST_lostDay Rel := by
  intro μ ν a1 a2 a3 b h
  have hS := g_S h.2
  have hT := g_T h.2
  unfold vs_lostDay md_lostDay
  have no : vs_lostDay_j47 μ a1 a2 a3 b = some (-1, μ) := rfl
  rw [x_isVan, m_isVan, within_eq, within_eq, within_eq, in_eq, in_eq, in_eq, x_T h.1, no]
  simp only [mbv_s]
  by_cases c1 : ¬ (ix a1 3 = true)
  · rw [ifb_f c1, ifb_f c1]; exact ⟨-1, μ, ν, rfl, rfl, h⟩
  rw [Classical.not_not] at c1
  rw [ifb_t c1, ifb_t c1]
  obtain ⟨v, hv, rfl⟩ := ix_t c1 (by omega)
  by_cases c2 : ¬ (wi a2 (ν 0 0) 199 = true)
  · rw [ifb_f c2, ifb_f c2]; exact ⟨-1, μ, ν, rfl, rfl, h⟩
  rw [Classical.not_not] at c2
  rw [ifb_t c2, ifb_t c2]
  obtain ⟨d, d1, d2, rfl⟩ := wi_r (lo := nT ν) (hi := 199) (by rw [← hT.1]; exact c2) (by decide) (by omega)
  by_cases c3 : ¬ (wi a3 1 28 = true)
  · rw [ifb_f c3, ifb_f c3]; exact ⟨-1, μ, ν, rfl, rfl, h⟩
  rw [Classical.not_not] at c3
  rw [ifb_t c3, ifb_t c3]
  obtain ⟨m, m1, m2, rfl⟩ := wi_r (lo := 1) (hi := 28) c3 (by decide) (by decide)
  by_cases c4 : ¬ (wi b 1 1000 = true)
  · rw [ifb_f c4, ifb_f c4]; exact ⟨-1, μ, ν, rfl, rfl, h⟩
  rw [Classical.not_not] at c4
  rw [ifb_t c4, ifb_t c4]
  unfold vs_lostDay_j48
  rw [if_neg (show ¬ ((1 : Int32) = 0) by decide), x_isLost h.1 hv (by omega), mbv_s, show (200 : Int32) * nI v + nI d = nI (200 * v + d) from ix2 200 v d, mrd_nI (by omega) (by decide)]
  by_cases c5 : ¬ (ν 22 (200 * v + d) = 0)
  · rw [ifb_t (by simp [c5]), if_neg c5]; exact ⟨-1, μ, ν, rfl, rfl, h⟩
  rw [Classical.not_not] at c5
  rw [ifb_f (by simp [c5]), if_pos c5]
  obtain ⟨x, x1, x2⟩ := x_stopsOn h.1 h.2 hv (d := d) (by omega)
  have l66 : md_lostDay_l66 ν (nI v) (nI d) (nI m) b 0 0 = some (mkb (fun s => visB ν v s d) (nS ν)) := by
    unfold md_lostDay_l66
    refine set_loop (f := md_lostDay_b66 ν (nI v) (nI d) (nI m) b) (n := nS ν) (fun s => visB ν v s d) (by omega) (fun i a hi => ?_) (fun a => ?_)
    · unfold md_lostDay_b66
      rw [hS.1, if_neg (nI_ge hi (by omega)), m_isVisited hv (by omega) (by omega), mbv_s, nI_1]
      by_cases c : visB ν v i d = true
      · rw [ifb_t c, if_pos c]
      · rw [ifb_f c, if_neg c]
    · unfold md_lostDay_b66
      rw [hS.1, if_pos (nI_le (Nat.le_refl _) (by omega))]
  have ex : x = mkb (fun s => visB ν v s d) (nS ν) := mkb_of (by omega) x2
  rw [x1, mbv_s, l66, mbv_s, ← ex]
  unfold vs_Stops_lose
  rw [show nI v * (200 : Int32) + nI d = nI (200 * v + d) from ix3 200 v d, mwr_nI (by omega) (by decide), mst_s, mbv_s, mset_oo (by decide), mwr_nI (by omega) (by decide), mst_s, mset_oo (by decide), nar1]
  have hr := lose_rel h hv (d := d) (by omega)
  have eL : jmin (nI d + nI m) 199 = nI (min (d + m) 199) := by
    rw [nI_add]
    unfold jmin
    by_cases c : 199 < d + m
    · rw [if_pos (show (199 : Int32) < nI (d + m) from nI_lt (a := 199) c (by omega)), Nat.min_eq_right (by omega)]; rfl
    · rw [if_neg (show ¬ ((199 : Int32) < nI (d + m)) from fun z => c ((nI_ltI (a := 199) (by decide) (by omega)).mp z)), Nat.min_eq_left (by omega)]
  rw [eL]
  unfold vs_lostDay_l106 md_lostDay_l135
  obtain ⟨e, e', h1, h2, h3, h4⟩ := lock_loop (f := fun q : Int32 × Int32 × Mm => vs_lostDay_b106 q.2.2 (nI d) b x (nI (min (d + m) 199)) q.1 q.2.1) (f' := fun q : Int32 × Int32 × Mm => md_lostDay_b135 q.2.2 (nI d) (nI m) b x q.1 q.2.1) (A := Int32 × Mm × Mm) (fun i a => (a.1, nI i, a.2.1)) (fun i a => (a.1, nI i, a.2.2)) (nS ν) (fun _ a => Rel a.2.1 a.2.2 ∧ nS a.2.2 = nS ν) (fun e e' => e.1 = e'.1 ∧ Rel e.2 e'.2) (fun i a hi hI => by
      obtain ⟨k, u, w⟩ := a
      obtain ⟨i1, i2⟩ := hI
      have i1' : Rel u w := i1
      have i2' : nS w = nS ν := i2
      have hSw := (g_S i1'.2).1
      rw [i2'] at hSw
      have xS : u 4 12 = nI (nS ν) := (x_S i1'.1).trans hSw
      have bit : tb x i = visB ν v i d := by rw [x2 i (by omega)]; simp [hi]
      by_cases c : visB ν v i d = true
      · obtain ⟨r, u', w', p1, p2, p3, p4⟩ := put_eq i1' (s := i) (d := d) (m := m) (by rw [i2']; exact hi) (by omega) m2 m1 b
        have f1 : vs_lostDay_b106 u (nI d) b x (nI (min (d + m) 199)) k (nI i) = if bI r = 0 then some (.inl (k, nI (i + 1), u')) else some (.inl (k + 1, nI (i + 1), u')) := by
          unfold vs_lostDay_b106
          rw [xS, if_neg (nI_ge hi (by omega)), hasBit_eq _ (by omega), mbv_s, bit, ifb_t c, nI_1, p1, mbm_s, nI_1]
        have f2 : md_lostDay_b135 w (nI d) (nI m) b x k (nI i) = if bI r = 0 then some (.inl (k, nI (i + 1), w')) else some (.inl (k + 1, nI (i + 1), w')) := by
          unfold md_lostDay_b135
          rw [hSw, if_neg (nI_ge hi (by omega)), if_pos ((tb_sshr1 x (by omega)).mpr (by rw [bit]; exact c)), p2, mbm_s, nI_1]
        cases r
        · exact ⟨(k, u', w'), f1, f2, p3, p4.trans i2'⟩
        · exact ⟨(k + 1, u', w'), f1, f2, p3, p4.trans i2'⟩
      · refine ⟨(k, u, w), ?_, ?_, i1', i2'⟩
        · show vs_lostDay_b106 u (nI d) b x (nI (min (d + m) 199)) k (nI i) = _
          unfold vs_lostDay_b106
          rw [xS, if_neg (nI_ge hi (by omega)), hasBit_eq _ (by omega), mbv_s, bit, ifb_f c, nI_1 i]
        · show md_lostDay_b135 w (nI d) (nI m) b x k (nI i) = _
          unfold md_lostDay_b135
          rw [hSw, if_neg (nI_ge hi (by omega)), if_neg (fun z => c (by rw [← bit]; exact (tb_sshr1 x (by omega)).mp z)), nI_1]) (fun a hI => by
      obtain ⟨k, u, w⟩ := a
      obtain ⟨i1, i2⟩ := hI
      have i1' : Rel u w := i1
      have i2' : nS w = nS ν := i2
      have hSw := (g_S i1'.2).1
      rw [i2'] at hSw
      have xS : u 4 12 = nI (nS ν) := (x_S i1'.1).trans hSw
      refine ⟨(k, u), (k, w), ?_, ?_, rfl, i1'⟩
      · show vs_lostDay_b106 u (nI d) b x (nI (min (d + m) 199)) k (nI (nS ν)) = _
        unfold vs_lostDay_b106
        rw [xS, if_pos (nI_le (Nat.le_refl _) (by omega))]
      · show md_lostDay_b135 w (nI d) (nI m) b x k (nI (nS ν)) = _
        unfold md_lostDay_b135
        rw [hSw, if_pos (nI_le (Nat.le_refl _) (by omega))]) (nS ν) 0 FU (0, _, _) (by omega) (by unfold FU; omega) ⟨hr, rfl⟩
  obtain ⟨k, u⟩ := e
  obtain ⟨k', w⟩ := e'
  have h3' : k = k' := h3
  subst h3'
  have h1' : miter (fun q : Int32 × Int32 × Mm => vs_lostDay_b106 q.2.2 (nI d) b x (nI (min (d + m) 199)) q.1 q.2.1) FU (0, 0, mset (mset μ 43 (200 * v + d) 1) 4 13 (μ 4 13 + 1)) = some (k, u) := h1
  have h2' : miter (fun q : Int32 × Int32 × Mm => md_lostDay_b135 q.2.2 (nI d) (nI m) b x q.1 q.2.1) FU (0, 0, mset (mset ν 22 (200 * v + d) 1) 0 36 (ν 0 36 + 1)) = some (k, w) := h2
  rw [h1', h2', mbv_s, mbv_s]
  exact ⟨k, u, w, rfl, rfl, h4⟩
