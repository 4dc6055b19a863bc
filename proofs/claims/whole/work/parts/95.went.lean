/-! what goes with a stop -/
theorem in02 (a : Int32) : wi a 0 2 = true ↔ a = 0 ∨ a = 1 ∨ a = 2 := by
  constructor
  · intro z
    obtain ⟨k, k1, k2, k3⟩ := wi_r (lo := 0) (hi := 2) z (by decide) (by decide)
    rcases (show k = 0 ∨ k = 1 ∨ k = 2 by omega) with rfl | rfl | rfl
    · exact Or.inl k3
    · exact Or.inr (Or.inl k3)
    · exact Or.inr (Or.inr k3)
  · rintro (rfl | rfl | rfl) <;> decide
theorem tb_0p (S : Nat) : ∀ s, s < 32 → tb (0 : Int32) s = (decide (s < S) && (fun _ : Nat => false) s) := fun s _ => by rw [tb_zero]; simp
theorem cn_false : ∀ n, cn (fun _ => false) n = 0
  | 0 => rfl
  | n + 1 => by simp only [cn]; rw [cn_false n]; rfl
theorem went0 {μ ν : Mm} (h : Rel μ ν) {s : Nat} (hs : s < nS ν) : ∃ v u w, vs_milesSaved μ (nI s) = some (v, u) ∧ (mrd ν 13 10 (nI s) fun x7 => if x7 = -1 then some (0, ν) else mrd ν 13 10 (nI s) fun x9 => mrd ν 14 10 (nI s) fun x10 => mbv (md_laysTold ν x9 x10 (-1)) fun μ12 => if μ12 0 77 ≤ 8 then mbm (md_miles μ12) fun x14 μ15 => mrd μ15 13 10 (nI s) fun x16 => mrd μ15 14 10 (nI s) fun x17 => mbv (md_laysTold μ15 x16 x17 (nI s)) fun μ19 => mbm (md_miles μ19) fun x20 μ21 => some (x14 - x20, μ21) else some (-2, μ12)) = some (v, w) ∧ Rel u w := by
  have hS := g_S h.2
  have e35 : μ 35 = ν 13 := h.1.2.2.1.2.2.2.1
  have e36 : μ 36 = ν 14 := h.1.2.2.1.2.2.2.2.1
  have hs10 : s < 10 := by omega
  unfold vs_milesSaved vs_Stops_toldWith
  simp only [mrd_nI hs10 (show 10 < 2 ^ 31 by decide), e35, e36]
  by_cases c : ν 13 s = -1
  · rw [if_pos c, if_pos c, mbv_s]
    have hc : cn (fun _ : Nat => false) (nS ν) ≤ 8 := by rw [cn_false]; omega
    obtain ⟨u, u1, u2⟩ := x_shortest (p := fun _ => false) h (tb_0p (nS ν)) hc
    have hu : Rel u ν := Rel_abs u2.1 rfl h
    have ez : (0 : Int32) &&& (((1 : Int32) <<< (nI s &&& 31)) ^^^ (-1)) = 0 := tb_ext (fun j hj => by rw [tb_and, tb_zero]; simp)
    obtain ⟨u', v1, v2⟩ := x_shortest (p := fun _ => false) hu (tb_0p (nS ν)) hc
    have hmi := mi_lt (ν := ν) (p := fun _ => false) hc
    rw [u1, mbm_s, ez, v1, mbm_s, if_neg (nI_m2 (by omega)), if_neg (nI_m2 (by omega)), Int32.sub_self]
    exact ⟨0, u', ν, rfl, rfl, Rel_abs (v2.1.trans u2.1) rfl h⟩
  · rw [if_neg c, if_neg c]
    have gs := h.2.2.2.2.1.2 s hs
    obtain ⟨v, v1, v2⟩ := gs.2.2.2.1.resolve_left c
    obtain ⟨d, d1, d2⟩ := gs.2.2.2.2.1
    have hx : ∀ t, t < 32 → tb (μ 41 (14 * v + d)) t = (decide (t < nS ν) && (fun t => decide (ν 13 t = ν 13 s) && decide (ν 14 t = ν 14 s) && !decide (nI t = -1)) t) := by
      intro t ht
      rw [h.1.2.2.2.2.2.2.2.2.2.2.2.1 v (by omega) d (by omega) t ht, v2, d2]
      have : ¬ (nI t = -1) := nI_m1 (by omega)
      simp [this, Bool.and_assoc]
    have hx2 : ∀ t, t < 32 → tb (μ 41 (14 * v + d) &&& (((1 : Int32) <<< (nI s &&& 31)) ^^^ (-1))) t = (decide (t < nS ν) && (fun t => decide (ν 13 t = ν 13 s) && decide (ν 14 t = ν 14 s) && !decide (nI t = nI s)) t) := by
      intro t ht
      rw [tb_clr _ (by omega) ht, hx t ht]
      have e1 : ¬ (nI t = -1) := nI_m1 (by omega)
      have e2 : (nI t = nI s) ↔ t = s := nI_eq (by omega) (by omega)
      simp [e1, e2, Bool.and_assoc]
    obtain ⟨w, w1, w2⟩ := m_laysT h.2 (ν 13 s) (ν 14 s) (-1)
    have hl : laid ν w (fun t => decide (ν 13 t = ν 13 s) && decide (ν 14 t = ν 14 s) && !decide (nI t = -1)) := w2
    generalize hp : (fun t => decide (ν 13 t = ν 13 s) && decide (ν 14 t = ν 14 s) && !decide (nI t = -1)) = p at hx hl w2
    have hcl := cn_le p (nS ν)
    rw [w1, mbv_s, w2.2.1, show ν 13 s * 14 + ν 14 s = nI (14 * v + d) by rw [v2, d2]; exact ix3 14 v d, mrd_nI (by omega) (by decide), mbv_s]
    by_cases cc : cn p (nS ν) ≤ 8
    · obtain ⟨u, u1, u2⟩ := x_shortest h hx cc
      have hu : Rel u ν := Rel_abs u2.1 rfl h
      obtain ⟨z, z1, z2, z3⟩ := m_milesF h.2 hl cc
      have gz := Good_abs (FLm_abs z2.1) h.2
      have e13 : z 13 = ν 13 := z2.1.1 13 (by decide) (by decide) (by decide)
      have e14 : z 14 = ν 14 := z2.1.1 14 (by decide) (by decide) (by decide)
      rw [u1, mbm_s, if_pos (show nI (cn p (nS ν)) ≤ 8 from nI_le (b := 8) cc (by decide)), z1, mbm_s, e13, e14]
      obtain ⟨w', y1, y2⟩ := m_laysT gz (ν 13 s) (ν 14 s) (nI s)
      rw [e13, e14, nS_fl z2.1] at y2
      have hl2 : laid ν w' (fun t => decide (ν 13 t = ν 13 s) && decide (ν 14 t = ν 14 s) && !decide (nI t = nI s)) := ⟨FLm_t z2.1 y2.1, y2.2⟩
      have hle : cn (fun t => decide (ν 13 t = ν 13 s) && decide (ν 14 t = ν 14 s) && !decide (nI t = nI s)) (nS ν) ≤ cn p (nS ν) := by
        rw [← hp, cn_cong (f := fun t => decide (ν 13 t = ν 13 s) && decide (ν 14 t = ν 14 s) && !decide (nI t = -1)) (g := fun t => decide (ν 13 t = ν 13 s) && decide (ν 14 t = ν 14 s)) (fun t ht => by
          have e1 : ¬ (nI t = -1) := nI_m1 (by omega)
          simp [e1])]
        exact cn_mono (fun t ht => by
          rw [Bool.and_eq_true] at ht
          exact ht.1) _
      generalize (fun t => decide (ν 13 t = ν 13 s) && decide (ν 14 t = ν 14 s) && !decide (nI t = nI s)) = p2 at hx2 hl2 hle
      obtain ⟨u', s1, s2⟩ := x_shortest hu hx2 (by omega)
      obtain ⟨z', t1, t2, t3⟩ := m_milesF h.2 hl2 (by omega)
      have hmi := mi_lt (ν := ν) (p := p) cc
      have hmi2 := mi_lt (ν := ν) (p := p2) (by omega)
      rw [y1, mbv_s, s1, mbm_s, t1, mbm_s, if_neg (nI_m2 (by omega)), if_neg (nI_m2 (by omega))]
      exact ⟨_, u', z', rfl, rfl, Rel_abs (s2.1.trans u2.1) (FLm_abs t2.1) h⟩
    · have hu : Rel (mset μ 8 4 0) ν := Rel_abs (absX_s rfl) rfl h
      rw [x_short_no h hx (by omega), mbm_s, if_neg (show ¬ (nI (cn p (nS ν)) ≤ 8) from nI_ge (a := 8) (by omega) (by omega))]
      generalize (fun t => decide (ν 13 t = ν 13 s) && decide (ν 14 t = ν 14 s) && !decide (nI t = nI s)) = p2 at hx2
      by_cases c2 : cn p2 (nS ν) ≤ 8
      · obtain ⟨u', s1, s2⟩ := x_shortest hu hx2 c2
        rw [s1, mbm_s, if_pos rfl]
        exact ⟨-2, u', w, rfl, rfl, Rel_abs (s2.1.trans (absX_s rfl)) (FLm_abs w2.1) h⟩
      · rw [x_short_no hu hx2 (by omega), mbm_s, if_pos rfl]
        exact ⟨-2, _, w, rfl, rfl, Rel_abs ((absX_s rfl).trans (absX_s rfl)) (FLm_abs w2.1) h⟩
theorem st_went : ST_went Rel := by
  intro μ ν a1 a2 h
  have hS := g_S h.2
  unfold vs_went md_went
  rw [x_hasS h.1 h.2, m_isS h.2, in_eq, mbv_s, mbv_s, mbv_s]
  by_cases c1 : ¬ (ix a1 (nS ν) = true)
  · rw [ifb_f c1, ifb_f c1]; exact ⟨-1, μ, ν, rfl, rfl, h⟩
  rw [Classical.not_not] at c1
  rw [ifb_t c1, ifb_t c1]
  obtain ⟨s, hs, rfl⟩ := ix_t c1 (by omega)
  by_cases c2 : ¬ (wi a2 0 2 = true)
  · have n0 : ¬ (a2 = 0) := fun z => c2 ((in02 a2).mpr (Or.inl z))
    have n1 : ¬ (a2 = 1) := fun z => c2 ((in02 a2).mpr (Or.inr (Or.inl z)))
    have n2 : ¬ (a2 = 2) := fun z => c2 ((in02 a2).mpr (Or.inr (Or.inr z)))
    rw [ifb_f c2, if_neg n0, if_neg n1, if_neg n2]
    exact ⟨-1, μ, ν, rfl, rfl, h⟩
  rw [Classical.not_not] at c2
  rw [ifb_t c2]
  rcases (in02 a2).mp c2 with rfl | rfl | rfl
  · rw [if_pos rfl, if_neg (show ¬ ((0 : Int32) = 1) by decide), if_neg (show ¬ ((0 : Int32) = 2) by decide)]
    obtain ⟨v, u, w, h1, h2, h3⟩ := went0 h hs
    rw [h1, mbm_s]
    exact ⟨v, u, w, rfl, h2, h3⟩
  · rw [if_neg (show ¬ ((1 : Int32) = 0) by decide), if_pos rfl, if_pos rfl, mrd_nI (by omega) (by decide), bitCount_eq, mbv_s, x_readersOf h.1 h.2 (by omega), m_readersOf h.2, mbv_s]
    exact ⟨_, μ, ν, rfl, rfl, h⟩
  · rw [if_neg (show ¬ ((2 : Int32) = 0) by decide), if_neg (show ¬ ((2 : Int32) = 1) by decide), if_pos rfl, if_neg (show ¬ ((2 : Int32) = 1) by decide), if_pos rfl, x_loansOf h.1 h.2 (by omega), mbv_s, mrd_nI (by omega) (by decide)]
    exact ⟨_, μ, ν, rfl, rfl, h⟩
