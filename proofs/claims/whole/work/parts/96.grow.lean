/-! how a round grows -/
def pls (p : Nat → Bool) (s t : Nat) : Bool := p t || decide (t = s)
def halV (ν : Mm) (p : Nat → Bool) : Int32 := sm (fun s => if p s = true then ν 12 s else 0) (nS ν)
def grV (ν : Mm) (p : Nat → Bool) (s : Nat) (b : Int32) : Int32 := if 8 < cn p (nS ν) then -1 else if p s = true then 0 else if cn p (nS ν) = 8 then -1 else if nI (miV ν (pls p s)) * ν 0 4 + halV ν (pls p s) ≤ b then nI (miV ν (pls p s)) - nI (miV ν p) else -1
theorem pls_cn {p : Nat → Bool} {s n : Nat} (h : p s = false) (hn : s < n) : cn (pls p s) n = cn p n + 1 := cn_up (fun k hk => by unfold pls; simp [hk]) h (by unfold pls; simp) hn
theorem pls_cn0 {p : Nat → Bool} {s n : Nat} (hn : n ≤ s) : cn (pls p s) n = cn p n := cn_cong (fun k hk => by
  have : ¬ (k = s) := by omega
  unfold pls; simp [this])
theorem x_growth {μ ν : Mm} (h : Rel μ ν) {p : Nat → Bool} {x : Int32} (hx : ∀ s, s < 32 → tb x s = (decide (s < nS ν) && p s)) {s : Nat} (hs : s < nS ν) (b : Int32) : ∃ u, vs_Rounds_growth μ x (nI s) b = some (grV ν p s b, u) ∧ absX u = absX μ := by
  have hS := g_S h.2
  have hcl := cn_le p (nS ν)
  have hbit : vs_hasBit x (nI s) = some (p s) := by
    rw [hasBit_eq _ (by omega), hx s (by omega)]; simp [hs]
  unfold vs_Rounds_growth grV
  rw [bitCount_eq, mbv_s, bc_p (by omega) hx, hbit, mbv_s]
  by_cases c1 : 8 < cn p (nS ν)
  · rw [if_pos (show (8 : Int32) < nI (cn p (nS ν)) from nI_lt (a := 8) c1 (by omega)), if_pos c1]
    exact ⟨μ, rfl, rfl⟩
  rw [if_neg (show ¬ ((8 : Int32) < nI (cn p (nS ν))) from fun z => c1 ((nI_ltI (a := 8) (by decide) (by omega)).mp z)), if_neg c1]
  by_cases c2 : p s = true
  · rw [if_pos c2, ifb_t c2]
    have hj : vs_Rounds_growth_j30 μ x (nI s) b = some (0, μ) := by
      unfold vs_Rounds_growth_j30
      rw [hbit, mbv_s, ifb_t c2]
    rw [hj]
    refine ⟨μ, ?_, rfl⟩
    split <;> rfl
  · rw [if_neg c2, ifb_f c2]
    have c2' : p s = false := by simpa using c2
    by_cases c3 : cn p (nS ν) = 8
    · rw [if_pos (show nI (cn p (nS ν)) = 8 by rw [c3]; rfl), if_pos c3]
      exact ⟨μ, rfl, rfl⟩
    · rw [if_neg (show ¬ (nI (cn p (nS ν)) = 8) from nI_ne (b := 8) (by omega) (by decide) c3), if_neg c3]
      unfold vs_Rounds_growth_j30
      rw [hbit, mbv_s, ifb_f c2]
      have hx1 : ∀ t, t < 32 → tb (x ||| ((1 : Int32) <<< (nI s &&& 31))) t = (decide (t < nS ν) && pls p s t) := by
        intro t ht
        rw [tb_set _ (by omega) ht, hx t ht]
        unfold pls
        by_cases e : t = s
        · subst e; simp [hs]
        · simp [e]
      have hc1 : cn (pls p s) (nS ν) ≤ 8 := by rw [pls_cn c2' hs]; omega
      obtain ⟨u, u1, u2⟩ := x_shortest h hx1 hc1
      have hu : Rel u ν := Rel_abs u2.1 rfl h
      rw [u1, mbm_s, x_minutes hu hx1, mbv_s]
      show ∃ u', (if nI (miV ν (pls p s)) * ν 0 4 + halV ν (pls p s) ≤ b then _ else _) = some (_, u') ∧ _
      by_cases c4 : nI (miV ν (pls p s)) * ν 0 4 + halV ν (pls p s) ≤ b
      · rw [if_pos c4, if_pos c4]
        obtain ⟨u', v1, v2⟩ := x_shortest hu hx (by omega)
        rw [v1, mbm_s]
        exact ⟨u', rfl, v2.1.trans u2.1⟩
      · rw [if_neg c4, if_neg c4]
        exact ⟨u, rfl, u2.1⟩
theorem m_ins {ν z : Mm} {p : Nat → Bool} (g : Good ν) (hl : laid ν z p) {s : Nat} (hs : s < nS ν) (hp : p s = false) (hc : cn p (nS ν) < 8) (a4 a5 : Int32) : ∃ z', md_growsBy_l67 z (nI s) a4 a5 (nI (cn p (nS ν))) = some (nI (cn p s), z') ∧ FLm ν z' ∧ z' 0 77 = nI (cn p (nS ν)) ∧ (∀ a, a < cn p s → z' 56 a = nI (psn p (nS ν) a)) ∧ ∀ a, cn p s ≤ a → a < cn p (nS ν) → z' 56 (a + 1) = nI (psn p (nS ν) a) := by
  have hS := g_S g
  obtain ⟨hf, h7, hr⟩ := hl
  have hcs := cn_le2 (p := p) (show s ≤ nS ν by omega)
  unfold md_growsBy_l67
  have key := seq_loop (f := fun q : Int32 × Mm => md_growsBy_b67 q.2 (nI s) a4 a5 q.1) (fun i => (nI (cn p (nS ν) - i), mrp z 56 (fun a => if cn p (nS ν) - i < a ∧ a ≤ cn p (nS ν) then nI (psn p (nS ν) (a - 1)) else z 56 a))) (cn p (nS ν) - cn p s) (nI (cn p s), mrp z 56 (fun a => if cn p s < a ∧ a ≤ cn p (nS ν) then nI (psn p (nS ν) (a - 1)) else z 56 a)) (fun i hi => by
    show md_growsBy_b67 (mrp z 56 (fun a => if cn p (nS ν) - i < a ∧ a ≤ cn p (nS ν) then nI (psn p (nS ν) (a - 1)) else z 56 a)) (nI s) a4 a5 (nI (cn p (nS ν) - i)) = _
    obtain ⟨j, hj⟩ : ∃ j, cn p (nS ν) - i = j + 1 := ⟨cn p (nS ν) - i - 1, by omega⟩
    obtain ⟨o1, o2, o3⟩ := psn_ok (p := p) (S := nS ν) (a := j) (by omega)
    have hgt : s < psn p (nS ν) j := by
      rcases Nat.lt_trichotomy (psn p (nS ν) j) s with q | q | q
      · have := cn_lt2 (p := p) q o2; omega
      · rw [q, hp] at o2; cases o2
      · exact q
    unfold md_growsBy_b67
    rw [hj, if_neg (show ¬ (nI (j + 1) ≤ 0) from nI_ge (a := 0) (by omega) (by omega)), nI_pred, mrd_nI (by omega) (by decide), mrp_s, if_neg (show ¬ (j + 1 < j ∧ j ≤ cn p (nS ν)) by omega), hr j (by omega), if_neg (nI_ge hgt (by omega)), mrd_nI (by omega) (by decide), mrp_s, if_neg (show ¬ (j + 1 < j ∧ j ≤ cn p (nS ν)) by omega), hr j (by omega), mwr_nI (by omega) (by decide), mset_mrp, show cn p (nS ν) - (i + 1) = j by omega]
    congr 3
    congr 1
    funext a
    by_cases e : a = j + 1
    · subst e
      rw [upd_s, if_pos ⟨by omega, by omega⟩]
      rfl
    · rw [upd_n e]
      by_cases c : j + 1 < a ∧ a ≤ cn p (nS ν)
      · rw [if_pos c, if_pos ⟨by omega, c.2⟩]
      · rw [if_neg c, if_neg (by omega)]) (by
    show md_growsBy_b67 (mrp z 56 (fun a => if cn p (nS ν) - (cn p (nS ν) - cn p s) < a ∧ a ≤ cn p (nS ν) then nI (psn p (nS ν) (a - 1)) else z 56 a)) (nI s) a4 a5 (nI (cn p (nS ν) - (cn p (nS ν) - cn p s))) = _
    rw [show cn p (nS ν) - (cn p (nS ν) - cn p s) = cn p s by omega]
    unfold md_growsBy_b67
    by_cases c0 : cn p s = 0
    · rw [c0, if_pos (show nI 0 ≤ (0 : Int32) by decide)]
    · obtain ⟨j, hj⟩ : ∃ j, cn p s = j + 1 := ⟨cn p s - 1, by omega⟩
      obtain ⟨o1, o2, o3⟩ := psn_ok (p := p) (S := nS ν) (a := j) (by omega)
      have hlt : psn p (nS ν) j ≤ s := by
        rcases Nat.lt_or_ge s (psn p (nS ν) j) with q | q
        · have := cn_le2 (p := p) (Nat.le_of_lt q); omega
        · exact q
      rw [hj, if_neg (show ¬ (nI (j + 1) ≤ 0) from nI_ge (a := 0) (by omega) (by omega)), nI_pred, mrd_nI (by omega) (by decide), mrp_s, if_neg (show ¬ (j + 1 < j ∧ j ≤ cn p (nS ν)) by omega), hr j (by omega), if_pos (nI_le hlt (by omega))]) (cn p (nS ν) - cn p s) 0 FU (by omega) (by unfold FU; omega)
  have e0 : mrp z 56 (fun a => if cn p (nS ν) - 0 < a ∧ a ≤ cn p (nS ν) then nI (psn p (nS ν) (a - 1)) else z 56 a) = z := by
    have : (fun a => if cn p (nS ν) - 0 < a ∧ a ≤ cn p (nS ν) then nI (psn p (nS ν) (a - 1)) else z 56 a) = z 56 := by
      funext a; exact if_neg (by omega)
    rw [this, mrp_self]
  have key' : miter (fun q : Int32 × Mm => md_growsBy_b67 q.2 (nI s) a4 a5 q.1) FU (nI (cn p (nS ν) - 0), mrp z 56 (fun a => if cn p (nS ν) - 0 < a ∧ a ≤ cn p (nS ν) then nI (psn p (nS ν) (a - 1)) else z 56 a)) = some (nI (cn p s), mrp z 56 (fun a => if cn p s < a ∧ a ≤ cn p (nS ν) then nI (psn p (nS ν) (a - 1)) else z 56 a)) := key
  rw [e0, Nat.sub_zero] at key'
  refine ⟨_, key', ⟨fun c a b d => by rw [mrp_o a]; exact hf.1 c a b d, fun i a => by rw [mrp_o (by decide)]; exact hf.2 i a⟩, h7, fun a ha => ?_, fun a ha1 ha2 => ?_⟩
  · rw [mrp_s, if_neg (by omega)]; exact hr a (by omega)
  · rw [mrp_s, if_pos ⟨by omega, by omega⟩]; rfl
theorem m_growsBy {ν : Mm} (g : Good ν) {v d s : Nat} (hv : v < 3) (hd : d < 200) (hs : s < nS ν) (b : Int32) : ∃ w, md_growsBy ν (nI v) (nI d) (nI s) b = some (if ν 22 (200 * v + d) = 0 then grV ν (fun t => visB ν v t d) s b else -1, w) ∧ FLm ν w := by
  have hS := g_S g
  have hcl := cn_le (fun t => visB ν v t d) (nS ν)
  unfold md_growsBy
  obtain ⟨w, w1, w2⟩ := m_laysV g hv hd
  have hl : laid ν w (fun t => visB ν v t d) := w2
  rw [w1, mbv_s, show (200 : Int32) * nI v + nI d = nI (200 * v + d) from ix2 200 v d, mrd_nI (by omega) (by decide), w2.1.1 22 (by decide) (by decide) (by decide), w2.2.1]
  by_cases c0 : ν 22 (200 * v + d) = 0
  · rw [if_pos c0, if_pos c0]
    unfold grV
    by_cases c1 : 8 < cn (fun t => visB ν v t d) (nS ν)
    · rw [if_neg (show ¬ (nI (cn (fun t => visB ν v t d) (nS ν)) ≤ 8) from nI_ge (a := 8) c1 (by omega)), if_pos c1]
      exact ⟨w, rfl, w2.1⟩
    rw [if_pos (show nI (cn (fun t => visB ν v t d) (nS ν)) ≤ 8 from nI_le (b := 8) (by omega) (by decide)), if_neg c1, m_isVisited hv (by omega) hd, mbv_s, visB_fl w2.1]
    by_cases c2 : visB ν v s d = true
    · rw [ifb_t c2, if_pos c2]
      exact ⟨w, rfl, w2.1⟩
    rw [ifb_f c2, if_neg c2]
    have c2' : visB ν v s d = false := by simpa using c2
    by_cases c3 : cn (fun t => visB ν v t d) (nS ν) = 8
    · rw [if_pos (show nI (cn (fun t => visB ν v t d) (nS ν)) = 8 by rw [c3]; rfl), if_pos c3]
      exact ⟨w, rfl, w2.1⟩
    rw [if_neg (show ¬ (nI (cn (fun t => visB ν v t d) (nS ν)) = 8) from nI_ne (b := 8) (by omega) (by decide) c3), if_neg c3]
    obtain ⟨z, z1, z2, z3⟩ := m_milesF g hl (by omega)
    rw [z1, mbm_s, z2.2.1]
    generalize hp : (fun t => visB ν v t d) = p at *
    have c2p : p s = false := by rw [← hp]; exact c2'
    obtain ⟨y, y1, y2, y3, y4, y5⟩ := m_ins g z2 hs c2p (by omega) b (nI (miV ν p))
    rw [y1, mbv_s]
    show ∃ w', md_growsBy_j110 y (nI s) b (nI (miV ν p)) (nI (cn p s)) = _ ∧ _
    unfold md_growsBy_j110
    have hcs := cn_le2 (p := p) (show s ≤ nS ν by omega)
    rw [mwr_nI (by omega) (by decide), mst_s, mset_oo (by decide), y3, nI_1]
    have hl1 : laid ν (mset (mset y 56 (cn p s) (nI s)) 0 77 (nI (cn p (nS ν) + 1))) (pls p s) := by
      refine ⟨FLm_77 (FLm_56 y2 _ _) _, ?_, fun a ha => ?_⟩
      · rw [mset_s, pls_cn c2p hs]
      · obtain ⟨o1, o2, o3⟩ := psn_ok ha
        rw [mset_oo (by decide)]
        generalize psn (pls p s) (nS ν) a = t at o1 o2 o3
        rw [← o3]
        rcases Nat.lt_trichotomy t s with q | q | q
        · have hpt : p t = true := by
            unfold pls at o2
            have : ¬ (t = s) := by omega
            simpa [this] using o2
          have := cn_lt2 (p := p) q hpt
          rw [pls_cn0 (by omega), mset_n (by omega), y4 _ this, psn_at o1 hpt]
        · subst q
          rw [pls_cn0 (Nat.le_refl _), mset_s]
        · have hpt : p t = true := by
            unfold pls at o2
            have : ¬ (t = s) := by omega
            simpa [this] using o2
          have h1 := cn_le2 (p := p) (Nat.le_of_lt q)
          have h2 := cn_lt2 (p := p) o1 hpt
          rw [pls_cn c2p q, mset_n (by omega), y5 _ h1 h2, psn_at o1 hpt]
    have hc1 : cn (pls p s) (nS ν) ≤ 8 := by rw [pls_cn c2p hs]; omega
    obtain ⟨q, q1, q2, q3⟩ := m_milesF g hl1 hc1
    rw [q1, mbm_s, m_haltsF g q2, mbv_s, q2.1.2 4 (by decide)]
    show ∃ w', (if nI (miV ν (pls p s)) * ν 0 4 + halV ν (pls p s) ≤ b then _ else _) = some (_, w') ∧ _
    by_cases c4 : nI (miV ν (pls p s)) * ν 0 4 + halV ν (pls p s) ≤ b
    · rw [if_pos c4, if_pos c4]; exact ⟨q, rfl, q2.1⟩
    · rw [if_neg c4, if_neg c4]; exact ⟨q, rfl, q2.1⟩
  · rw [if_neg c0, if_neg c0]
    exact ⟨w, rfl, w2.1⟩
