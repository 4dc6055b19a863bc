/-! load -/
theorem mq_mq {ν : Mm} {h a f q h' a' f' q' : Nat → Int32} : mq (mq ν h a f q) h' a' f' q' = mq ν h' a' f' q' := by
  funext c
  unfold mq
  by_cases z1 : c = 51
  · simp [z1]
  · by_cases z2 : c = 52
    · simp [z2]
    · by_cases z3 : c = 53
      · simp [z3]
      · by_cases z4 : c = 54
        · simp [z4]
        · simp [z1, z2, z3, z4]
theorem absM_mq {ν : Mm} {h a f q : Nat → Int32} : absM (mq ν h a f q) = absM ν := by
  funext cc i
  unfold absM mq
  by_cases z1 : cc = 51
  · subst z1; rfl
  · by_cases z2 : cc = 52
    · subst z2; rfl
    · by_cases z3 : cc = 53
      · subst z3; rfl
      · by_cases z4 : cc = 54
        · subst z4; rfl
        · rw [if_neg z1, if_neg z2, if_neg z3, if_neg z4]
theorem ga_u5 {μ ν : Mm} {v : Nat} {lim : Int32} {N : Nat} {u : Mm} (h : gaX μ ν v lim N u) (le ki : Nat → Int32) (sz : Nat → Nat) (m : Nat) : gaX μ ν v lim N (u5 u le ki sz N m) := by
  obtain ⟨g1, g2, g3, g4⟩ := h
  have f : ∀ c, c ≠ 9 → c ≠ 60 → u5 u le ki sz N m c = u c := fun c c1 c2 => by unfold u5; rw [mset_o c2, ms9_o c1]
  refine ⟨(absX_s rfl).trans ((absX_s rfl).trans ((absX_s rfl).trans g1)), ?_, ?_, ?_⟩
  · unfold u5; rw [mset_oo (by decide), ms9_n (by decide) (by decide)]; exact g2
  · unfold u5; rw [mset_oo (by decide), ms9_n (by decide) (by decide)]; exact g3
  · rw [f 56 (by decide) (by decide), f 57 (by decide) (by decide), f 58 (by decide) (by decide), f 59 (by decide) (by decide)]
    exact g4
theorem ga_u6 {μ ν : Mm} {v : Nat} {lim : Int32} {N : Nat} {u : Mm} (h : gaX μ ν v lim N u) (le ki : Nat → Int32) (sz : Nat → Nat) (m : Nat) : gaX μ ν v lim N (u6 u le ki sz N m) := by
  obtain ⟨g1, g2, g3, g4⟩ := ga_u5 h le ki sz m
  have f : ∀ c, c ≠ 9 → u6 u le ki sz N m c = u5 u le ki sz N m c := fun c c1 => by unfold u6; rw [mset_o c1, mset_o c1, mset_o c1]
  refine ⟨(absX_s rfl).trans ((absX_s rfl).trans ((absX_s rfl).trans g1)), ?_, ?_, ?_⟩
  · unfold u6; rw [mset_n (by decide), mset_n (by decide), mset_n (by decide)]; exact g2
  · unfold u6; rw [mset_n (by decide), mset_n (by decide), mset_n (by decide)]; exact g3
  · rw [f 56 (by decide), f 57 (by decide), f 58 (by decide), f 59 (by decide)]
    exact g4
theorem load_core {μ ν w u : Mm} (h : Rel μ ν) {v : Nat} (hv : v < 3) {lim : Int32} (w2 : absM w = absM ν) (w3 : wsOK ν w v lim (nR ν)) (hg : gaX μ ν v lim (ofN ν v lim) u) {G : Nat → Int32} (hG : ∀ k, k < ofN ν v lim → G k = nI (ofB ν v lim k)) (a3 a4 th : Int32) : ∃ sz : Nat → Nat, ∃ e n' o, vs_Serving_choose_l25 (mset u 9 11 (-1)) (ν 9 v) (nI (2 ^ ofN ν v lim - 1)) (a3 &&& th) 0 = some e ∧ md_load_l215 (mrp w 55 G) (nI v) a3 a4 (nI (ofN ν v lim)) (muX ν v lim (ofN ν v lim)) th (-2) 0 0 0 = some (bL (fun m => orC (fun k => m.testBit k) (fun k => nI (ofB ν v lim k)) (ofN ν v lim)) o, sL sz o, lL (fun m => lnC (fun k => ν 2 (ofB ν v lim k)) m (ofN ν v lim)) o, n') ∧ gaX μ ν v lim (ofN ν v lim) e ∧ bsX sz (fun m => lnC (fun k => ν 2 (ofB ν v lim k)) m (ofN ν v lim)) (2 ^ ofN ν v lim) o e ∧ absM n' = absM ν := by
  have hB := g_B h.2
  have hR := g_R h.2
  have gw := Good_abs w2 h.2
  have hN : ofN ν v lim ≤ 12 := Nat.min_le_right _ _
  have hNc : ofN ν v lim ≤ cn (ofP ν v lim) (nB ν) := Nat.min_le_left _ _
  have hob : ∀ k, k < ofN ν v lim → ofB ν v lim k < nB ν ∧ cn (ofP ν v lim) (ofB ν v lim k) = k := fun k hk => by
    have : k < cn (ofP ν v lim) (nB ν) := by omega
    exact ⟨(psn_ok this).1, (psn_ok this).2.2⟩
  have hob32 : ∀ k, k < ofN ν v lim → ofB ν v lim k < 32 := fun k hk => by have := (hob k hk).1; omega
  have hp : prH (ofN ν v lim) (ofB ν v lim) (cn (ofP ν v lim)) (fun m z => decide (z < nB ν) && tb (orC (fun k => m.testBit k) (fun k => nI (ofB ν v lim k)) (ofN ν v lim)) z) := by
    refine ⟨fun k hk => (hob k hk).2, fun m z => ?_⟩
    show (decide (z < nB ν) && tb (orC (fun k => m.testBit k) (fun k => nI (ofB ν v lim k)) (ofN ν v lim)) z) = true ↔ _
    rw [Bool.and_eq_true, decide_eq_true_eq]
    constructor
    · rintro ⟨z1, z2⟩
      exact (tb_orC hob32 z (by omega)).mp z2
    · rintro ⟨k, k1, k2, k3⟩
      have := (hob k k1).1
      exact ⟨by omega, (tb_orC hob32 z (by omega)).mpr ⟨k, k1, k2, k3⟩⟩
  have ex : ∀ m : Nat, ∃ n : Nat, ∃ c T, mInv (wF w) (fun z => decide (z < nB ν) && tb (orC (fun k => m.testBit k) (fun k => nI (ofB ν v lim k)) (ofN ν v lim)) z) (nR ν) c T ∧ n = mSz c (nR ν) := fun m => by
    obtain ⟨c, T, hh, a, f, q, _, p2⟩ := m_paired gw (orC (fun k => m.testBit k) (fun k => nI (ofB ν v lim k)) (ofN ν v lim))
    rw [nR_abs w2, nB_abs w2] at p2
    exact ⟨_, c, T, p2, rfl⟩
  obtain ⟨sz, hsz⟩ := Classical.axiomOfChoice ex
  have hs : szH (wF w) (nR ν) (fun m z => decide (z < nB ν) && tb (orC (fun k => m.testBit k) (fun k => nI (ofB ν v lim k)) (ofN ν v lim)) z) sz := hsz
  have hwn : ∀ k, k < ofN ν v lim → ∀ r, r < 32 → (tb (wnM ν v lim (ofB ν v lim k)) r = true ↔ r < nR ν ∧ wF w (ofB ν v lim k) r = true) := by
    intro k hk r hr
    unfold wnM
    rw [tb_mkb _ (by omega) r hr, Bool.and_eq_true, decide_eq_true_eq]
    constructor
    · rintro ⟨z1, z2⟩
      refine ⟨z1, ?_⟩
      have z2 : wtB ν v (ofB ν v lim k) lim r = true := z2
      unfold wF
      rw [w3 r z1 _ (hob k hk).1, z2]
      rfl
    · rintro ⟨z1, z2⟩
      refine ⟨z1, ?_⟩
      show wtB ν v (ofB ν v lim k) lim r = true
      unfold wF at z2
      rw [w3 r z1 _ (hob k hk).1] at z2
      cases e : wtB ν v (ofB ν v lim k) lim r
      · rw [e] at z2; exact absurd z2 (by decide)
      · rfl
  have hlen : ∀ n' : Mm, absM n' = absM ν → ∀ m : Nat, lenS n' (orC (fun k => m.testBit k) (fun k => nI (ofB ν v lim k)) (ofN ν v lim)) = lnC (fun k => ν 2 (ofB ν v lim k)) m (ofN ν v lim) := by
    intro n' hn' m
    have e2 : n' 2 = ν 2 := funext (fun i => by
      have : absM n' 2 i = absM ν 2 i := by rw [hn']
      exact this)
    unfold lenS lnC
    rw [nB_abs hn', e2]
    have e := sm_pick (ofP ν v lim) hNc (q := fun k => m.testBit k) (t := fun b => tb (orC (fun k => m.testBit k) (fun k => nI (ofB ν v lim k)) (ofN ν v lim)) b) (fun b hb => tb_orC hob32 b (by omega)) (ν 2) (nB ν) (Nat.le_refl _)
    rw [Nat.min_eq_right hNc] at e
    exact e
  have h12 := p2_12 (ofN ν v lim) hN
  obtain ⟨e, e', k1, k2, o, n', k3, k4, k5, k6⟩ := lock_loop (f := fun q : Int32 × Mm => vs_Serving_choose_b25 q.2 (ν 9 v) (nI (2 ^ ofN ν v lim - 1)) (a3 &&& th) q.1) (f' := fun q : Int64 × Int32 × Int32 × Int32 × Mm => md_load_b215 q.2.2.2.2 (nI v) a3 a4 (nI (ofN ν v lim)) (muX ν v lim (ofN ν v lim)) th q.1 q.2.1 q.2.2.1 q.2.2.2.1) (fun i (a : Option Nat × Mm × Mm) => (nI i, a.2.1)) (fun i a => (bL (fun m => orC (fun k => m.testBit k) (fun k => nI (ofB ν v lim k)) (ofN ν v lim)) a.1, sL sz a.1, lL (fun m => lnC (fun k => ν 2 (ofB ν v lim k)) m (ofN ν v lim)) a.1, nI i, a.2.2)) (2 ^ ofN ν v lim) (fun i a => gaX μ ν v lim (ofN ν v lim) a.2.1 ∧ (∀ m, m < i → a.2.1 60 m = nI (sz m)) ∧ bsX sz (fun m => lnC (fun k => ν 2 (ofB ν v lim k)) m (ofN ν v lim)) i a.1 a.2.1 ∧ ∃ hh a' f q, a.2.2 = mq (mrp w 55 G) hh a' f q) (fun e e' => ∃ o n', e' = (bL (fun m => orC (fun k => m.testBit k) (fun k => nI (ofB ν v lim k)) (ofN ν v lim)) o, sL sz o, lL (fun m => lnC (fun k => ν 2 (ofB ν v lim k)) m (ofN ν v lim)) o, n') ∧ gaX μ ν v lim (ofN ν v lim) e ∧ bsX sz (fun m => lnC (fun k => ν 2 (ofB ν v lim k)) m (ofN ν v lim)) (2 ^ ofN ν v lim) o e ∧ absM n' = absM ν) (fun i a hi hI => by
      obtain ⟨o, u', n'⟩ := a
      obtain ⟨i1, i2, i3, hh, a', f, q, i4⟩ := hI
      have i1 : gaX μ ν v lim (ofN ν v lim) u' := i1
      have i2 : ∀ m, m < i → u' 60 m = nI (sz m) := i2
      have i3 : bsX sz (fun m => lnC (fun k => ν 2 (ofB ν v lim k)) m (ofN ν v lim)) i o u' := i3
      have i4 : n' = mq (mrp w 55 G) hh a' f q := i4
      have hn' : absM n' = absM ν := by rw [i4, absM_mq, absM_mrp (fun _ => rfl), w2]
      have hX := x_step hs hp hR.2 hN (u := u') (wn := fun k => wnM ν v lim (ofB ν v lim k)) (le := fun k => ν 2 (ofB ν v lim k)) (ki := fun k => ν 1 (ofB ν v lim k)) (must := muX ν v lim (ofN ν v lim)) (shelf := ν 9 v) (need := a3 &&& th) i1.2.1 i1.2.2.1 (fun k hk => (i1.2.2.2 k hk).2) hwn hi i2 i3
      have hM := m_step hs hp hR.2 hN (n := n') (le := fun k => ν 2 (ofB ν v lim k)) (ki := fun k => ν 1 (ofB ν v lim k)) (must := muX ν v lim (ofN ν v lim)) (there := th) (shelf := ν 9 v) hv a3 a4 (Good_abs hn' h.2) (by rw [i4]; rfl) (nR_abs hn').symm (fun k hk => ⟨by rw [i4]; exact hG k hk, hob32 k hk⟩) (fun k hk => by
        have : absM n' 1 (ofB ν v lim k) = absM ν 1 (ofB ν v lim k) := by rw [hn']
        exact this) (hlen n' hn') (by
        have : absM n' 9 v = absM ν 9 v := by rw [hn']
        exact this) (fun m => by rw [nB_abs hn']) hi o
      obtain ⟨hh2, a2', f2, q2, m1, m2⟩ := hM
      have h60 : ∀ m, m < i + 1 → u5 u' (fun k => ν 2 (ofB ν v lim k)) (fun k => ν 1 (ofB ν v lim k)) sz (ofN ν v lim) i 60 m = nI (sz m) := by
        intro m hm
        unfold u5
        by_cases e : m = i
        · subst e; rw [mset_s]
        · rw [mset_n e, ms9_o (by decide)]; exact i2 m (by omega)
      by_cases c : fitC (fun k => ν 2 (ofB ν v lim k)) (fun k => ν 1 (ofB ν v lim k)) (muX ν v lim (ofN ν v lim)) (ν 9 v) (a3 &&& th) (ofN ν v lim) i ∧ btr sz (fun m => lnC (fun k => ν 2 (ofB ν v lim k)) m (ofN ν v lim)) o i
      · refine ⟨(some i, u6 u' (fun k => ν 2 (ofB ν v lim k)) (fun k => ν 1 (ofB ν v lim k)) sz (ofN ν v lim) i, mq n' hh2 a2' f2 q2), hX.1 c, m1 c, ga_u6 i1 _ _ _ _, fun m hm => ?_, ⟨Nat.lt_succ_self i, ?_, ?_, ?_⟩, hh2, a2', f2, q2, ?_⟩
        · show u6 u' (fun k => ν 2 (ofB ν v lim k)) (fun k => ν 1 (ofB ν v lim k)) sz (ofN ν v lim) i 60 m = _
          unfold u6
          rw [mset_oo (by decide), mset_oo (by decide), mset_oo (by decide)]
          exact h60 m hm
        · show u6 u' (fun k => ν 2 (ofB ν v lim k)) (fun k => ν 1 (ofB ν v lim k)) sz (ofN ν v lim) i 9 11 = _
          unfold u6
          rw [mset_n (by decide), mset_n (by decide), mset_s]
        · show u6 u' (fun k => ν 2 (ofB ν v lim k)) (fun k => ν 1 (ofB ν v lim k)) sz (ofN ν v lim) i 9 12 = _
          unfold u6
          rw [mset_n (by decide), mset_s]
        · show u6 u' (fun k => ν 2 (ofB ν v lim k)) (fun k => ν 1 (ofB ν v lim k)) sz (ofN ν v lim) i 9 13 = _
          unfold u6
          rw [mset_s]
        · show mq n' hh2 a2' f2 q2 = _
          rw [i4, mq_mq]
      · refine ⟨(o, u5 u' (fun k => ν 2 (ofB ν v lim k)) (fun k => ν 1 (ofB ν v lim k)) sz (ofN ν v lim) i, mq n' hh2 a2' f2 q2), hX.2 c, m2 c, ga_u5 i1 _ _ _ _, h60, ?_, hh2, a2', f2, q2, ?_⟩
        · have f : ∀ j, j ≠ 9 → j ≠ 10 → u5 u' (fun k => ν 2 (ofB ν v lim k)) (fun k => ν 1 (ofB ν v lim k)) sz (ofN ν v lim) i 9 j = u' 9 j := fun j j1 j2 => by unfold u5; rw [mset_oo (by decide), ms9_n j1 j2]
          cases o with
          | none => exact (f 11 (by decide) (by decide)).trans i3
          | some b => exact ⟨Nat.lt_succ_of_lt i3.1, (f 11 (by decide) (by decide)).trans i3.2.1, (f 12 (by decide) (by decide)).trans i3.2.2.1, (f 13 (by decide) (by decide)).trans i3.2.2.2⟩
        · show mq n' hh2 a2' f2 q2 = _
          rw [i4, mq_mq]) (fun a hI => by
      obtain ⟨o, u', n'⟩ := a
      obtain ⟨i1, i2, i3, hh, a', f, q, i4⟩ := hI
      have i4 : n' = mq (mrp w 55 G) hh a' f q := i4
      refine ⟨u', (bL (fun m => orC (fun k => m.testBit k) (fun k => nI (ofB ν v lim k)) (ofN ν v lim)) o, sL sz o, lL (fun m => lnC (fun k => ν 2 (ofB ν v lim k)) m (ofN ν v lim)) o, n'), ?_, ?_, o, n', rfl, i1, i3, by rw [i4, absM_mq, absM_mrp (fun _ => rfl), w2]⟩
      · show vs_Serving_choose_b25 u' (ν 9 v) (nI (2 ^ ofN ν v lim - 1)) (a3 &&& th) (nI (2 ^ ofN ν v lim)) = _
        unfold vs_Serving_choose_b25
        have : 0 < 2 ^ ofN ν v lim := Nat.two_pow_pos _
        rw [if_pos (nI_lt (by omega) (by omega))]
      · show md_load_b215 n' (nI v) a3 a4 (nI (ofN ν v lim)) (muX ν v lim (ofN ν v lim)) th (bL (fun m => orC (fun k => m.testBit k) (fun k => nI (ofB ν v lim k)) (ofN ν v lim)) o) (sL sz o) (lL (fun m => lnC (fun k => ν 2 (ofB ν v lim k)) m (ofN ν v lim)) o) (nI (2 ^ ofN ν v lim)) = _
        unfold md_load_b215
        rw [h12.1, if_pos (nI_le (Nat.le_refl _) (by omega))]) (2 ^ ofN ν v lim) 0 FU (none, mset u 9 11 (-1), mrp w 55 G) (by omega) (by unfold FU; omega) ⟨by
      obtain ⟨g1, g2, g3, g4⟩ := hg
      exact ⟨(absX_s rfl).trans g1, g2, g3, g4⟩, fun m hm => absurd hm (Nat.not_lt_zero m), upd_s (u 9) 11 (-1), w 51, w 52, w 53, w 54, (mq_self (mrp w 55 G)).symm⟩
  exact ⟨sz, e, n', o, k1, by rw [← k3]; exact k2, k4, k5, k6⟩
theorem st_load : ST_load Rel := by
  intro μ ν a1 a2 a3 a4 h
  have hT := g_T h.2
  unfold vs_load md_load
  rw [x_isVan, m_isVan, x_isMuch, in_eq, in_eq, in_eq, within_eq, within_eq]
  simp only [mbv_s]
  by_cases c1 : ¬ (ix a1 3 = true)
  · rw [ifb_f c1, ifb_f c1]; exact ⟨-1, μ, ν, rfl, rfl, h⟩
  rw [Classical.not_not] at c1
  rw [ifb_t c1, ifb_t c1]
  obtain ⟨v, hv, rfl⟩ := ix_t c1 (by omega)
  by_cases c2 : ¬ (wi a2 1 1000 = true)
  · rw [ifb_f c2, ifb_f c2]; exact ⟨-1, μ, ν, rfl, rfl, h⟩
  rw [Classical.not_not] at c2
  rw [ifb_t c2, ifb_t c2]
  by_cases c3 : ¬ (wi a3 0 255 = true)
  · rw [ifb_f c3, ifb_f c3]; exact ⟨-1, μ, ν, rfl, rfl, h⟩
  rw [Classical.not_not] at c3
  rw [ifb_t c3, ifb_t c3]
  by_cases c4 : ¬ (wi a4 0 2 = true)
  · rw [ifb_f c4, ifb_f c4]; exact ⟨-1, μ, ν, rfl, rfl, h⟩
  rw [Classical.not_not] at c4
  rw [ifb_t c4, ifb_t c4]
  obtain ⟨u, u1, u2⟩ := x_gather h hv a2
  obtain ⟨w, w1, w2, w3⟩ := m_wishes h hv a2
  have gw := Good_abs w2 h.2
  have eT : w 0 0 = nI (nT ν) := by
    have : absM w 0 0 = absM ν 0 0 := by rw [w2]
    exact this.trans hT.1
  have eb : md_aboardOf w (nI (nT ν)) (nI v) = some (asL (bdX ν v)) := by
    rw [m_board gw hv (by omega)]
    unfold bdX
    rw [nR_abs w2, brd_abs w2]
  obtain ⟨G, G1, G2⟩ := m_gather h.2 w2 hv w3 a3 a4
  have hu : Rel u ν := Rel_abs u2.1 rfl h
  have e12 : u 12 v = ν 9 v := hu.1.2.2.2.2.1.1 v hv
  have hN : ofN ν v a2 ≤ 12 := Nat.min_le_right _ _
  have h12 := p2_12 (ofN ν v a2) hN
  rw [u1, mbv_s, w1, mbv_s, eT, eb, mbv_s, G1, mbv_s, un4_p, mrd_nI hv (by decide), e12]
  unfold vs_Serving_choose md_load_j201
  rw [x_kinds hN u2.2.1 (fun k hk => (u2.2.2.2 k hk).2.2.2), mbv_s, mst_s, u2.2.1, h12.2.1]
  obtain ⟨sz, e, n', o, k1, k2, k4, k5, k6⟩ := load_core h hv w2 w3 u2 G2 a3 a4 (orK (fun k => ν 1 (ofB ν v a2 k)) (ofN ν v a2))
  rw [k1, k2, mbv_s, mbv_s, un4_p]
  have hrel : Rel e n' := Rel_abs k4.1 k6 h
  cases o with
  | none =>
    have k5 : e 9 11 = -1 := k5
    rw [if_pos k5, if_pos (show lg_cmp (bL (fun m => orC (fun k => m.testBit k) (fun k => nI (ofB ν v a2 k)) (ofN ν v a2)) none) (-2) = 0 from lgc0.mpr rfl), mbm_s, ifb_f']
    exact ⟨-2, e, n', rfl, rfl, hrel⟩
  | some b =>
    obtain ⟨b0, b1, b2, b3⟩ := k5
    rw [b1, if_neg (nI_m1 (by omega)), if_neg (show ¬ (lg_cmp (bL (fun m => orC (fun k => m.testBit k) (fun k => nI (ofB ν v a2 k)) (ofN ν v a2)) (some b)) (-2) = 0) from fun z => asL_m2 _ (lgc0.mp z)), mbm_s, ifb_t']
    by_cases d0 : a4 = 0
    · rw [if_pos d0, if_pos d0, x_bestBooks hN (by omega) k4.2.1 b1 (fun k hk => (k4.2.2.2 k hk).1), mbv_s]
      exact ⟨_, e, n', rfl, rfl, hrel⟩
    · rw [if_neg d0, if_neg d0]
      by_cases d1 : a4 = 1
      · rw [if_pos d1, if_pos d1, b2]
        exact ⟨_, e, n', rfl, rfl, hrel⟩
      · rw [if_neg d1, if_neg d1, b3]
        exact ⟨_, e, n', rfl, rfl, hrel⟩
