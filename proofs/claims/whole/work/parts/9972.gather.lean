/-! what may be loaded -/
def wnM (ν : Mm) (v : Nat) (lim : Int32) (b : Nat) : Int32 := mkb (fun r => wtB ν v b lim r) (nR ν)
def bdX (ν : Mm) (v : Nat) : Int32 := brd ν v (nT ν) (nR ν)
def nrP (ν : Mm) (v b : Nat) : Bool := decide (ν 5 b = 0) || decide (ν 5 b = nI (1 + v))
def ofP (ν : Mm) (v : Nat) (lim : Int32) (b : Nat) : Bool := nrP ν v b && (tb (bdX ν v) b || !decide (wnM ν v lim b = 0))
def ofN (ν : Mm) (v : Nat) (lim : Int32) : Nat := min (cn (ofP ν v lim) (nB ν)) 12
def ofB (ν : Mm) (v : Nat) (lim : Int32) (k : Nat) : Nat := psn (ofP ν v lim) (nB ν) k
def muX (ν : Mm) (v : Nat) (lim : Int32) (n : Nat) : Int32 := mkb (fun k => tb (bdX ν v) (ofB ν v lim k)) n
def orK (g : Nat → Int32) : Nat → Int32
  | 0 => 0
  | n + 1 => orK g n ||| ((1 : Int32) <<< (g n &&& 31))
def gaX (μ ν : Mm) (v : Nat) (lim : Int32) (n : Nat) (u : Mm) : Prop := absX u = absX μ ∧ u 9 7 = nI n ∧ u 9 8 = muX ν v lim n ∧ ∀ k, k < n → u 56 k = nI (ofB ν v lim k) ∧ u 57 k = wnM ν v lim (ofB ν v lim k) ∧ u 58 k = ν 2 (ofB ν v lim k) ∧ u 59 k = ν 1 (ofB ν v lim k)
theorem x_offer {μ ν : Mm} (h : Rel μ ν) {v : Nat} {lim : Int32} {n b : Nat} {u : Mm} {mu : Bool} (hg : gaX μ ν v lim n u) (hn : n < 12) (hb : b < 32) (hob : ofB ν v lim n = b) (hmu : tb (bdX ν v) b = mu) : ∃ u', vs_Serving_offer u (nI b) (wnM ν v lim b) (bI mu) = some u' ∧ gaX μ ν v lim (n + 1) u' := by
  obtain ⟨g1, g2, g3, g4⟩ := hg
  have hu : Rel u ν := Rel_abs g1 rfl h
  have e16 : u 16 = ν 2 := hu.1.2.1.2.1
  have e15 : u 15 = ν 1 := hu.1.2.1.1
  unfold vs_Serving_offer
  have g56 : mset u 56 n (nI b) 9 7 = nI n := (mset_oo (by decide)).trans g2
  have g57 : mset (mset u 56 n (nI b)) 57 n (wnM ν v lim b) 9 7 = nI n := (mset_oo (by decide)).trans g56
  have g58 : mset (mset (mset u 56 n (nI b)) 57 n (wnM ν v lim b)) 58 n (ν 2 b) 9 7 = nI n := (mset_oo (by decide)).trans g57
  have f16 : mset (mset u 56 n (nI b)) 57 n (wnM ν v lim b) 16 b = ν 2 b := by rw [mset_oo (by decide), mset_oo (by decide), e16]
  have f15 : mset (mset (mset u 56 n (nI b)) 57 n (wnM ν v lim b)) 58 n (ν 2 b) 15 b = ν 1 b := by rw [mset_oo (by decide), mset_oo (by decide), mset_oo (by decide), e15]
  rw [g2, if_pos (show nI n < (12 : Int32) from nI_lt (b := 12) hn (by decide)), mwr_nI hn (by decide), g56, mwr_nI hn (by decide), mrd_nI hb (by decide), f16, g57, mwr_nI hn (by decide), mrd_nI hb (by decide), f15, g58, mwr_nI hn (by decide)]
  have core : ∀ x8 : Int32, x8 = muX ν v lim (n + 1) → gaX μ ν v lim (n + 1) (mset (mset (mset (mset (mset (mset u 56 n (nI b)) 57 n (wnM ν v lim b)) 58 n (ν 2 b)) 59 n (ν 1 b)) 9 8 x8) 9 7 (nI (n + 1))) := by
    intro x8 hx8
    refine ⟨(absX_s rfl).trans ((absX_s rfl).trans ((absX_s rfl).trans ((absX_s rfl).trans ((absX_s rfl).trans ((absX_s rfl).trans g1))))), mset_s, by rw [mset_n (by decide), mset_s, hx8], fun k hk => ?_⟩
    by_cases e : k = n
    · subst e
      rw [hob]
      exact ⟨upd_s (u 56) k (nI b), upd_s (u 57) k _, upd_s (u 58) k _, upd_s (u 59) k _⟩
    · obtain ⟨k1, k2, k3, k4⟩ := g4 k (by omega)
      refine ⟨?_, ?_, ?_, ?_⟩
      · show upd (u 56) n (nI b) k = _
        rw [upd_n e]; exact k1
      · show upd (u 57) n _ k = _
        rw [upd_n e]; exact k2
      · show upd (u 58) n _ k = _
        rw [upd_n e]; exact k3
      · show upd (u 59) n _ k = _
        rw [upd_n e]; exact k4
  have emu : muX ν v lim (n + 1) = if mu = true then muX ν v lim n ||| ((1 : Int32) <<< (nI n &&& 31)) else muX ν v lim n := by
    unfold muX
    rw [mkb_S, hob, hmu]
  cases mu
  · rw [if_pos (show bI false = 0 from rfl), mst_s, mset_oo (by decide), mset_oo (by decide), mset_oo (by decide), mset_oo (by decide), g2, nI_1]
    have e8 : mset (mset (mset (mset u 56 n (nI b)) 57 n (wnM ν v lim b)) 58 n (ν 2 b)) 59 n (ν 1 b) = mset (mset (mset (mset (mset u 56 n (nI b)) 57 n (wnM ν v lim b)) 58 n (ν 2 b)) 59 n (ν 1 b)) 9 8 (u 9 8) := by
      funext c i
      by_cases e : c = 9
      · subst e
        by_cases e2 : i = 8
        · subst e2; rw [mset_s]; rfl
        · rw [mset_n e2]
      · rw [mset_o e]
    refine ⟨_, rfl, ?_⟩
    rw [e8]
    exact core _ (by rw [g3, emu, if_neg (by decide)])
  · rw [if_neg (show ¬ (bI true = 0) by decide), mst_s, mset_n (by decide), mset_oo (by decide), mset_oo (by decide), mset_oo (by decide), mset_oo (by decide), mset_oo (by decide), mset_oo (by decide), mset_oo (by decide), mset_oo (by decide), g2, g3, mst_s, nI_1]
    exact ⟨_, rfl, core _ (by rw [emu, if_pos rfl])⟩
theorem x_gather {μ ν : Mm} (h : Rel μ ν) {v : Nat} (hv : v < 3) (lim : Int32) : ∃ u, vs_gatherLoad μ (nI v) lim = some u ∧ gaX μ ν v lim (ofN ν v lim) u := by
  have hB := g_B h.2
  have hR := g_R h.2
  have hT := g_T h.2
  have e5 : ν 5 = μ 19 := h.1.2.1.2.2.2.2.1.symm
  unfold vs_gatherLoad vs_Serving_clear
  obtain ⟨here, e1, e2⟩ := x_today h hv
  rw [e1, mbv_s, x_T h.1, hT.1, x_board h hv (by omega), mbv_s, mst_s, mst_s, mbv_s]
  unfold vs_gatherLoad_l27
  obtain ⟨e, h1, h2⟩ := miter_cnt (f := fun q : Int32 × Mm => vs_gatherLoad_b27 q.2 (nI v) lim here (bdX ν v) q.1) (fun i (u : Mm) => (nI i, u)) (nB ν) (fun i u => cn (ofP ν v lim) i ≤ 12 ∧ gaX μ ν v lim (cn (ofP ν v lim) i) u) (fun u => gaX μ ν v lim (ofN ν v lim) u) (fun i u hi hI => by
      obtain ⟨i1, i2⟩ := hI
      have hu : Rel u ν := Rel_abs i2.1 rfl h
      have xB : u 2 10 = nI (nB ν) := (x_B hu.1).trans hB.1
      have e19 : u 19 = ν 5 := hu.1.2.1.2.2.2.2.1
      have hmono := cn_le2 (p := ofP ν v lim) (show i ≤ nB ν by omega)
      by_cases c12 : cn (ofP ν v lim) i = 12
      · right
        refine ⟨u, ?_, ?_⟩
        · show vs_gatherLoad_b27 u (nI v) lim here (bdX ν v) (nI i) = _
          unfold vs_gatherLoad_b27
          rw [xB, if_neg (nI_ge hi (by omega)), i2.2.1, c12, if_pos (by decide)]
        · unfold ofN
          rw [Nat.min_eq_right (by omega), ← c12]
          exact i2
      · left
        have hcn : cn (ofP ν v lim) (i + 1) = cn (ofP ν v lim) i + (ofP ν v lim i).toNat := rfl
        have hob : ofP ν v lim i = true → ofB ν v lim (cn (ofP ν v lim) i) = i := fun hp => psn_at hi hp
        have goal : ∃ u', vs_gatherLoad_b27 u (nI v) lim here (bdX ν v) (nI i) = some (.inl (nI (i + 1), u')) ∧ cn (ofP ν v lim) (i + 1) ≤ 12 ∧ gaX μ ν v lim (cn (ofP ν v lim) (i + 1)) u' := by
          have keep : ∀ m, absX m = absX μ → (∀ c, c ≠ 52 → c ≠ 69 → c ≠ 10 → m c = u c) → gaX μ ν v lim (cn (ofP ν v lim) i) m := by
            intro m m1 m2
            refine ⟨m1, ?_, ?_, ?_⟩
            · rw [m2 9 (by decide) (by decide) (by decide)]; exact i2.2.1
            · rw [m2 9 (by decide) (by decide) (by decide)]; exact i2.2.2.1
            · rw [m2 56 (by decide) (by decide) (by decide), m2 57 (by decide) (by decide) (by decide), m2 58 (by decide) (by decide) (by decide), m2 59 (by decide) (by decide) (by decide)]
              exact i2.2.2.2
          have near : nrP ν v i = true → ∃ u', vs_gatherLoad_j77 u (nI v) lim here (bdX ν v) (nI i) = some (.inl (nI (i + 1), u')) ∧ cn (ofP ν v lim) (i + 1) ≤ 12 ∧ gaX μ ν v lim (cn (ofP ν v lim) (i + 1)) u' := by
            intro hnr
            unfold vs_gatherLoad_j77 vs_gatherLoad_j82
            obtain ⟨m, m1, m2, m3⟩ := x_wantG hu (b := i) (Pd := todB ν v) hi e2 lim
            have m1' : vs_wantersOf u (nI i) here lim = some (wnM ν v lim i, m) := m1
            rw [if_neg (show ¬ ((1 : Int32) = 0) by decide), m1', mbm_s]
            unfold vs_gatherLoad_j101
            rw [hasBit_eq _ (by omega), mbv_s, if_neg (show ¬ ((1 : Int32) = 0) by decide), nI_1]
            have hk := keep m (m2.trans i2.1) m3
            by_cases c1 : tb (bdX ν v) i = true
            · have hp : ofP ν v lim i = true := by unfold ofP; rw [hnr, c1]; rfl
              obtain ⟨u', w1, w2⟩ := x_offer h hk (by omega) (by omega) (hob hp) c1
              rw [ifb_t c1, c1, w1, mbv_s]
              rw [hcn, hp]
              exact ⟨u', rfl, by rw [Bool.toNat_true]; omega, w2⟩
            · have c1' : tb (bdX ν v) i = false := by simpa using c1
              rw [ifb_f c1]
              by_cases c2 : wnM ν v lim i = 0
              · have hp : ofP ν v lim i = false := by unfold ofP; rw [c1', c2]; simp
                rw [if_pos c2, hcn, hp]
                exact ⟨m, rfl, i1, hk⟩
              · have hp : ofP ν v lim i = true := by unfold ofP; rw [hnr]; simp [c2]
                obtain ⟨u', w1, w2⟩ := x_offer h hk (by omega) (by omega) (hob hp) c1'
                rw [if_neg c2, c1', w1, mbv_s]
                rw [hcn, hp]
                exact ⟨u', rfl, by rw [Bool.toNat_true]; omega, w2⟩
          unfold vs_gatherLoad_b27
          rw [xB, if_neg (nI_ge hi (by omega)), i2.2.1, if_neg (show ¬ ((12 : Int32) ≤ nI (cn (ofP ν v lim) i)) from nI_ge (b := 12) (by omega) (by decide)), mrd_nI (by omega) (by decide), e19, x_vanOf hu.1 (by omega), mbv_s]
          by_cases c0 : ν 5 i = 0
          · rw [if_pos c0]
            exact near (by unfold nrP; simp [c0])
          · rw [if_neg c0]
            by_cases c3 : (if wi (ν 5 i) 1 3 = true then ν 5 i - 1 else -1) = nI v
            · rw [if_pos c3]
              exact near (by unfold nrP; rw [(van_iff _ hv).mp c3]; simp)
            · rw [if_neg c3]
              have hp : ofP ν v lim i = false := by
                have : ¬ (ν 5 i = nI (1 + v)) := fun z => c3 ((van_iff _ hv).mpr z)
                unfold ofP nrP
                simp [c0, this]
              unfold vs_gatherLoad_j82
              rw [if_pos rfl]
              unfold vs_gatherLoad_j101
              rw [hasBit_eq _ (by omega), mbv_s, if_pos rfl, nI_1, hcn, hp]
              exact ⟨u, rfl, i1, i2⟩
        exact goal) (fun u hI => by
      refine ⟨u, ?_, ?_⟩
      · show vs_gatherLoad_b27 u (nI v) lim here (bdX ν v) (nI (nB ν)) = _
        unfold vs_gatherLoad_b27
        rw [(x_B (Rel_abs hI.2.1 rfl h : Rel u ν).1).trans hB.1, if_pos (nI_le (Nat.le_refl _) (by omega))]
      · unfold ofN
        rw [Nat.min_eq_left hI.1]
        exact hI.2) FU 0 (mset (mset μ 9 7 0) 9 8 0) (by omega) (by unfold FU; omega) ⟨Nat.zero_le _, (absX_s rfl).trans (absX_s rfl), rfl, rfl, fun k hk => absurd hk (Nat.not_lt_zero k)⟩
  have h1' : miter (fun q : Int32 × Mm => vs_gatherLoad_b27 q.2 (nI v) lim here (bdX ν v) q.1) FU (0, mset (mset μ 9 7 0) 9 8 0) = some e := h1
  show ∃ u, (mbv (miter (fun q : Int32 × Mm => vs_gatherLoad_b27 q.2 (nI v) lim here (bdX ν v) q.1) FU (0, mset (mset μ 9 7 0) 9 8 0)) fun μ22 => some μ22) = some u ∧ _
  rw [h1', mbv_s]
  exact ⟨e, rfl, h2⟩
theorem m_wantd {ν w : Mm} (g : Good ν) (hw : absM w = absM ν) {v : Nat} {lim : Int32} (hok : wsOK ν w v lim (nR ν)) {b : Nat} (hb : b < nB ν) : md_isWantedToday w (nI b) = some (!decide (wnM ν v lim b = 0)) := by
  have hR := g_R g
  have hB := g_B g
  have e3 : w 0 3 = nI (nR ν) := by rw [(g_R (Good_abs hw g)).1, nR_abs hw]
  unfold md_isWantedToday md_isWantedToday_l2
  have key := find_loop (f := fun q => md_isWantedToday_b2 w (nI b) q) (p := fun r => wtB ν v b lim r) 0 (nR ν) (fun _ => .inl ()) (.inr ()) (fun i _ hi => by
    show md_isWantedToday_b2 w (nI b) (nI i) = _
    unfold md_isWantedToday_b2
    rw [e3, if_neg (nI_ge hi (by omega)), nI_1]
    refine (mrd_at (ix2 32 i b) (by omega) (by decide)).trans ?_
    rw [hok i hi b hb]
    cases wtB ν v b lim i <;> rfl) (by
    show md_isWantedToday_b2 w (nI b) (nI (nR ν)) = _
    unfold md_isWantedToday_b2
    rw [e3, if_pos (nI_le (Nat.le_refl _) (by omega))]) (nR ν) 0 FU (Nat.le_refl _) (by omega) (by unfold FU; omega)
  rw [show (0 : Int32) = nI 0 from rfl, key]
  cases q : lf (fun r => wtB ν v b lim r) (nR ν) 0 with
  | none =>
    have : wnM ν v lim b = 0 := z_iff.mpr (fun j hj => by
      unfold wnM
      rw [tb_mkb _ (by omega) j hj]
      by_cases c : j < nR ν
      · have := lf_none q j (Nat.zero_le _) (by omega)
        have this : wtB ν v b lim j = false := this
        rw [this]; simp
      · simp [c])
    rw [show nI 0 = (0 : Int32) from rfl, decide_eq_true this]
    rfl
  | some k =>
    obtain ⟨_, k2, k3, _⟩ := lf_some q
    have : ¬ (wnM ν v lim b = 0) := fun z => by
      have := z_iff.mp z k (by omega)
      unfold wnM at this
      rw [tb_mkb _ (by omega) k (by omega)] at this
      have k3' : wtB ν v b lim k = true := k3
      have k2' : k < nR ν := by omega
      rw [k3'] at this
      simp [k2'] at this
    rw [show nI 0 = (0 : Int32) from rfl, decide_eq_false this]
    rfl
theorem m_gather {ν w : Mm} (g : Good ν) (hw : absM w = absM ν) {v : Nat} (hv : v < 3) {lim : Int32} (hok : wsOK ν w v lim (nR ν)) (a3 a4 : Int32) : ∃ G, md_load_l72 w (nI v) a3 a4 (asL (bdX ν v)) 0 0 0 0 = some (nI (ofN ν v lim), muX ν v lim (ofN ν v lim), orK (fun k => ν 1 (ofB ν v lim k)) (ofN ν v lim), mrp w 55 G) ∧ ∀ k, k < ofN ν v lim → G k = nI (ofB ν v lim k) := by
  have hB := g_B g
  have hc : ∀ c i, absM w c i = absM ν c i := fun c i => by rw [hw]
  have e1 : w 0 1 = nI (nB ν) := (hc 0 1).trans hB.1
  have w5 : w 5 = ν 5 := funext (fun i => hc 5 i)
  have w1 : w 1 = ν 1 := funext (fun i => hc 1 i)
  unfold md_load_l72
  obtain ⟨e, h1, G, h2, h3⟩ := miter_cnt (f := fun q : Int32 × Int32 × Int32 × Int32 × Mm => md_load_b72 q.2.2.2.2 (nI v) a3 a4 (asL (bdX ν v)) q.1 q.2.1 q.2.2.1 q.2.2.2.1) (fun i (G : Nat → Int32) => (nI (cn (ofP ν v lim) i), muX ν v lim (cn (ofP ν v lim) i), orK (fun k => ν 1 (ofB ν v lim k)) (cn (ofP ν v lim) i), nI i, mrp w 55 G)) (nB ν) (fun i G => cn (ofP ν v lim) i ≤ 12 ∧ ∀ k, k < cn (ofP ν v lim) i → G k = nI (ofB ν v lim k)) (fun e => ∃ G, e = (nI (ofN ν v lim), muX ν v lim (ofN ν v lim), orK (fun k => ν 1 (ofB ν v lim k)) (ofN ν v lim), mrp w 55 G) ∧ ∀ k, k < ofN ν v lim → G k = nI (ofB ν v lim k)) (fun i G hi hI => by
      obtain ⟨i1, i2⟩ := hI
      have hmono := cn_le2 (p := ofP ν v lim) (show i ≤ nB ν by omega)
      have eB : mrp w 55 G 0 1 = nI (nB ν) := e1
      have e5 : mrp w 55 G 5 = ν 5 := w5
      by_cases c12 : cn (ofP ν v lim) i = 12
      · right
        refine ⟨(nI (cn (ofP ν v lim) i), muX ν v lim (cn (ofP ν v lim) i), orK (fun k => ν 1 (ofB ν v lim k)) (cn (ofP ν v lim) i), mrp w 55 G), ?_, G, ?_⟩
        · show md_load_b72 (mrp w 55 G) (nI v) a3 a4 (asL (bdX ν v)) (nI (cn (ofP ν v lim) i)) (muX ν v lim (cn (ofP ν v lim) i)) (orK (fun k => ν 1 (ofB ν v lim k)) (cn (ofP ν v lim) i)) (nI i) = _
          unfold md_load_b72
          rw [eB, if_neg (nI_ge hi (by omega)), c12, if_pos (by decide)]
        · have : ofN ν v lim = cn (ofP ν v lim) i := by unfold ofN; rw [Nat.min_eq_right (by omega), c12]
          rw [this]
          exact ⟨rfl, i2⟩
      · left
        have hcn : cn (ofP ν v lim) (i + 1) = cn (ofP ν v lim) i + (ofP ν v lim i).toNat := rfl
        have hob : ofP ν v lim i = true → ofB ν v lim (cn (ofP ν v lim) i) = i := fun hp => psn_at hi hp
        have hwt := m_wantd (w := mrp w 55 G) g ((absM_mrp (fun _ => rfl)).trans hw) (v := v) (lim := lim) hok hi
        have goal : ∃ G', md_load_b72 (mrp w 55 G) (nI v) a3 a4 (asL (bdX ν v)) (nI (cn (ofP ν v lim) i)) (muX ν v lim (cn (ofP ν v lim) i)) (orK (fun k => ν 1 (ofB ν v lim k)) (cn (ofP ν v lim) i)) (nI i) = some (.inl (nI (cn (ofP ν v lim) (i + 1)), muX ν v lim (cn (ofP ν v lim) (i + 1)), orK (fun k => ν 1 (ofB ν v lim k)) (cn (ofP ν v lim) (i + 1)), nI (i + 1), mrp w 55 G')) ∧ cn (ofP ν v lim) (i + 1) ≤ 12 ∧ ∀ k, k < cn (ofP ν v lim) (i + 1) → G' k = nI (ofB ν v lim k) := by
          have skip : ofP ν v lim i = false → ∃ G', (some (.inl (nI (cn (ofP ν v lim) i), muX ν v lim (cn (ofP ν v lim) i), orK (fun k => ν 1 (ofB ν v lim k)) (cn (ofP ν v lim) i), nI (i + 1), mrp w 55 G)) : Option ((Int32 × Int32 × Int32 × Int32 × Mm) ⊕ (Int32 × Int32 × Int32 × Mm))) = some (.inl (nI (cn (ofP ν v lim) (i + 1)), muX ν v lim (cn (ofP ν v lim) (i + 1)), orK (fun k => ν 1 (ofB ν v lim k)) (cn (ofP ν v lim) (i + 1)), nI (i + 1), mrp w 55 G')) ∧ cn (ofP ν v lim) (i + 1) ≤ 12 ∧ ∀ k, k < cn (ofP ν v lim) (i + 1) → G' k = nI (ofB ν v lim k) := by
            intro hp
            rw [hcn, hp]
            exact ⟨G, rfl, i1, i2⟩
          have take : ofP ν v lim i = true → ∃ G', md_load_j147 (mrp w 55 G) (nI v) a3 a4 (asL (bdX ν v)) (nI (cn (ofP ν v lim) i)) (muX ν v lim (cn (ofP ν v lim) i)) (orK (fun k => ν 1 (ofB ν v lim k)) (cn (ofP ν v lim) i)) (nI i) (bI (tb (bdX ν v) i)) = some (.inl (nI (cn (ofP ν v lim) (i + 1)), muX ν v lim (cn (ofP ν v lim) (i + 1)), orK (fun k => ν 1 (ofB ν v lim k)) (cn (ofP ν v lim) (i + 1)), nI (i + 1), mrp w 55 G')) ∧ cn (ofP ν v lim) (i + 1) ≤ 12 ∧ ∀ k, k < cn (ofP ν v lim) (i + 1) → G' k = nI (ofB ν v lim k) := by
            intro hp
            have ho := hob hp
            have hs : cn (ofP ν v lim) (i + 1) = cn (ofP ν v lim) i + 1 := by rw [hcn, hp]; rfl
            unfold md_load_j147 md_load_j173
            refine ⟨upd G (cn (ofP ν v lim) i) (nI i), ?_, by omega, fun k hk => ?_⟩
            · rw [mwr_nI (by omega) (by decide), mset_mrp, mrd_nI (by omega) (by decide), show mrp w 55 (upd G (cn (ofP ν v lim) i) (nI i)) 1 i = ν 1 i by rw [mrp_o (by decide), w1], hs, nI_1, nI_1]
              have em : muX ν v lim (cn (ofP ν v lim) i + 1) = if tb (bdX ν v) i = true then muX ν v lim (cn (ofP ν v lim) i) ||| ((1 : Int32) <<< (nI (cn (ofP ν v lim) i) &&& 31)) else muX ν v lim (cn (ofP ν v lim) i) := by
                unfold muX
                rw [mkb_S, ho]
              have eo' : orK (fun k => ν 1 (ofB ν v lim k)) (cn (ofP ν v lim) i + 1) = orK (fun k => ν 1 (ofB ν v lim k)) (cn (ofP ν v lim) i) ||| ((1 : Int32) <<< (ν 1 i &&& 31)) := by
                show _ ||| ((1 : Int32) <<< (ν 1 (ofB ν v lim (cn (ofP ν v lim) i)) &&& 31)) = _
                rw [ho]
              rw [em, eo']
              have e1i : mrp w 55 (upd G (cn (ofP ν v lim) i) (nI i)) 1 i = ν 1 i := by rw [mrp_o (by decide), w1]
              by_cases c : tb (bdX ν v) i = true
              · rw [ifb_t c, if_pos c]
                first | rfl | rw [mrd_nI (by omega) (by decide), e1i]
              · rw [ifb_f c, if_neg c]
            · by_cases e : k = cn (ofP ν v lim) i
              · subst e; rw [upd_s, ho]
              · rw [upd_n e]; exact i2 k (by omega)
          have j130 : nrP ν v i = true → ∃ G', md_load_j130 (mrp w 55 G) (nI v) a3 a4 (asL (bdX ν v)) (nI (cn (ofP ν v lim) i)) (muX ν v lim (cn (ofP ν v lim) i)) (orK (fun k => ν 1 (ofB ν v lim k)) (cn (ofP ν v lim) i)) (nI i) (bI (tb (bdX ν v) i)) = some (.inl (nI (cn (ofP ν v lim) (i + 1)), muX ν v lim (cn (ofP ν v lim) (i + 1)), orK (fun k => ν 1 (ofB ν v lim k)) (cn (ofP ν v lim) (i + 1)), nI (i + 1), mrp w 55 G')) ∧ cn (ofP ν v lim) (i + 1) ≤ 12 ∧ ∀ k, k < cn (ofP ν v lim) (i + 1) → G' k = nI (ofB ν v lim k) := by
            intro hnr
            unfold md_load_j130
            rw [hwt, mbv_s, nI_1]
            by_cases c : tb (bdX ν v) i = true
            · have hp : ofP ν v lim i = true := by unfold ofP; rw [hnr, c]; rfl
              rw [ifb_t c]
              exact take hp
            · have c' : tb (bdX ν v) i = false := by simpa using c
              rw [ifb_f c]
              by_cases c2 : wnM ν v lim i = 0
              · rw [ifb_f (by simp [c2])]
                exact skip (by unfold ofP; rw [c', c2]; simp)
              · rw [ifb_t (by simp [c2])]
                exact take (by unfold ofP; rw [hnr]; simp [c2])
          have j105 : ∃ G', md_load_j105 (mrp w 55 G) (nI v) a3 a4 (asL (bdX ν v)) (nI (cn (ofP ν v lim) i)) (muX ν v lim (cn (ofP ν v lim) i)) (orK (fun k => ν 1 (ofB ν v lim k)) (cn (ofP ν v lim) i)) (nI i) (bI (tb (bdX ν v) i)) = some (.inl (nI (cn (ofP ν v lim) (i + 1)), muX ν v lim (cn (ofP ν v lim) (i + 1)), orK (fun k => ν 1 (ofB ν v lim k)) (cn (ofP ν v lim) (i + 1)), nI (i + 1), mrp w 55 G')) ∧ cn (ofP ν v lim) (i + 1) ≤ 12 ∧ ∀ k, k < cn (ofP ν v lim) (i + 1) → G' k = nI (ofB ν v lim k) := by
            unfold md_load_j105
            rw [mrd_nI (by omega) (by decide), e5, mrd_nI (by omega) (by decide), e5, show (1 : Int32) + nI v = nI (1 + v) from nI_add 1 v, nI_1]
            by_cases c0 : ν 5 i = 0
            · rw [if_pos c0]; exact j130 (by unfold nrP; simp [c0])
            · rw [if_neg c0]
              by_cases c1 : ν 5 i = nI (1 + v)
              · rw [if_pos c1]; exact j130 (by unfold nrP; simp [c1])
              · rw [if_neg c1]
                exact skip (by unfold ofP nrP; simp [c0, c1])
          unfold md_load_b72
          rw [eB, if_neg (nI_ge hi (by omega)), if_neg (show ¬ ((12 : Int32) ≤ nI (cn (ofP ν v lim) i)) from nI_ge (b := 12) (by omega) (by decide))]
          by_cases c : tb (bdX ν v) i = true
          · rw [if_pos ((asL_sbit _ (by omega)).mpr c)]
            rw [c] at j105
            exact j105
          · have c' : tb (bdX ν v) i = false := by simpa using c
            rw [if_neg (fun z => c ((asL_sbit _ (by omega)).mp z))]
            rw [c'] at j105
            exact j105
        exact goal) (fun G hI => by
      refine ⟨(nI (cn (ofP ν v lim) (nB ν)), muX ν v lim (cn (ofP ν v lim) (nB ν)), orK (fun k => ν 1 (ofB ν v lim k)) (cn (ofP ν v lim) (nB ν)), mrp w 55 G), ?_, G, ?_⟩
      · show md_load_b72 (mrp w 55 G) (nI v) a3 a4 (asL (bdX ν v)) (nI (cn (ofP ν v lim) (nB ν))) (muX ν v lim (cn (ofP ν v lim) (nB ν))) (orK (fun k => ν 1 (ofB ν v lim k)) (cn (ofP ν v lim) (nB ν))) (nI (nB ν)) = _
        unfold md_load_b72
        rw [show mrp w 55 G 0 1 = nI (nB ν) from e1, if_pos (nI_le (Nat.le_refl _) (by omega))]
      · have : ofN ν v lim = cn (ofP ν v lim) (nB ν) := Nat.min_eq_left hI.1
        rw [this]
        exact ⟨rfl, hI.2⟩) FU 0 (w 55) (by omega) (by unfold FU; omega) ⟨Nat.zero_le _, fun k hk => absurd hk (Nat.not_lt_zero k)⟩
  rw [mrp_self] at h1
  exact ⟨G, by rw [← h2]; exact h1, h3⟩
