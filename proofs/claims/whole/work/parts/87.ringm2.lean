/-! rings: their rows, and a step of the reference -/
def rwF (W : Nat → Nat → Bool) (s R L : Nat) : Nat → Nat
  | 0 => s
  | k + 1 => (lf (fun r => W (rwF W s R L k) r && dk W s R (L - (k + 1)) r) R 0).getD 0
theorem rwF_ok {W : Nat → Nat → Bool} {s R L : Nat} (hL : 2 ≤ L) (hh : hitB W s R (L - 1) = true) : ∀ k, k + 1 < L → W (rwF W s R L k) (rwF W s R L (k + 1)) = true ∧ dk W s R (L - (k + 1)) (rwF W s R L (k + 1)) = true ∧ rwF W s R L (k + 1) < R ∧ s < rwF W s R L (k + 1) ∧ ∀ j, j < rwF W s R L (k + 1) → (W (rwF W s R L k) j && dk W s R (L - (k + 1)) j) = false := by
  have core : ∀ k, k + 1 < L → (∃ q, q < R ∧ W (rwF W s R L k) q = true ∧ dk W s R (L - (k + 1)) q = true) → W (rwF W s R L k) (rwF W s R L (k + 1)) = true ∧ dk W s R (L - (k + 1)) (rwF W s R L (k + 1)) = true ∧ rwF W s R L (k + 1) < R ∧ s < rwF W s R L (k + 1) ∧ ∀ j, j < rwF W s R L (k + 1) → (W (rwF W s R L k) j && dk W s R (L - (k + 1)) j) = false := by
    intro k hk ⟨q, q1, q2, q3⟩
    show W (rwF W s R L k) ((lf (fun r => W (rwF W s R L k) r && dk W s R (L - (k + 1)) r) R 0).getD 0) = true ∧ dk W s R (L - (k + 1)) ((lf (fun r => W (rwF W s R L k) r && dk W s R (L - (k + 1)) r) R 0).getD 0) = true ∧ (lf (fun r => W (rwF W s R L k) r && dk W s R (L - (k + 1)) r) R 0).getD 0 < R ∧ s < (lf (fun r => W (rwF W s R L k) r && dk W s R (L - (k + 1)) r) R 0).getD 0 ∧ ∀ j, j < (lf (fun r => W (rwF W s R L k) r && dk W s R (L - (k + 1)) r) R 0).getD 0 → (W (rwF W s R L k) j && dk W s R (L - (k + 1)) j) = false
    cases z : lf (fun r => W (rwF W s R L k) r && dk W s R (L - (k + 1)) r) R 0 with
    | none =>
      have := lf_none z q (Nat.zero_le _) (by omega)
      rw [q2, q3] at this
      cases this
    | some a =>
      obtain ⟨_, a2, a3, a4⟩ := lf_some z
      rw [Bool.and_eq_true] at a3
      have hd : dk W s R ((L - (k + 1) - 1) + 1) a = true := by rw [show L - (k + 1) - 1 + 1 = L - (k + 1) by omega]; exact a3.2
      exact ⟨a3.1, a3.2, (dk_rng hd).2, (dk_rng hd).1, fun j hj => a4 j (Nat.zero_le _) hj⟩
  intro k
  induction k with
  | zero =>
    intro hk
    obtain ⟨r, r1, r2, r3⟩ := hit_iff.mp hh
    exact core 0 hk ⟨r, r1, r2, r3⟩
  | succ k ih =>
    intro hk
    obtain ⟨_, h2, _, _, _⟩ := ih (by omega)
    have hd : dk W s R ((L - (k + 1 + 1)) + 1) (rwF W s R L (k + 1)) = true := by rw [show L - (k + 1 + 1) + 1 = L - (k + 1) by omega]; exact h2
    exact core (k + 1) hk (dk_pre hd)
def rstep (W : Nat → Nat → Bool) (R s : Nat) (a : Nat × (Nat → Nat)) : Nat × (Nat → Nat) := match lstO W s R with
  | none => a
  | some k => if 0 < a.1 ∧ a.1 ≤ k + 1 then a else (k + 1, rwF W s R (k + 1))
theorem lst_ok {W : Nat → Nat → Bool} {s R k : Nat} (h : lstO W s R = some k) : 1 ≤ k ∧ k < R ∧ hitB W s R k = true := by
  obtain ⟨h1, h2, h3, _⟩ := lf_some h
  exact ⟨h1, by omega, h3⟩
theorem rwF_lt {W : Nat → Nat → Bool} {s R L : Nat} (hs : s < R) (hL : 2 ≤ L) (hh : hitB W s R (L - 1) = true) : ∀ k, k < L → rwF W s R L k < R
  | 0, _ => hs
  | k + 1, hk => (rwF_ok hL hh k hk).2.2.1
def rgM (ν : Mm) (a : Nat × (Nat → Nat)) : Prop := a.1 ≤ 16 ∧ ν 0 68 = nI a.1 ∧ ∀ j, j < a.1 → ν 49 j = nI (a.2 j)
theorem dOK_iff {W : Nat → Nat → Bool} {s R : Nat} {F : Nat → Int32} (hs : s < R) (hR : R ≤ 16) (h : dOK W s R F) {a k : Nat} (ha : a < R) (hk : k < 100) : F a = nI k ↔ dk W s R k a = true := by
  constructor
  · intro e
    by_cases c : ∃ j, dk W s R j a = true
    · obtain ⟨j, hj⟩ := c
      have e2 := (h a ha).1 j hj
      have := dk_lt hs hj
      rw [e] at e2
      rw [(nI_eq (by omega) (by omega)).mp e2]
      exact hj
    · have : F a = -1 := (h a ha).2 (fun j => by
        cases q : dk W s R j a
        · rfl
        · exact absurd ⟨j, q⟩ c)
      rw [this] at e
      exact absurd e.symm (nI_m1 (by omega))
  · exact (h a ha).1 k
theorem m_tell {ν : Mm} (g : Good ν) {s L : Nat} (hs : s < nR ν) (hF : dOK (askW ν) s (nR ν) (ν 48)) (hL : 2 ≤ L) (hL2 : L ≤ nR ν) (hh : hitB (askW ν) s (nR ν) (L - 1) = true) (h0 : ν 49 0 = nI s) : ∃ G : Nat → Int32, md_ringFrom_l105 ν (nI s) (nI L) 1 = some (mrp ν 49 G) ∧ ∀ j, j < L → G j = nI (rwF (askW ν) s (nR ν) L j) := by
  have hR := g_R g
  unfold md_ringFrom_l105
  obtain ⟨e, h1, G, h2, h3⟩ := miter_cnt (f := fun q : Int32 × Mm => md_ringFrom_b105 q.2 (nI s) (nI L) q.1) (fun i (G : Nat → Int32) => (nI i, mrp ν 49 G)) L (fun i G => 1 ≤ i ∧ ∀ j, j < i → G j = nI (rwF (askW ν) s (nR ν) L j)) (fun e => ∃ G : Nat → Int32, e = mrp ν 49 G ∧ ∀ j, j < L → G j = nI (rwF (askW ν) s (nR ν) L j)) (fun i G hi hI => by
      left
      obtain ⟨i1, hG⟩ := hI
      obtain ⟨k, rfl⟩ : ∃ k, i = k + 1 := ⟨i - 1, by omega⟩
      obtain ⟨z1, z2, z3, z4, z5⟩ := rwF_ok hL hh k hi
      have gw : Good (mrp ν 49 G) := Good_abs (absM_mrp (fun _ => rfl)) g
      have hrk := rwF_lt hs hL hh k (by omega)
      have st : ∀ r, r < nR ν → md_ringFrom_b115 (mrp ν 49 G) (nI s) (nI L) (nI (k + 1)) (nI r) = if (askW ν (rwF (askW ν) s (nR ν) L k) r && dk (askW ν) s (nR ν) (L - (k + 1)) r) = true then some (.inr (nI r)) else some (.inl (nI (r + 1))) := by
        intro r hr
        unfold md_ringFrom_b115
        rw [mrd_nI (by omega) (by decide), mrp_o (by decide), pk_sub (by omega), nI_pred, mrd_nI (by omega) (by decide), mrp_s, hG k (by omega), m_asksFrom gw (by omega), mbv_s, show askW (mrp ν 49 G) (rwF (askW ν) s (nR ν) L k) r = askW ν (rwF (askW ν) s (nR ν) L k) r from rfl, nI_1]
        by_cases c : ν 48 r = nI (L - (k + 1))
        · rw [if_pos c, (dOK_iff hs hR.2 hF hr (by omega)).mp c, Bool.and_true]
          by_cases c2 : askW ν (rwF (askW ν) s (nR ν) L k) r = true
          · rw [ifb_t c2, if_pos c2]
          · rw [ifb_f c2, if_neg c2]
        · rw [if_neg c, if_neg (fun q => by
            rw [Bool.and_eq_true] at q
            exact c ((dOK_iff hs hR.2 hF hr (by omega)).mpr q.2))]
      have fnd : md_ringFrom_l115 (mrp ν 49 G) (nI s) (nI L) (nI (k + 1)) (nI (s + 1)) = some (nI (rwF (askW ν) s (nR ν) L (k + 1))) := by
        unfold md_ringFrom_l115
        exact seq_loop (f := fun q => md_ringFrom_b115 (mrp ν 49 G) (nI s) (nI L) (nI (k + 1)) q) (fun i => nI (s + 1 + i)) (rwF (askW ν) s (nR ν) L (k + 1) - (s + 1)) _ (fun i hi => by
          show md_ringFrom_b115 (mrp ν 49 G) (nI s) (nI L) (nI (k + 1)) (nI (s + 1 + i)) = _
          rw [st _ (by omega), z5 (s + 1 + i) (by omega)]
          rfl) (by
          show md_ringFrom_b115 (mrp ν 49 G) (nI s) (nI L) (nI (k + 1)) (nI (s + 1 + (rwF (askW ν) s (nR ν) L (k + 1) - (s + 1)))) = _
          rw [show s + 1 + (rwF (askW ν) s (nR ν) L (k + 1) - (s + 1)) = rwF (askW ν) s (nR ν) L (k + 1) by omega, st _ z3, z1, z2]
          rfl) (rwF (askW ν) s (nR ν) L (k + 1) - (s + 1)) 0 FU (by omega) (by unfold FU; omega)
      refine ⟨upd G (k + 1) (nI (rwF (askW ν) s (nR ν) L (k + 1))), ?_, by omega, fun j hj => ?_⟩
      · show md_ringFrom_b105 (mrp ν 49 G) (nI s) (nI L) (nI (k + 1)) = _
        unfold md_ringFrom_b105
        rw [if_neg (nI_ge hi (by omega)), nI_1, fnd, mbv_s, mwr_nI (by omega) (by decide), mset_mrp, nI_1]
      · by_cases c : j = k + 1
        · subst c; rw [upd_s]
        · rw [upd_n c]; exact hG j (by omega)) (fun G hI => ⟨mrp ν 49 G, by
      show md_ringFrom_b105 (mrp ν 49 G) (nI s) (nI L) (nI L) = _
      unfold md_ringFrom_b105
      rw [if_pos (nI_le (Nat.le_refl _) (by omega))], G, rfl, hI.2⟩) FU 1 (ν 49) (by omega) (by unfold FU; omega) ⟨Nat.le_refl _, fun j hj => by
      have : j = 0 := by omega
      subst this
      exact h0⟩
  rw [mrp_self] at h1
  exact ⟨G, by rw [← h2]; exact h1, h3⟩
theorem m_ringFrom {ν : Mm} (g : Good ν) {s : Nat} (hs : s < nR ν) {a : Nat × (Nat → Nat)} (ha : rgM ν a) : ∃ ν', md_ringFrom ν (nI s) = some ν' ∧ absM ν' = absM ν ∧ rgM ν' (rstep (askW ν) (nR ν) s a) := by
  have hR := g_R g
  unfold md_ringFrom
  rw [m_meas g hs, mbv_s]
  generalize hf : upd (fun i => if i < 16 then (-1 : Int32) else ν 48 i) s 0 = f0
  have hok : sok (askW ν) s (nR ν) 0 f0 := by
    intro r hr
    rw [← hf]
    by_cases e : r = s
    · subst e; rw [upd_s]; exact Or.inr ⟨0, Nat.le_refl _, rfl, decide_eq_true rfl⟩
    · rw [upd_n e]; exact Or.inl (if_pos (by omega))
  have hd : dOK (askW ν) s (nR ν) (rof (askW ν) s (nR ν) 16 f0) := fun x hx => rof_dist hs hR.2 hok (by rw [← hf, upd_s]) hx
  generalize rof (askW ν) s (nR ν) 16 f0 = F at hd
  have ab : absM (mrp ν 48 F) = absM ν := absM_mrp (fun _ => rfl)
  have gw : Good (mrp ν 48 F) := g48 g F
  have hl := m_least gw (s := s) hs hd
  rw [nI_1, hl, mbv_s, show lstI (askW (mrp ν 48 F)) s (nR (mrp ν 48 F)) = lstI (askW ν) s (nR ν) from rfl]
  have e68 : mrp ν 48 F 0 68 = nI a.1 := ha.2.1
  have keep : rgM (mrp ν 48 F) a := ⟨ha.1, ha.2.1, ha.2.2⟩
  unfold lstI rstep
  cases q : lstO (askW ν) s (nR ν) with
  | none =>
    show ∃ ν', (if (-1 : Int32) = -1 then _ else _) = some ν' ∧ _
    rw [if_pos rfl]
    exact ⟨_, rfl, ab, keep⟩
  | some k =>
    obtain ⟨k1, k2, k3⟩ := lst_ok q
    show ∃ ν', (if nI (k + 1) = -1 then _ else _) = some ν' ∧ _ ∧ rgM ν' (if 0 < a.1 ∧ a.1 ≤ k + 1 then a else (k + 1, rwF (askW ν) s (nR ν) (k + 1)))
    rw [if_neg (nI_m1 (by omega)), e68]
    have new : ∃ ν', md_ringFrom_j91 (mrp ν 48 F) (nI s) (nI (k + 1)) = some ν' ∧ absM ν' = absM ν ∧ rgM ν' (k + 1, rwF (askW ν) s (nR ν) (k + 1)) := by
      unfold md_ringFrom_j91
      rw [mst_s, show (0 : Int32) = nI 0 from rfl, mwr_nI (by omega) (by decide)]
      have ab2 : absM (mset (mset (mrp ν 48 F) 0 68 (nI (k + 1))) 49 0 (nI s)) = absM ν := (absM_s rfl).trans ((absM_s rfl).trans ab)
      obtain ⟨G, g1, g2⟩ := m_tell (ν := mset (mset (mrp ν 48 F) 0 68 (nI (k + 1))) 49 0 (nI s)) (Good_abs ab2 g) (s := s) (L := k + 1) hs hd (by omega) (by show k + 1 ≤ nR ν; omega) (by rw [Nat.add_sub_cancel]; exact k3) mset_s
      rw [g1, mbv_s]
      exact ⟨_, rfl, (absM_mrp (fun _ => rfl)).trans ab2, by show k + 1 ≤ 16; omega, rfl, fun j hj => g2 j hj⟩
    by_cases c : 0 < a.1 ∧ a.1 ≤ k + 1
    · rw [if_pos c, if_neg (show ¬ (nI a.1 ≤ 0) from fun z => by have := (nI_leI (a := a.1) (b := 0) (by have := ha.1; omega) (by decide)).mp z; omega), if_neg (fun z => by have := (nI_ltI (a := k + 1) (b := a.1) (by omega) (by have := ha.1; omega)).mp z; omega)]
      exact ⟨_, rfl, ab, keep⟩
    · rw [if_neg c]
      by_cases c2 : a.1 = 0
      · rw [if_pos (by rw [c2]; decide)]; exact new
      · rw [if_neg (show ¬ (nI a.1 ≤ 0) from fun z => by have := (nI_leI (a := a.1) (b := 0) (by have := ha.1; omega) (by decide)).mp z; omega), if_pos (nI_lt (by omega) (by have := ha.1; omega))]; exact new
def rfold (W : Nat → Nat → Bool) (R : Nat) : Nat → Nat × (Nat → Nat)
  | 0 => (0, fun _ => 0)
  | i + 1 => rstep W R i (rfold W R i)
theorem m_ringl {ν : Mm} (g : Good ν) (h0 : ν 0 68 = 0) (x : Int32) : ∃ ν', md_ring_l7 ν x 0 = some ν' ∧ absM ν' = absM ν ∧ rgM ν' (rfold (askW ν) (nR ν) (nR ν)) := by
  have hR := g_R g
  unfold md_ring_l7
  obtain ⟨e, h1, h2, h3⟩ := miter_cnt (f := fun q : Int32 × Mm => md_ring_b7 q.2 x q.1) (fun i (w : Mm) => (nI i, w)) (nR ν) (fun i w => absM w = absM ν ∧ rgM w (rfold (askW ν) (nR ν) i)) (fun w => absM w = absM ν ∧ rgM w (rfold (askW ν) (nR ν) (nR ν))) (fun i w hi hI => by
      left
      obtain ⟨i1, i2⟩ := hI
      have gw := Good_abs i1 g
      have eR : nR w = nR ν := nR_abs i1
      have eW : askW w = askW ν := by
        have e20 : w 20 = ν 20 := by have : absM w 20 = absM ν 20 := by rw [i1]
                                     exact this
        have e5 : w 5 = ν 5 := by have : absM w 5 = absM ν 5 := by rw [i1]
                                  exact this
        funext r q
        unfold askW
        rw [nB_abs i1]
        congr 2
        funext b
        unfold askP
        rw [e20, e5]
      obtain ⟨w', w1, w2, w3⟩ := m_ringFrom gw (s := i) (by rw [eR]; exact hi) i2
      rw [eW, eR] at w3
      refine ⟨w', ?_, w2.trans i1, w3⟩
      show md_ring_b7 w x (nI i) = _
      unfold md_ring_b7
      rw [(g_R gw).1, eR, if_neg (nI_ge hi (by omega)), w1, mbv_s, nI_1]) (fun w hI => ⟨w, by
      show md_ring_b7 w x (nI (nR ν)) = _
      unfold md_ring_b7
      rw [(g_R (Good_abs hI.1 g)).1, nR_abs hI.1, if_pos (nI_le (Nat.le_refl _) (by omega))], hI⟩) FU 0 ν (by omega) (by unfold FU; omega) ⟨rfl, Nat.zero_le _, h0, fun j hj => absurd hj (Nat.not_lt_zero j)⟩
  exact ⟨e, h1, h2, h3⟩
