/-! pairs: the class's search -/
def mcs (μ : Mm) (t : Nat → Int32) (s : Int32) : Mm := fun c => if c = 62 then t else if c = 9 then upd (μ 9) 14 s else μ c
theorem mcs_62 {μ : Mm} {t : Nat → Int32} {s : Int32} {i : Nat} {v : Int32} : mset (mcs μ t s) 62 i v = mcs μ (upd t i v) s := by
  funext c
  by_cases e : c = 62
  · subst e; rfl
  · rw [mset_o e]; unfold mcs; simp only [if_neg e]
theorem mcs_9 {μ : Mm} {t : Nat → Int32} {s v : Int32} : mset (mcs μ t s) 9 14 v = mcs μ t v := by
  funext c
  by_cases e : c = 9
  · subst e
    show upd (upd (μ 9) 14 s) 14 v = upd (μ 9) 14 v
    funext j
    by_cases e2 : j = 14
    · subst e2; rw [upd_s, upd_s]
    · rw [upd_n e2, upd_n e2, upd_n e2]
  · rw [mset_o e]; unfold mcs; simp only [if_neg e]
theorem mcs_s {μ : Mm} {t : Nat → Int32} {s : Int32} : mcs μ t s 9 14 = s := upd_s (μ 9) 14 s
theorem mcs_abs (μ : Mm) (t : Nat → Int32) (s : Int32) : absX (mcs μ t s) = absX μ := by
  funext c i
  unfold absX
  by_cases e : c = 62
  · subst e; rfl
  · by_cases e2 : c = 9
    · subst e2; rfl
    · unfold mcs; rw [if_neg e, if_neg e2]
def tF (μ : Mm) (x y : Nat) : Bool := tb (μ 61 x) y
theorem mSz_le {m n : Nat} {c : Nat → Option Nat} (h1 : ∀ y x, c y = some x → x < n) (h2 : ∀ y y' x, c y = some x → c y' = some x → y = y') : mSz c m ≤ n := by
  have := cn_inj (p := fun y => (c y).isSome) (fun y => (c y).getD 0) (m := n) m (fun _ => true) (fun i _ hp => by
    cases e : c i with
    | none => rw [e] at hp; cases hp
    | some x => exact ⟨h1 i x e, rfl⟩) (fun i j _ _ hp hp' e => by
    cases e1 : c i with
    | none => rw [e1] at hp; cases hp
    | some x =>
      cases e2 : c j with
      | none => rw [e2] at hp'; cases hp'
      | some x' =>
        have e' : (c i).getD 0 = (c j).getD 0 := e
        rw [e1, e2] at e'
        have : x = x' := e'
        subst this
        exact h2 i j x e1 e2)
  rw [cn_all (fun _ _ => rfl)] at this
  exact this
section
variable {μ : Mm} {P T : Nat → Bool}
theorem x_can (hP : ∀ x, P x = true → x < 16) : ∀ (n d x : Nat) (c : Nat → Option Nat) (t : Nat → Int32) (s : Int32), n + 1 + d = 40 → x < 16 → mInv (tF μ) P 32 c T → (∀ y, y < 32 → t y = eo (c y)) → d ≤ cn (fun y => tb s y && (c y).isSome) 32 → ∃ ok t' s', vs_Serving_rec (n + 1) 0 (mcs μ t s) (nI x) (nI d) = some (ok, mcs μ t' s') ∧ (∀ y, tb s y = true → tb s' y = true) ∧ ((ok = false ∧ t' = t ∧ (∀ y, y < 32 → tF μ x y = true → tb s' y = true) ∧ ∀ y, y < 32 → tb s' y = true → tb s y = false → ∃ x2, c y = some x2 ∧ ∀ y', y' < 32 → tF μ x2 y' = true → tb s' y' = true) ∨ (ok = true ∧ ∃ c1 y, y < 32 ∧ tb s y = false ∧ mInv (tF μ) P 32 c1 T ∧ c1 y = none ∧ tF μ x y = true ∧ mSz c1 32 = mSz c 32 ∧ (∀ z, z < 32 → tb s z = true → c1 z = c z) ∧ ∀ z, z < 32 → t' z = eo (oupd c1 y (some x) z))) := by
  intro n
  induction n with
  | zero =>
    intro d x c t s hnd hx hinv ht hd
    have h1 := mSz_le (m := 32) (n := 16) (c := c) (fun y x e => hP x (hinv.1 y x e).2.1) hinv.2.1
    have h2 : cn (fun y => tb s y && (c y).isSome) 32 ≤ cn (fun y => (c y).isSome) 32 := cn_mono (fun i hi => by rw [Bool.and_eq_true] at hi; exact hi.2) 32
    unfold mSz at h1
    omega
  | succ n ih =>
    intro d x c t s hnd hx hinv ht hd
    have h1 := mSz_le (m := 32) (n := 16) (c := c) (fun y x e => hP x (hinv.1 y x e).2.1) hinv.2.1
    have h2 : cn (fun y => tb s y && (c y).isSome) 32 ≤ cn (fun y => (c y).isSome) 32 := cn_mono (fun i hi => by rw [Bool.and_eq_true] at hi; exact hi.2) 32
    have hd16 : d ≤ 16 := by unfold mSz at h1; omega
    show ∃ ok t' s', vs_Serving_canServe_r (vs_Serving_rec (n + 1)) (mcs μ t s) (nI x) (nI d) = _ ∧ _
    unfold vs_Serving_canServe_r
    rw [if_pos (show nI d ≤ (16 : Int32) from nI_le (b := 16) hd16 (by decide))]
    unfold vs_Serving_canServe_l10
    obtain ⟨e, g1, g2⟩ := miter_cnt (f := fun q : Int32 × Mm => vs_Serving_canServe_b10 (vs_Serving_rec (n + 1)) q.2 (nI x) (nI d) q.1) (fun i (s1 : Int32) => (nI i, mcs μ t s1)) 32 (fun i s1 => (∀ y, tb s y = true → tb s1 y = true) ∧ (∀ y, y < i → tF μ x y = true → tb s1 y = true) ∧ ∀ y, y < 32 → tb s1 y = true → tb s y = false → ∃ x2, c y = some x2 ∧ ∀ y', y' < 32 → tF μ x2 y' = true → tb s1 y' = true) (fun e => ∃ s', (∀ y, tb s y = true → tb s' y = true) ∧ ((e = .inr (mcs μ t s') ∧ (∀ y, y < 32 → tF μ x y = true → tb s' y = true) ∧ ∀ y, y < 32 → tb s' y = true → tb s y = false → ∃ x2, c y = some x2 ∧ ∀ y', y' < 32 → tF μ x2 y' = true → tb s' y' = true) ∨ ∃ y t' c1, e = .inl (nI y, mcs μ t' s') ∧ y < 32 ∧ tb s y = false ∧ mInv (tF μ) P 32 c1 T ∧ c1 y = none ∧ tF μ x y = true ∧ mSz c1 32 = mSz c 32 ∧ (∀ z, z < 32 → tb s z = true → c1 z = c z) ∧ ∀ z, z < 32 → z ≠ y → t' z = eo (c1 z))) (fun i s1 hi hI => by
        obtain ⟨i1, i2, i3⟩ := hI
        have hb : vs_Serving_canServe_b10 (vs_Serving_rec (n + 1)) (mcs μ t s1) (nI x) (nI d) (nI i) = if tF μ x i = true then (if tb s1 i = true then some (.inl (nI (i + 1), mcs μ t s1)) else if t i = -1 then some (.inr (.inl (nI i, mcs μ t (s1 ||| ((1 : Int32) <<< (nI i &&& 31)))))) else mbm (vs_Serving_rec (n + 1) 0 (mcs μ t (s1 ||| ((1 : Int32) <<< (nI i &&& 31)))) (t i) (nI (d + 1))) fun x12 μ13 => if bI x12 = 0 then some (.inl (nI (i + 1), μ13)) else some (.inr (.inl (nI i, μ13)))) else some (.inl (nI (i + 1), mcs μ t s1)) := by
          unfold vs_Serving_canServe_b10
          rw [if_neg (by exact nI_ge (b := 32) hi (by decide)), mrd_nI (by omega) (by decide), show mcs μ t s1 61 x = μ 61 x from rfl, hasBit_eq _ hi, mbv_s, mcs_s, hasBit_eq _ hi, mbv_s, mst_s, mcs_9, mrd_nI hi (by decide), show mcs μ t (s1 ||| ((1 : Int32) <<< (nI i &&& 31))) 62 i = t i from rfl, mrd_nI hi (by decide), show mcs μ t (s1 ||| ((1 : Int32) <<< (nI i &&& 31))) 62 i = t i from rfl, nI_1, nI_1]
          by_cases c1 : tF μ x i = true
          · rw [ifb_t (b := tb (μ 61 x) i) c1, if_pos c1]
            by_cases c2 : tb s1 i = true
            · rw [ifb_t c2, if_pos c2]
            · rw [ifb_f c2, if_neg c2]
          · rw [ifb_f (b := tb (μ 61 x) i) c1, if_neg c1]
        by_cases c1 : tF μ x i = true
        · rw [if_pos c1] at hb
          by_cases c2 : tb s1 i = true
          · left
            rw [if_pos c2] at hb
            refine ⟨s1, hb, i1, fun y hy hF => ?_, i3⟩
            by_cases e : y = i
            · subst e; exact c2
            · exact i2 y (by omega) hF
          · rw [if_neg c2] at hb
            have c2' : tb s1 i = false := by simpa using c2
            have hsi : tb s i = false := by
              cases q : tb s i
              · rfl
              · exact absurd (i1 i q) c2
            have sup : ∀ y, tb s1 y = true → tb (s1 ||| ((1 : Int32) <<< (nI i &&& 31))) y = true := fun y hy => by rw [tb_or, hy]; rfl
            have sii : tb (s1 ||| ((1 : Int32) <<< (nI i &&& 31))) i = true := by rw [tb_set _ hi hi]; simp
            have snw : ∀ y, y < 32 → tb (s1 ||| ((1 : Int32) <<< (nI i &&& 31))) y = true → y ≠ i → tb s1 y = true := fun y hy h hne => by
              rw [tb_set _ hi hy] at h
              simpa [hne] using h
            generalize s1 ||| ((1 : Int32) <<< (nI i &&& 31)) = s2 at hb sup sii snw
            cases ec : c i with
            | none =>
              right
              rw [ht i hi, ec, if_pos (show eo none = -1 from rfl)] at hb
              exact ⟨_, hb, s2, fun y hy => sup y (i1 y hy), Or.inr ⟨i, t, c, rfl, hi, hsi, hinv, ec, c1, rfl, fun _ _ _ => rfl, fun z hz _ => ht z hz⟩⟩
            | some x2 =>
              have hx2 := hP x2 (hinv.1 i x2 ec).2.1
              rw [ht i hi, ec, if_neg (show ¬ (eo (some x2) = -1) from nI_m1 (by omega)), show eo (some x2) = nI x2 from rfl] at hb
              have hcnt : d + 1 ≤ cn (fun y => tb s2 y && (c y).isSome) 32 := by
                have a1 : cn (fun y => tb s y && (c y).isSome) 32 ≤ cn (fun y => tb s1 y && (c y).isSome) 32 := cn_mono (fun j hj => by
                  rw [Bool.and_eq_true] at hj ⊢
                  exact ⟨i1 j hj.1, hj.2⟩) 32
                have a2 := cn_more (p := fun y => tb s1 y && (c y).isSome) (q := fun y => tb s2 y && (c y).isSome) (fun j hj => by
                  rw [Bool.and_eq_true] at hj ⊢
                  exact ⟨sup j hj.1, hj.2⟩) (i := i) (by simp [c2']) (by simp [sii, ec]) hi
                omega
              obtain ⟨ok, t', s3, w1, w2, w3⟩ := ih (d + 1) x2 c t s2 (by omega) hx2 hinv ht hcnt
              rw [w1, mbm_s] at hb
              rcases w3 with ⟨rfl, rfl, w4, w5⟩ | ⟨rfl, c1', y1, y2, y3, y4, y5, y6, y7, y8, y9⟩
              · left
                refine ⟨s3, hb, fun y hy => w2 y (sup y (i1 y hy)), fun y hy hF => ?_, fun y hy h3 h0 => ?_⟩
                · by_cases e : y = i
                  · subst e; exact w2 y sii
                  · exact w2 y (sup y (i2 y (by omega) hF))
                · by_cases e : y = i
                  · subst e; exact ⟨x2, ec, w4⟩
                  · cases q : tb s2 y
                    · exact w5 y hy h3 q
                    · obtain ⟨x3, z1, z2⟩ := i3 y hy (snw y hy q e) h0
                      exact ⟨x3, z1, fun y' hy' hF' => w2 y' (sup y' (z2 y' hy' hF'))⟩
              · right
                have c1i : c1' i = some x2 := by rw [y8 i hi sii, ec]
                obtain ⟨r1, r2⟩ := m_rot y4 y2 y5 y6 c1i
                have hne : y1 ≠ i := fun e => by rw [e, sii] at y3; cases y3
                refine ⟨_, hb, s3, fun y hy => w2 y (sup y (i1 y hy)), Or.inr ⟨i, t', oupd (oupd c1' y1 (some x2)) i none, rfl, hi, hsi, r1, oupd_s, c1, r2.trans y7, fun z hz hs => ?_, fun z hz hzi => ?_⟩⟩
                · have e1 : z ≠ i := fun e => by rw [e, hsi] at hs; cases hs
                  have e2 : z ≠ y1 := fun e => by rw [e] at hs; rw [sup y1 (i1 y1 hs)] at y3; cases y3
                  rw [oupd_n e1, oupd_n e2]
                  exact y8 z hz (sup z (i1 z hs))
                · rw [oupd_n hzi]; exact y9 z hz
        · left
          rw [if_neg c1] at hb
          refine ⟨s1, hb, i1, fun y hy hF => ?_, i3⟩
          by_cases e : y = i
          · subst e; exact absurd hF c1
          · exact i2 y (by omega) hF) (fun s1 hI => ⟨.inr (mcs μ t s1), rfl, s1, hI.1, Or.inl ⟨rfl, hI.2.1, hI.2.2⟩⟩) FU 0 s (by omega) (by unfold FU; omega) ⟨fun _ z => z, fun y hy => absurd hy (Nat.not_lt_zero y), fun y _ a b => by rw [a] at b; cases b⟩
    have g1' : miter (fun q : Int32 × Mm => vs_Serving_canServe_b10 (vs_Serving_rec (n + 1)) q.2 (nI x) (nI d) q.1) FU (0, mcs μ t s) = some e := g1
    rw [g1']
    obtain ⟨s', k1, ⟨k2, k3, k4⟩ | ⟨y, t', c1, k2, k3, k4, k5, k6, k7, k8, k9, k10⟩⟩ := g2
    · rw [k2]
      exact ⟨false, t, s', rfl, k1, Or.inl ⟨rfl, rfl, k3, k4⟩⟩
    · rw [k2]
      refine ⟨true, upd t' y (nI x), s', ?_, k1, Or.inr ⟨rfl, c1, y, k3, k4, k5, k6, k7, k8, k9, fun z hz => ?_⟩⟩
      · show (mwr (mcs μ t' s') 62 32 (nI y) (nI x) fun μ18 => some (true, μ18)) = _
        rw [mwr_nI k3 (by decide), mcs_62]
      · by_cases e : z = y
        · subst e; rw [upd_s, oupd_s]; rfl
        · rw [upd_n e, oupd_n e]; exact k10 z hz e
end
theorem x_fill62 (μ : Mm) : vs_Arrays_fill_53178_62 μ (-1) = some (mcs μ (fun j => if j < 32 then -1 else μ 62 j) (μ 9 14)) := by
  have e1 : ∀ t : Nat → Int32, mcs μ t (μ 9 14) = mrp μ 62 t := by
    intro t
    funext c
    unfold mcs mrp
    by_cases e : c = 62
    · rw [if_pos e, if_pos e]
    · rw [if_neg e, if_neg e]
      by_cases e2 : c = 9
      · rw [if_pos e2, e2, upd_self]
      · rw [if_neg e2]
  rw [e1]
  unfold vs_Arrays_fill_53178_62 vs_Arrays_fill_53178_62_l5
  have key := seq_loop (f := fun q : Int32 × Mm => vs_Arrays_fill_53178_62_b5 q.2 (-1) 32 q.1) (fun i => (nI i, mrp μ 62 (fun j => if j < i then -1 else μ 62 j))) 32 _ (fun i hi => by
    show vs_Arrays_fill_53178_62_b5 (mrp μ 62 (fun j => if j < i then -1 else μ 62 j)) (-1) 32 (nI i) = _
    unfold vs_Arrays_fill_53178_62_b5
    rw [if_neg (by exact nI_ge (b := 32) hi (by decide)), mwr_nI hi (by decide), mset_mrp, nI_1]
    congr 3
    congr 1
    funext j
    by_cases e : j = i
    · subst e; rw [upd_s, if_pos (by omega)]
    · rw [upd_n e]
      by_cases c : j < i
      · rw [if_pos c, if_pos (by omega)]
      · rw [if_neg c, if_neg (by omega)]) rfl 32 0 FU (by omega) (by unfold FU; omega)
  have e0 : mrp μ 62 (fun j => if j < 0 then -1 else μ 62 j) = μ := by
    have : (fun j => if j < 0 then (-1 : Int32) else μ 62 j) = μ 62 := by funext j; exact if_neg (Nat.not_lt_zero j)
    rw [this, mrp_self]
  have key' : miter (fun q : Int32 × Mm => vs_Arrays_fill_53178_62_b5 q.2 (-1) 32 q.1) FU (0, mrp μ 62 (fun j => if j < 0 then -1 else μ 62 j)) = some (mrp μ 62 (fun j => if j < 32 then -1 else μ 62 j)) := key
  rw [e0] at key'
  rw [key', mbv_s]
theorem x_most (μ : Mm) : ∃ c T t s, vs_Serving_mostReaders μ = some (nI (mSz c 32), mcs μ t s) ∧ mInv (tF μ) (fun z => decide (z < 16)) 32 c T := by
  unfold vs_Serving_mostReaders
  rw [x_fill62, mbv_s]
  unfold vs_Serving_mostReaders_l12
  obtain ⟨e, h1, c, T, t, s, h2, h3⟩ := miter_cnt (f := fun q : Int32 × Int32 × Mm => vs_Serving_mostReaders_b12 q.2.2 q.1 q.2.1) (fun i (a : Nat × Mm) => (nI a.1, nI i, a.2)) 16 (fun i a => ∃ c T t s, a.1 = mSz c 32 ∧ a.2 = mcs μ t s ∧ mInv (tF μ) (fun z => decide (z < i)) 32 c T ∧ ∀ y, y < 32 → t y = eo (c y)) (fun e => ∃ c T t s, e = (nI (mSz c 32), mcs μ t s) ∧ mInv (tF μ) (fun z => decide (z < 16)) 32 c T) (fun i a hi hI => by
      left
      obtain ⟨n, w⟩ := a
      obtain ⟨c, T, t, s, i1, i2, i3, i4⟩ := hI
      have i1' : n = mSz c 32 := i1
      have i2' : w = mcs μ t s := i2
      subst i2'
      subst i1'
      obtain ⟨ok, t', s', w1, w2, w3⟩ := x_can (μ := μ) (P := fun z => decide (z < i)) (T := T) (fun x hx => by have := of_decide_eq_true hx; omega) 39 0 i c t 0 rfl hi i3 i4 (Nat.zero_le _)
      have hb : vs_Serving_mostReaders_b12 (mcs μ t s) (nI (mSz c 32)) (nI i) = if bI ok = 0 then some (.inl (nI (mSz c 32), nI (i + 1), mcs μ t' s')) else some (.inl (nI (mSz c 32 + 1), nI (i + 1), mcs μ t' s')) := by
        unfold vs_Serving_mostReaders_b12
        rw [if_neg (by exact nI_ge (b := 16) hi (by decide)), mst_s, mcs_9, show vs_Serving_rec RF 0 (mcs μ t 0) (nI i) 0 = some (ok, mcs μ t' s') from w1, mbm_s, nI_1, nI_1]
      rcases w3 with ⟨rfl, rfl, w4, w5⟩ | ⟨rfl, c1, y, y1, y2, y3, y4, y5, y6, y7, y8⟩
      · refine ⟨(mSz c 32, mcs μ t' s'), hb, c, _, t', s', rfl, rfl, m_P (m_fail i3 i (fun y => decide (y < 32) && tb s' y) (fun y hy => ?_) (fun y hy hF => ?_) (fun y x hy hcy y' hy' hF => ?_)) (fun z => ?_), i4⟩
        · rw [Bool.and_eq_true, decide_eq_true_eq] at hy
          obtain ⟨x2, z1, _⟩ := w5 y hy.1 hy.2 (tb_zero y)
          rw [z1]; rfl
        · rw [Bool.and_eq_true, decide_eq_true_eq]
          exact ⟨hy, w4 y hy hF⟩
        · rw [Bool.and_eq_true, decide_eq_true_eq] at hy ⊢
          obtain ⟨x2, z1, z2⟩ := w5 y hy.1 hy.2 (tb_zero y)
          rw [hcy] at z1
          have := Option.some.inj z1
          subst this
          exact ⟨hy', z2 y' hy' hF⟩
        · unfold pad
          rw [Bool.eq_iff_iff]
          simp
          omega
      · obtain ⟨g1, g2⟩ := m_fin y3 y1 y4 y5 (fun z e => by
          have := of_decide_eq_true (y3.1 z i e).2.1
          omega)
        refine ⟨(mSz c 32 + 1, mcs μ t' s'), hb, oupd c1 y (some i), T, t', s', ?_, rfl, m_P g1 (fun z => ?_), y8⟩
        · show mSz c 32 + 1 = _
          rw [g2, y6]
        · unfold pad
          rw [Bool.eq_iff_iff]
          simp
          omega) (fun a hI => by
      obtain ⟨n, w⟩ := a
      obtain ⟨c, T, t, s, i1, i2, i3, i4⟩ := hI
      have i1' : n = mSz c 32 := i1
      have i2' : w = mcs μ t s := i2
      subst i2'
      subst i1'
      exact ⟨_, rfl, c, T, t, s, rfl, i3⟩) FU 0 (0, mcs μ (fun j => if j < 32 then -1 else μ 62 j) (μ 9 14)) (by omega) (by unfold FU; omega) ⟨fun _ => none, fun _ => false, _, _, by
      show 0 = mSz (fun _ => none) 32
      exact (cn_zero (fun _ _ => rfl)).symm, rfl, m_P m_none (fun z => by simp), fun y hy => if_pos hy⟩
  have h1' : miter (fun q : Int32 × Int32 × Mm => vs_Serving_mostReaders_b12 q.2.2 q.1 q.2.1) FU (0, 0, mcs μ (fun j => if j < 32 then -1 else μ 62 j) (μ 9 14)) = some e := h1
  rw [h1', mbv_s, h2]
  exact ⟨c, T, t, s, rfl, h3⟩
