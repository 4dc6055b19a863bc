/-! shortest rounds: the reference -/
def enM (o : Option (Nat × Nat)) : Int32 := match o with
  | none => 1000000
  | some q => nI q.2
def hoOK (T : Nat → Int32) (k : Nat) (w : Nat → Nat → Nat) (n : Nat) : Prop := ∀ m b, m < n → b < k → T (8 * m + b) = nI (HH w k m b)
section
variable {ν : Mm} {p : Nat → Bool}
theorem m_apart (g : Good ν) {a b : Nat} (ha : a < cn p (nS ν)) (hb : b < cn p (nS ν)) : md_apart ν (nI (psn p (nS ν) a)) (nI (psn p (nS ν) b)) = some (nI (wyR ν p a b)) := by
  have hS := g_S g
  have pa := (psn_ok ha).1
  have pb := (psn_ok hb).1
  have l1 := cxN_le ν 10 p a
  have l2 := cxN_le ν 10 p b
  have l3 := cxN_le ν 11 p a
  have l4 := cxN_le ν 11 p b
  have key : ∀ x y : Nat, x ≤ 99 → y ≤ 99 → (if nI y ≤ nI x then nI x - nI y else nI y - nI x) = nI (abd x y) := by
    intro x y hx hy
    unfold abd
    by_cases c : y ≤ x
    · rw [if_pos (nI_le c (by omega)), pk_sub c, show y - x = 0 by omega, Nat.add_zero]
    · rw [if_neg (nI_ge (by omega) (by omega)), pk_sub (by omega), show x - y = 0 by omega, Nat.zero_add]
  have k1 := key _ _ l1 l2
  have k2 := key _ _ l3 l4
  have j44 : ∀ y0 : Int32, md_apart_j44 ν (nI (psn p (nS ν) a)) (nI (psn p (nS ν) b)) y0 = some (y0 + nI (abd (cxN ν 11 p a) (cxN ν 11 p b))) := by
    intro y0
    unfold md_apart_j44
    simp only [mrd_nI (show psn p (nS ν) a < 10 by omega) (show 10 < 2 ^ 31 by decide), mrd_nI (show psn p (nS ν) b < 10 by omega) (show 10 < 2 ^ 31 by decide), cx_11 g ha, cx_11 g hb]
    rw [← k2]
    by_cases c : nI (cxN ν 11 p b) ≤ nI (cxN ν 11 p a)
    · rw [if_pos c, if_pos c]
    · rw [if_neg c, if_neg c]
  unfold md_apart
  simp only [mrd_nI (show psn p (nS ν) a < 10 by omega) (show 10 < 2 ^ 31 by decide), mrd_nI (show psn p (nS ν) b < 10 by omega) (show 10 < 2 ^ 31 by decide), cx_10 g ha, cx_10 g hb, j44]
  have e : nI (wyR ν p a b) = nI (abd (cxN ν 10 p a) (cxN ν 10 p b)) + nI (abd (cxN ν 11 p a) (cxN ν 11 p b)) := (nI_add _ _).symm
  rw [e, ← k1]
  by_cases c : nI (cxN ν 10 p b) ≤ nI (cxN ν 10 p a)
  · rw [if_pos c, if_pos c]
  · rw [if_neg c, if_neg c]
theorem cx_d (c : Nat) {a : Nat} (ha : cn p (nS ν) ≤ a) : cxN ν c p a = 0 := by
  unfold cxN
  exact if_neg (by omega)
theorem wy_d {a : Nat} : wyR ν p a (cn p (nS ν)) = cxN ν 10 p a + cxN ν 11 p a ∧ wyR ν p (cn p (nS ν)) a = cxN ν 10 p a + cxN ν 11 p a := by
  unfold wyR abd
  rw [cx_d 10 (Nat.le_refl _), cx_d 11 (Nat.le_refl _)]
  omega
theorem m_toDepot (g : Good ν) {a : Nat} (ha : a < cn p (nS ν)) : md_toDepot ν (nI (psn p (nS ν) a)) = some (nI (cxN ν 10 p a + cxN ν 11 p a)) := by
  have hS := g_S g
  have pa := (psn_ok ha).1
  unfold md_toDepot
  rw [mrd_nI (by omega) (by decide), mrd_nI (by omega) (by decide), cx_10 g ha, cx_11 g ha, nI_add]
theorem m_min (g : Good ν) (hc : cn p (nS ν) ≤ 8) (h7 : ν 0 77 = nI (cn p (nS ν))) (hr : cOK (ν 56) p (nS ν)) {m a : Nat} (hm : m < 2 ^ cn p (nS ν)) (hT : hoOK (ν 57) (cn p (nS ν)) (wyR ν p) m) (ha : a < cn p (nS ν)) (a1 : Int32) : md_miles_l51 ν a1 (nI m) (nI a) 1000000 0 = some (enM (bH (wyR ν p) (cn p (nS ν)) m a)) := by
  have h2k : 2 ^ cn p (nS ν) ≤ 256 := Nat.pow_le_pow_right (by decide) hc
  unfold md_miles_l51
  exact seq_loop (f := fun q : Int32 × Int32 => md_miles_b51 ν a1 (nI m) (nI a) q.1 q.2) (fun i => (enM (bst (fH (wyR ν p) (cn p (nS ν)) m a) (fun b => m.testBit b) i), nI i)) (cn p (nS ν)) _ (fun i hi => by
    show md_miles_b51 ν a1 (nI m) (nI a) (enM (bst (fH (wyR ν p) (cn p (nS ν)) m a) (fun b => m.testBit b) i)) (nI i) = some (Sum.inl (enM (bst (fH (wyR ν p) (cn p (nS ν)) m a) (fun b => m.testBit b) (i + 1)), nI (i + 1)))
    unfold md_miles_b51
    have hf := fH_le hc (wyR_le ν p) (a := a) hm hi
    rw [h7, if_neg (nI_ge hi (by omega)), bst_S, nI_1]
    by_cases c : m.testBit i = true
    · obtain ⟨c1, c2, c3, c4⟩ := clr_f m (by omega) i (by omega)
      rw [if_neg (fun z => by rw [tb_sshr0 _ (by omega), tb_nI (by omega), c] at z; cases z), if_pos c, c1, mrd_nI (by omega) (by decide), mrd_nI (by omega) (by decide), hr a ha, hr i hi, m_apart g ha hi, mbv_s]
      refine (mrd_at (ix2 8 (clr m i) i) (by omega) (by decide)).trans ?_
      rw [hT (clr m i) i (c3 c) hi, nI_add, show wyR ν p a i + HH (wyR ν p) (cn p (nS ν)) (clr m i) i = fH (wyR ν p) (cn p (nS ν)) m a i from rfl]
      cases e : bst (fH (wyR ν p) (cn p (nS ν)) m a) (fun b => m.testBit b) i with
      | none => exact if_neg (show ¬ ((1000000 : Int32) ≤ nI (fH (wyR ν p) (cn p (nS ν)) m a i)) from nI_ge (b := 1000000) (by omega) (by decide))
      | some q =>
        obtain ⟨_, q2⟩ := bH_le hc (wyR_le ν p) hm i (by omega) q e
        show (if nI q.2 ≤ nI (fH (wyR ν p) (cn p (nS ν)) m a i) then _ else _) = some (Sum.inl (enM (if fH (wyR ν p) (cn p (nS ν)) m a i < q.2 then some (i, fH (wyR ν p) (cn p (nS ν)) m a i) else some q), nI (i + 1)))
        by_cases c5 : fH (wyR ν p) (cn p (nS ν)) m a i < q.2
        · rw [if_pos c5, if_neg (nI_ge c5 (by omega))]; rfl
        · rw [if_neg c5, if_pos (nI_le (by omega) (by omega))]
    · rw [if_pos ((tb_sshr0 _ (by omega)).mpr (by rw [tb_nI (by omega)]; simpa using c)), if_neg c]) (by
    show md_miles_b51 ν a1 (nI m) (nI a) (enM (bst (fH (wyR ν p) (cn p (nS ν)) m a) (fun b => m.testBit b) (cn p (nS ν)))) (nI (cn p (nS ν))) = _
    unfold md_miles_b51
    rw [h7, if_pos (nI_le (Nat.le_refl _) (by omega))]
    rfl) (cn p (nS ν)) 0 FU (by omega) (by unfold FU; omega)
theorem m_min0 (hc : cn p (nS ν) ≤ 8) (h7 : ν 0 77 = nI (cn p (nS ν))) (a1 a3 y : Int32) : md_miles_l51 ν a1 (nI 0) a3 y 0 = some y := by
  unfold md_miles_l51
  exact seq_loop (f := fun q : Int32 × Int32 => md_miles_b51 ν a1 (nI 0) a3 q.1 q.2) (fun i => (y, nI i)) (cn p (nS ν)) _ (fun i hi => by
    show md_miles_b51 ν a1 (nI 0) a3 y (nI i) = _
    unfold md_miles_b51
    rw [h7, if_neg (nI_ge hi (by omega)), if_pos ((tb_sshr0 _ (by omega)).mpr (by rw [show nI 0 = (0 : Int32) from rfl, tb_zero])), nI_1]) (by
    show md_miles_b51 ν a1 (nI 0) a3 y (nI (cn p (nS ν))) = _
    unfold md_miles_b51
    rw [h7, if_pos (nI_le (Nat.le_refl _) (by omega))]) (cn p (nS ν)) 0 FU (by omega) (by unfold FU; omega)
theorem m_mrow (g : Good ν) (hc : cn p (nS ν) ≤ 8) (h7 : ν 0 77 = nI (cn p (nS ν))) (hr : cOK (ν 56) p (nS ν)) {m : Nat} (hm : m < 2 ^ cn p (nS ν)) {T : Nat → Int32} (hT : hoOK T (cn p (nS ν)) (wyR ν p) m) (a1 : Int32) : ∃ T', md_miles_l18 (mrp ν 57 T) a1 (nI m) 0 = some (mrp ν 57 T') ∧ hoOK T' (cn p (nS ν)) (wyR ν p) (m + 1) := by
  have h2k : 2 ^ cn p (nS ν) ≤ 256 := Nat.pow_le_pow_right (by decide) hc
  have gw : ∀ T, Good (mrp ν 57 T) := fun T => Good_abs (absM_mrp (fun _ => rfl)) g
  unfold md_miles_l18
  obtain ⟨e, h1, T', h2, h3⟩ := miter_cnt (f := fun q : Int32 × Mm => md_miles_b18 q.2 a1 (nI m) q.1) (fun i (G : Nat → Int32) => (nI i, mrp ν 57 G)) (cn p (nS ν)) (fun i G => hoOK G (cn p (nS ν)) (wyR ν p) m ∧ ∀ b, b < i → G (8 * m + b) = nI (HH (wyR ν p) (cn p (nS ν)) m b)) (fun e => ∃ T', e = mrp ν 57 T' ∧ hoOK T' (cn p (nS ν)) (wyR ν p) (m + 1)) (fun i G hi hI => by
      left
      obtain ⟨i1, i2⟩ := hI
      refine ⟨upd G (8 * m + i) (nI (HH (wyR ν p) (cn p (nS ν)) m i)), ?_, fun m' b' z1 z2 => ?_, fun b z => ?_⟩
      · show md_miles_b18 (mrp ν 57 G) a1 (nI m) (nI i) = _
        unfold md_miles_b18
        rw [show mrp ν 57 G 0 77 = nI (cn p (nS ν)) from h7, if_neg (nI_ge hi (by omega))]
        by_cases c : m = 0
        · subst c
          have hd := m_toDepot (p := p) (gw G) (a := i) hi
          have hd' : md_toDepot (mrp ν 57 G) (nI (psn p (nS ν) i)) = some (nI (cxN ν 10 p i + cxN ν 11 p i)) := hd
          rw [if_pos (show nI 0 = (0 : Int32) from rfl), mrd_nI (by omega) (by decide), mrp_o (by decide), hr i hi, hd', mbv_s]
          unfold md_miles_j46
          rw [m_min0 (ν := mrp ν 57 G) (p := p) hc h7, mbv_s]
          refine (mwr_at (ix2 8 0 i) (by omega) (by decide)).trans ?_
          rw [mset_mrp, HH_0, wy_d.1, nI_1]
        · rw [if_neg (show ¬ (nI m = 0) from nI_ne (b := 0) (by omega) (by decide) c)]
          unfold md_miles_j46
          have hmn := m_min (ν := mrp ν 57 G) (p := p) (gw G) hc h7 hr (m := m) hm i1 hi a1
          have hmn' : md_miles_l51 (mrp ν 57 G) a1 (nI m) (nI i) 1000000 0 = some (enM (bH (wyR ν p) (cn p (nS ν)) m i)) := hmn
          rw [hmn', mbv_s]
          refine (mwr_at (ix2 8 m i) (by omega) (by decide)).trans ?_
          rw [mset_mrp, (bH_s hc hm c).1, HH_s hc hm c, nI_1]
          rfl
      · rw [upd_n (by omega)]; exact i1 m' b' z1 z2
      · by_cases e : b = i
        · subst e; rw [upd_s]
        · rw [upd_n (by omega)]; exact i2 b (by omega)) (fun G hI => ⟨mrp ν 57 G, by
      show md_miles_b18 (mrp ν 57 G) a1 (nI m) (nI (cn p (nS ν))) = _
      unfold md_miles_b18
      rw [show mrp ν 57 G 0 77 = nI (cn p (nS ν)) from h7, if_pos (nI_le (Nat.le_refl _) (by omega))], G, rfl, fun m' b' z1 z2 => by
      by_cases e : m' = m
      · subst e; exact hI.2 b' z2
      · exact hI.1 m' b' (by omega) z2⟩) FU 0 T (by omega) (by unfold FU; omega) ⟨hT, fun b hb => absurd hb (Nat.not_lt_zero b)⟩
  exact ⟨T', by rw [← h2]; exact h1, h3⟩
theorem m_last (g : Good ν) (hc : cn p (nS ν) ≤ 8) (h7 : ν 0 77 = nI (cn p (nS ν))) (hr : cOK (ν 56) p (nS ν)) {m : Nat} (hm : m < 2 ^ cn p (nS ν)) (hT : hoOK (ν 57) (cn p (nS ν)) (wyR ν p) m) (hall : ∀ b, b < cn p (nS ν) → m.testBit b = true) : md_miles_l175 ν (nI m) 1000000 0 = some (enM (bH (wyR ν p) (cn p (nS ν)) m (cn p (nS ν)))) := by
  have h2k : 2 ^ cn p (nS ν) ≤ 256 := Nat.pow_le_pow_right (by decide) hc
  unfold md_miles_l175
  exact seq_loop (f := fun q : Int32 × Int32 => md_miles_b175 ν (nI m) q.1 q.2) (fun i => (enM (bst (fH (wyR ν p) (cn p (nS ν)) m (cn p (nS ν))) (fun b => m.testBit b) i), nI i)) (cn p (nS ν)) _ (fun i hi => by
    show md_miles_b175 ν (nI m) (enM (bst (fH (wyR ν p) (cn p (nS ν)) m (cn p (nS ν))) (fun b => m.testBit b) i)) (nI i) = some (Sum.inl (enM (bst (fH (wyR ν p) (cn p (nS ν)) m (cn p (nS ν))) (fun b => m.testBit b) (i + 1)), nI (i + 1)))
    unfold md_miles_b175
    have hf := fH_le hc (wyR_le ν p) (a := cn p (nS ν)) hm hi
    obtain ⟨c1, c2, c3, c4⟩ := clr_f m (by omega) i (by omega)
    rw [h7, if_neg (nI_ge hi (by omega)), bst_S, if_pos (hall i hi), nI_1, mrd_nI (by omega) (by decide), hr i hi, m_toDepot g hi, mbv_s, c1]
    refine (mrd_at (ix2 8 (clr m i) i) (by omega) (by decide)).trans ?_
    rw [hT (clr m i) i (c3 (hall i hi)) hi, ← wy_d.2, nI_add, show wyR ν p (cn p (nS ν)) i + HH (wyR ν p) (cn p (nS ν)) (clr m i) i = fH (wyR ν p) (cn p (nS ν)) m (cn p (nS ν)) i from rfl]
    cases e : bst (fH (wyR ν p) (cn p (nS ν)) m (cn p (nS ν))) (fun b => m.testBit b) i with
    | none => exact if_neg (show ¬ ((1000000 : Int32) ≤ nI (fH (wyR ν p) (cn p (nS ν)) m (cn p (nS ν)) i)) from nI_ge (b := 1000000) (by omega) (by decide))
    | some q =>
      obtain ⟨_, q2⟩ := bH_le hc (wyR_le ν p) hm i (by omega) q e
      show (if nI q.2 ≤ nI (fH (wyR ν p) (cn p (nS ν)) m (cn p (nS ν)) i) then _ else _) = some (Sum.inl (enM (if fH (wyR ν p) (cn p (nS ν)) m (cn p (nS ν)) i < q.2 then some (i, fH (wyR ν p) (cn p (nS ν)) m (cn p (nS ν)) i) else some q), nI (i + 1)))
      by_cases c5 : fH (wyR ν p) (cn p (nS ν)) m (cn p (nS ν)) i < q.2
      · rw [if_pos c5, if_neg (nI_ge c5 (by omega))]; rfl
      · rw [if_neg c5, if_pos (nI_le (by omega) (by omega))]) (by
    show md_miles_b175 ν (nI m) (enM (bst (fH (wyR ν p) (cn p (nS ν)) m (cn p (nS ν))) (fun b => m.testBit b) (cn p (nS ν)))) (nI (cn p (nS ν))) = _
    unfold md_miles_b175
    rw [h7, if_pos (nI_le (Nat.le_refl _) (by omega))]
    rfl) (cn p (nS ν)) 0 FU (by omega) (by unfold FU; omega)
theorem m_miles (g : Good ν) (hc : cn p (nS ν) ≤ 8) (h7 : ν 0 77 = nI (cn p (nS ν))) (hr : cOK (ν 56) p (nS ν)) : ∃ T, md_miles ν = some (nI (miV ν p), mrp ν 57 T) ∧ hoOK T (cn p (nS ν)) (wyR ν p) (2 ^ cn p (nS ν)) := by
  obtain ⟨af1, af2, af3⟩ := all_f (cn p (nS ν)) hc
  have h2k : 2 ^ cn p (nS ν) ≤ 256 := Nat.pow_le_pow_right (by decide) hc
  have h2p : 0 < 2 ^ cn p (nS ν) := Nat.pow_pos (by decide)
  unfold md_miles
  rw [h7, af1]
  have tab : ∃ T, md_miles_l11 ν (nI (2 ^ cn p (nS ν) - 1)) 0 = some (mrp ν 57 T) ∧ hoOK T (cn p (nS ν)) (wyR ν p) (2 ^ cn p (nS ν)) := by
    unfold md_miles_l11
    obtain ⟨e, h1, T', h2, h3⟩ := miter_cnt (f := fun q : Int32 × Mm => md_miles_b11 q.2 (nI (2 ^ cn p (nS ν) - 1)) q.1) (fun i (G : Nat → Int32) => (nI i, mrp ν 57 G)) (2 ^ cn p (nS ν)) (fun i G => hoOK G (cn p (nS ν)) (wyR ν p) i) (fun e => ∃ T', e = mrp ν 57 T' ∧ hoOK T' (cn p (nS ν)) (wyR ν p) (2 ^ cn p (nS ν))) (fun i G hi hI => by
        left
        obtain ⟨T', t1, t2⟩ := m_mrow g hc h7 hr (m := i) hi hI (nI (2 ^ cn p (nS ν) - 1))
        refine ⟨T', ?_, t2⟩
        show md_miles_b11 (mrp ν 57 G) (nI (2 ^ cn p (nS ν) - 1)) (nI i) = _
        unfold md_miles_b11
        rw [if_neg (fun z => by have := (nI_ltI (a := 2 ^ cn p (nS ν) - 1) (b := i) (by omega) (by omega)).mp z; omega), t1, mbv_s, nI_1]) (fun G hI => ⟨mrp ν 57 G, by
        show md_miles_b11 (mrp ν 57 G) (nI (2 ^ cn p (nS ν) - 1)) (nI (2 ^ cn p (nS ν))) = _
        unfold md_miles_b11
        rw [if_pos (nI_lt (by omega) (by omega))], G, rfl, hI⟩) FU 0 (ν 57) (by omega) (by unfold FU; omega) (fun m b h => absurd h (Nat.not_lt_zero m))
    rw [mrp_self] at h1
    exact ⟨T', by rw [← h2]; exact h1, h3⟩
  obtain ⟨T, t1, t2⟩ := tab
  have gw : Good (mrp ν 57 T) := Good_abs (absM_mrp (fun _ => rfl)) g
  have e7 : mrp ν 57 T 0 77 = nI (cn p (nS ν)) := h7
  rw [t1, mbv_s, e7]
  refine ⟨T, ?_, t2⟩
  unfold md_miles_j172
  by_cases c : cn p (nS ν) = 0
  · rw [if_pos (by rw [c]; rfl)]
    have e0 : md_miles_l175 (mrp ν 57 T) (nI (2 ^ cn p (nS ν) - 1)) 0 0 = some 0 := by
      unfold md_miles_l175
      refine seq_loop (f := fun q : Int32 × Int32 => md_miles_b175 (mrp ν 57 T) (nI (2 ^ cn p (nS ν) - 1)) q.1 q.2) (fun _ => (0, 0)) 0 0 (fun i hi => absurd hi (Nat.not_lt_zero i)) ?_ 0 0 FU (by omega) (by unfold FU; omega)
      show md_miles_b175 (mrp ν 57 T) (nI (2 ^ cn p (nS ν) - 1)) 0 0 = _
      unfold md_miles_b175
      rw [e7, c, if_pos (by decide)]
    rw [e0, mbv_s]
    have : miV ν p = 0 := by
      unfold miV
      rw [c]
      show wyR ν p 0 0 = 0
      unfold wyR abd
      omega
    rw [this]
    rfl
  · rw [if_neg (show ¬ (nI (cn p (nS ν)) = 0) from nI_ne (b := 0) (by omega) (by decide) c)]
    have hne : 2 ^ cn p (nS ν) - 1 ≠ 0 := by
      obtain ⟨j, hj⟩ : ∃ j, cn p (nS ν) = j + 1 := ⟨cn p (nS ν) - 1, by omega⟩
      rw [hj, Nat.pow_succ]
      have := Nat.pow_pos (n := j) (show 0 < 2 by decide)
      omega
    have key := m_last gw hc e7 hr (m := 2 ^ cn p (nS ν) - 1) (show 2 ^ cn p (nS ν) - 1 < 2 ^ cn p (nS ν) by omega) (fun m b z1 z2 => t2 m b (by omega) z2) af3
    have key' : md_miles_l175 (mrp ν 57 T) (nI (2 ^ cn p (nS ν) - 1)) 1000000 0 = some (enM (bH (wyR ν p) (cn p (nS ν)) (2 ^ cn p (nS ν) - 1) (cn p (nS ν)))) := key
    rw [key', mbv_s, (bH_s hc (by omega) hne).1]
    unfold miV
    rw [HH_s hc (by omega) hne]
    rfl
theorem m_halts (g : Good ν) (hc : cn p (nS ν) ≤ 10) (h7 : ν 0 77 = nI (cn p (nS ν))) (hr : cOK (ν 56) p (nS ν)) : md_halts ν = some (sm (fun s => if p s = true then ν 12 s else 0) (nS ν)) := by
  have hS := g_S g
  unfold md_halts md_halts_l4
  rw [sum_loop (f := md_halts_b4 ν) (n := cn p (nS ν)) (fun j => ν 12 (psn p (nS ν) j)) (by omega) (fun i a hi => by
    have := (psn_ok hi).1
    unfold md_halts_b4
    rw [h7, if_neg (nI_ge hi (by omega)), mrd_nI (by omega) (by decide), hr i hi, mrd_nI (by omega) (by decide)]) (fun a => by
    unfold md_halts_b4
    rw [h7, if_pos (nI_le (Nat.le_refl _) (by omega))]), mbv_s, sm_psn p (nS ν) (fun s => ν 12 s) (nS ν) (Nat.le_refl _)]
end
