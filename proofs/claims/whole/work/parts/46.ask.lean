theorem sm_one {f f' : Nat → Int32} {r : Nat} (h : ∀ k, k ≠ r → f' k = f k) : ∀ {n : Nat}, r < n → sm f' n = sm f n - f r + f' r
  | 0, hr => absurd hr (Nat.not_lt_zero r)
  | n + 1, hr => by
    simp only [sm]
    by_cases e : r = n
    · subst e
      rw [sm_cong (f := f') (g := f) (fun k hk => h k (by omega))]
      apply Int32.toBitVec_inj.mp
      simp only [Int32.toBitVec_add, Int32.toBitVec_sub]
      have : ∀ a b c : BitVec 32, a + c = a + b - b + c := fun a b c => by rw [BitVec.add_sub_cancel]
      exact this _ _ _
    · rw [sm_one h (show r < n by omega), h n (fun q => e q.symm)]
      apply Int32.toBitVec_inj.mp
      simp only [Int32.toBitVec_add, Int32.toBitVec_sub]
      generalize (sm f n).toBitVec = a
      generalize (f r).toBitVec = b
      generalize (f' r).toBitVec = c
      generalize (f n).toBitVec = d
      rw [BitVec.sub_eq_add_neg, BitVec.sub_eq_add_neg]
      ac_rfl
theorem cn_up {p p' : Nat → Bool} {b : Nat} (h : ∀ k, k ≠ b → p' k = p k) (h0 : p b = false) (h1 : p' b = true) : ∀ {n : Nat}, b < n → cn p' n = cn p n + 1
  | 0, hr => absurd hr (Nat.not_lt_zero b)
  | n + 1, hr => by
    simp only [cn]
    by_cases e : b = n
    · subst e
      rw [cn_cong (f := p') (g := p) (fun k hk => h k (by omega)), h0, h1]; rfl
    · rw [cn_up h h0 h1 (show b < n by omega), h n (fun q => e q.symm)]; omega
theorem nI_up (x : Int32) (c : Nat) : x - nI c + nI (c + 1) = x + 1 := by
  rw [← nI_1]
  apply Int32.toBitVec_inj.mp
  simp only [Int32.toBitVec_add, Int32.toBitVec_sub]
  generalize x.toBitVec = a
  generalize (nI c).toBitVec = b
  rw [← BitVec.add_assoc, BitVec.sub_add_cancel]
theorem nI_dn (x : Int32) (c : Nat) : x - nI (c + 1) + nI c = x - 1 := by
  rw [← nI_1]
  apply Int32.toBitVec_inj.mp
  simp only [Int32.toBitVec_add, Int32.toBitVec_sub]
  generalize x.toBitVec = a
  generalize (nI c).toBitVec = b
  rw [BitVec.sub_eq_add_neg, BitVec.sub_eq_add_neg, BitVec.neg_add, BitVec.sub_eq_add_neg]
  have : b + -b = 0#32 := by rw [← BitVec.sub_eq_add_neg, BitVec.sub_self]
  calc a + (-b + -(Int32.toBitVec 1)) + b = a + (b + -b) + -(Int32.toBitVec 1) := by ac_rfl
    _ = _ := by rw [this]; simp
theorem dAsk_row {R : Nat} {dy ad : Nat → Int32} {sz : Int32} (h : dAsk R dy ad sz) {r b : Nat} (hr : r < R) (hR : R ≤ 16) (hb : b < 32) (v : Int32) : (∀ r', r' < 16 → ∀ b', b' < 32 → upd dy (32 * r + b) v (32 * r' + b') = if r' < R then upd ad (32 * r + b) v (32 * r' + b') else -1) := by
  intro r' hr' b' hb'
  by_cases e : 32 * r' + b' = 32 * r + b
  · rw [e, upd_s, upd_s, if_pos (by omega)]
  · rw [upd_n e, upd_n e]; exact h.1 r' hr' b' hb'
theorem dAsk_on {R : Nat} {dy ad : Nat → Int32} {sz : Int32} (h : dAsk R dy ad sz) {r b : Nat} (hr : r < R) (hR : R ≤ 16) (hb : b < 32) {v : Int32} (h0 : ad (32 * r + b) = -1) (hv : v ≠ -1) : dAsk R (upd dy (32 * r + b) v) (upd ad (32 * r + b) v) (sz + 1) := by
  refine ⟨dAsk_row h hr hR hb v, ?_⟩
  rw [sm_one (f := fun r' => nI (cn (fun b' => decide (ad (32 * r' + b') ≠ -1)) 32)) (r := r) (fun k hk => ?_) hr]
  · show _ = _ - nI (cn (fun b' => decide (ad (32 * r + b') ≠ -1)) 32) + nI (cn (fun b' => decide (upd ad (32 * r + b) v (32 * r + b') ≠ -1)) 32)
    rw [cn_up (p := fun b' => decide (ad (32 * r + b') ≠ -1)) (p' := fun b' => decide (upd ad (32 * r + b) v (32 * r + b') ≠ -1)) (b := b) (fun k hk => by
      show decide (upd ad (32 * r + b) v (32 * r + k) ≠ -1) = _
      rw [upd_n (by omega)]) (by simp [h0]) (by simp [upd_s, hv]) hb, nI_up, ← h.2]
  · show nI (cn (fun b' => decide (upd ad (32 * r + b) v (32 * k + b') ≠ -1)) 32) = _
    rw [cn_cong (f := fun b' => decide (upd ad (32 * r + b) v (32 * k + b') ≠ -1)) (g := fun b' => decide (ad (32 * k + b') ≠ -1)) (fun b' hb' => by rw [upd_n (by omega)])]
theorem dAsk_off {R : Nat} {dy ad : Nat → Int32} {sz : Int32} (h : dAsk R dy ad sz) {r b : Nat} (hr : r < R) (hR : R ≤ 16) (hb : b < 32) (h0 : ad (32 * r + b) ≠ -1) : dAsk R (upd dy (32 * r + b) (-1)) (upd ad (32 * r + b) (-1)) (sz - 1) := by
  refine ⟨dAsk_row h hr hR hb (-1), ?_⟩
  rw [sm_one (f := fun r' => nI (cn (fun b' => decide (ad (32 * r' + b') ≠ -1)) 32)) (r := r) (fun k hk => ?_) hr]
  · show _ = _ - nI (cn (fun b' => decide (ad (32 * r + b') ≠ -1)) 32) + nI (cn (fun b' => decide (upd ad (32 * r + b) (-1) (32 * r + b') ≠ -1)) 32)
    rw [cn_up (p' := fun b' => decide (ad (32 * r + b') ≠ -1)) (p := fun b' => decide (upd ad (32 * r + b) (-1) (32 * r + b') ≠ -1)) (b := b) (fun k hk => by
      show _ = decide (upd ad (32 * r + b) (-1) (32 * r + k) ≠ -1)
      rw [upd_n (by omega)]) (by simp [upd_s]) (by simp [h0]) hb, nI_dn, ← h.2]
  · show nI (cn (fun b' => decide (upd ad (32 * r + b) (-1) (32 * k + b') ≠ -1)) 32) = _
    rw [cn_cong (f := fun b' => decide (upd ad (32 * r + b) (-1) (32 * k + b') ≠ -1)) (g := fun b' => decide (ad (32 * k + b') ≠ -1)) (fun b' hb' => by rw [upd_n (by omega)])]
theorem gAsk_set {R B : Nat} {ad : Nat → Int32} (h : gAsk R B ad) {r b : Nat} (hr : r < R) (hb : b < B) (hB : B ≤ 32) {v : Int32} (hv : gO v 199) : gAsk R B (upd ad (32 * r + b) v) := by
  intro r' hr' b' hb'
  by_cases e : 32 * r' + b' = 32 * r + b
  · rw [e, upd_s]; exact ⟨hv, fun h5 => by omega⟩
  · rw [upd_n e]; exact h r' hr' b' hb'
/-- who has it -/
theorem x_holder {μ ν : Mm} (r : RX μ ν) {b : Nat} (hb : b < 32) : vs_Books_holder μ (nI b) = some (if wi (ν 5 b) 10 25 = true then ν 5 b - 10 else -1) := by
  unfold vs_Books_holder
  have e : μ 19 = ν 5 := r.2.1.2.2.2.2.1
  rw [mrd_nI hb (by decide), within_eq, mbv_s, e]
  cases wi (ν 5 b) 10 25
  · rfl
  · simp only [ifT, if_true]
    rw [mrd_nI hb (by decide), e]
theorem hold_iff (p : Int32) {r : Nat} (hr : r < 16) : (if wi p 10 25 = true then p - 10 else -1) = nI r ↔ p = nI (10 + r) := by
  constructor
  · intro h
    split at h
    · have h2 : p - 10 + 10 = nI r + nI 10 := by rw [h]; rfl
      rw [nI_add, Int32.sub_add_cancel] at h2
      rw [h2, Nat.add_comm]
    · exact absurd h.symm (nI_v (by omega))
  · intro h
    subst h
    have : wi (nI (10 + r)) 10 25 = true := by
      unfold wi
      rw [show (10 : Int32) = nI 10 from rfl, show (25 : Int32) = nI 25 from rfl]
      simp only [nI_leI (show 10 < 2 ^ 31 by decide) (show 10 + r < 2 ^ 31 by omega), nI_leI (show 10 + r < 2 ^ 31 by omega) (show 25 < 2 ^ 31 by decide)]
      simp
      omega
    rw [if_pos this, show (10 : Int32) = nI 10 from rfl, pk_sub (by omega)]
    congr 1
    omega
theorem st_ask : ST_ask Rel := by
  intro μ ν a1 a2 a3 h
  unfold vs_ask md_ask
  simp only [x_pair h.1 h.2, m_isR h.2, m_isB h.2, within_eq, in_eq, mbv_s, x_T h.1]
  have hR := (g_R h.2).2
  have hB := (g_B h.2).2
  have hS := (g_S h.2).2
  cases h1 : ix a1 (nR ν)
  · exact ⟨false, μ, ν, rfl, rfl, h⟩
  cases h2 : ix a2 (nB ν)
  · exact ⟨false, μ, ν, rfl, rfl, h⟩
  cases h3 : wi a3 (ν 0 0) 199
  · exact ⟨false, μ, ν, rfl, rfl, h⟩
  obtain ⟨r, hr, rfl⟩ := ix_t h1 (by omega)
  obtain ⟨b, hb, rfl⟩ := ix_t h2 (by omega)
  obtain ⟨d, hd1, hd2, rfl⟩ := wi_r (lo := nT ν) (hi := 199) (by rw [← (g_T h.2).1]; exact h3) (by decide) (by have := (g_T h.2).2; omega)
  have hr16 : r < 16 := by omega
  have hb32 : b < 32 := by omega
  obtain ⟨⟨s, hs, es⟩, -⟩ := h.2.2.2.2.2.1.1 r hr
  have e25 : μ 25 = ν 15 := h.1.2.2.2.1.1
  simp only [Bool.and_self, ifT]
  rw [mrd_nI hr16 (by decide), e25, es, x_lowestVan h.1 h.2 hs (by omega), mbv_s]
  have key : ∀ y0 : Int32, (y0 = 0 ∧ anyV ν s d = false) ∨ (y0 = 1 ∧ anyV ν s d = true) → ∃ v u w, vs_ask_j51 μ (nI r) (nI b) (nI d) y0 = some (v, u) ∧ (mrd ν 20 512 (32 * nI r + nI b) fun x7 => if x7 = -1 then mrd ν 5 32 (nI b) fun x9 => if x9 = 10 + nI r then some (false, ν) else mrd ν 15 16 (nI r) fun x11 => mbv (md_isVisitedByAny ν x11 (nI d)) fun x12 => if bI x12 = 0 then some (false, ν) else mwr ν 20 512 (32 * nI r + nI b) (nI d) fun μ14 => some (true, μ14) else some (false, ν)) = some (v, w) ∧ Rel u w := by
    intro y0 hy
    have em : (mrd ν 20 512 (32 * nI r + nI b) fun x7 => if x7 = -1 then mrd ν 5 32 (nI b) fun x9 => if x9 = 10 + nI r then some (false, ν) else mrd ν 15 16 (nI r) fun x11 => mbv (md_isVisitedByAny ν x11 (nI d)) fun x12 => if bI x12 = 0 then some (false, ν) else mwr ν 20 512 (32 * nI r + nI b) (nI d) fun μ14 => some (true, μ14) else some (false, ν)) = if ν 20 (32 * r + b) = -1 then if ν 5 b = nI (10 + r) then some (false, ν) else if bI (anyV ν s d) = 0 then some (false, ν) else some (true, mset ν 20 (32 * r + b) (nI d)) else some (false, ν) := by
      refine (mrd_at (ix2 32 r b) (by omega) (by decide)).trans ?_
      rw [mrd_nI hb32 (by decide), mrd_nI hr16 (by decide), es, m_anyV (by omega) (by omega), mbv_s, show (10 : Int32) + nI r = nI (10 + r) from nI_add 10 r]
      rw [show (32 : Int32) * nI r + nI b = nI (32 * r + b) from ix2 32 r b, mwr_nI (by omega) (by decide)]
    rw [em]
    unfold vs_ask_j51
    rw [x_dayOf h.1 h.2 hr hb32, mbv_s, x_holder h.1 hb32, mbv_s]
    simp only [hold_iff _ hr16]
    rcases hy with ⟨rfl, ha⟩ | ⟨rfl, ha⟩
    · rw [if_pos rfl, ha, ifF]
      refine ⟨false, μ, ν, rfl, ?_, h⟩
      split
      · split <;> rfl
      · rfl
    · rw [if_neg (by decide), ha, ifT]
      by_cases e1 : ν 20 (32 * r + b) = -1
      · rw [if_pos e1, if_pos e1]
        by_cases e2 : ν 5 b = nI (10 + r)
        · rw [if_pos e2, if_pos e2]; exact ⟨false, μ, ν, rfl, rfl, h⟩
        · rw [if_neg e2, if_neg e2]
          refine ⟨true, mset (mset μ 44 (32 * r + b) (nI d)) 5 4 (μ 5 4 + 1), mset ν 20 (32 * r + b) (nI d), ?_, rfl, ?_⟩
          · have : vs_Asks_add μ (nI r) (nI b) (nI d) = some (mset (mset μ 44 (32 * r + b) (nI d)) 5 4 (μ 5 4 + 1)) := mwr_at (ix3 32 r b) (by omega) (by decide)
            rw [this, mbv_s]
          · obtain ⟨⟨n, rb, rs, rr, rv, ra, hpv, hhad, hkind, hout, hrd, htold, hput, hlost, hask, hrest⟩, ⟨gn, gb, gsh, gst, grd, gas, grest⟩⟩ := h
            exact ⟨⟨n, rb, rs, rr, rv, ra, hpv, hhad, hkind, hout, hrd, htold, hput, hlost, dAsk_on hask hr hR hb32 e1 (fun q => by
              have := congrArg Int32.toInt q
              rw [nI_toInt (by omega)] at this
              have e2 : (-1 : Int32).toInt = -1 := rfl
              omega), hrest⟩, ⟨gn, gb, gsh, gst, grd, gAsk_set gas hr hb hB (Or.inr ⟨d, hd2, rfl⟩), grest⟩⟩
      · rw [if_neg e1, if_neg e1]; exact ⟨false, μ, ν, rfl, rfl, h⟩
  by_cases e : lowV ν s d = -1
  · rw [if_pos e]; exact key 0 (Or.inl ⟨rfl, (low_any ν s d).mp e⟩)
  · rw [if_neg e]; exact key 1 (Or.inr ⟨rfl, by cases q : anyV ν s d; exact absurd ((low_any ν s d).mpr q) e; rfl⟩)
theorem st_unask : ST_unask Rel := by
  intro μ ν a1 a2 h
  unfold vs_unask md_unask
  simp only [x_pair h.1 h.2, m_isR h.2, m_isB h.2, mbv_s]
  have hR := (g_R h.2).2
  have hB := (g_B h.2).2
  cases h1 : ix a1 (nR ν)
  · exact ⟨false, μ, ν, rfl, rfl, h⟩
  cases h2 : ix a2 (nB ν)
  · exact ⟨false, μ, ν, rfl, rfl, h⟩
  obtain ⟨r, hr, rfl⟩ := ix_t h1 (by omega)
  obtain ⟨b, hb, rfl⟩ := ix_t h2 (by omega)
  have hb32 : b < 32 := by omega
  simp only [Bool.and_self, ifT]
  unfold vs_Asks_remove
  rw [x_dayOf h.1 h.2 hr hb32, mbv_s, show nI r * (32 : Int32) + nI b = nI (32 * r + b) from ix3 32 r b, show (32 : Int32) * nI r + nI b = nI (32 * r + b) from ix2 32 r b]
  simp only [mwr_nI (show 32 * r + b < 512 by omega) (show 512 < 2 ^ 31 by decide), mrd_nI (show 32 * r + b < 512 by omega) (show 512 < 2 ^ 31 by decide), mst_s]
  by_cases e : ν 20 (32 * r + b) = -1
  · rw [if_pos e, if_pos e, mbm_s]; exact ⟨false, μ, ν, rfl, rfl, h⟩
  · rw [if_neg e, if_neg e, mbm_s]
    refine ⟨true, _, _, rfl, rfl, ?_⟩
    obtain ⟨⟨n, rb, rs, rr, rv, ra, hpv, hhad, hkind, hout, hrd, htold, hput, hlost, hask, hrest⟩, ⟨gn, gb, gsh, gst, grd, gas, grest⟩⟩ := h
    exact ⟨⟨n, rb, rs, rr, rv, ra, hpv, hhad, hkind, hout, hrd, htold, hput, hlost, dAsk_off hask hr hR hb32 e, hrest⟩, ⟨gn, gb, gsh, gst, grd, gAsk_set gas hr hb hB (Or.inl rfl), grest⟩⟩
