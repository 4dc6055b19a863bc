theorem one_shl_ne : True := trivial
theorem x_remember (μ : Mm) {r b : Nat} (hr : r < 16) (hb : b < 32) : vs_remember μ (nI r) (nI b) = some (mset (mset μ 23 b (μ 23 b ||| ((1 : Int32) <<< (nI r &&& 31)))) 28 r (μ 28 r ||| ((1 : Int32) <<< (nI b &&& 31)))) := by
  unfold vs_remember
  rw [mrd_nI hb (by decide), mwr_nI hb (by decide), mrd_nI hr (by decide), mwr_nI hr (by decide)]
  rfl
theorem dHad_set {hb hk hh : Nat → Int32} (h : dHad hb hk hh) {r b : Nat} (hr : r < 16) (hb32 : b < 32) : dHad (upd hb b (hb b ||| ((1 : Int32) <<< (nI r &&& 31)))) (upd hk r (hk r ||| ((1 : Int32) <<< (nI b &&& 31)))) (upd hh (32 * r + b) 1) := by
  refine ⟨fun b' hb' r' hr' => ?_, fun r' hr' b' hb' => ?_⟩
  · have hz := h.1 b' hb' r' hr'
    by_cases e : b' = b
    · subst e
      rw [upd_s, tb_set _ (by omega) hr', hz]
      by_cases e2 : r' = r
      · subst e2; rw [upd_s]; simp [hr]
      · rw [upd_n (by omega)]; simp [e2]
    · rw [upd_n e, hz, upd_n (by omega)]
  · have hz := h.2 r' hr' b' hb'
    by_cases e : r' = r
    · subst e
      rw [upd_s, tb_set _ (by omega) hb', hz]
      by_cases e2 : b' = b
      · subst e2; rw [upd_s]; simp
      · rw [upd_n (by omega)]; simp [e2]
    · rw [upd_n e, hz, upd_n (by omega)]
theorem gHad_set {R B : Nat} {hh : Nat → Int32} (h : gHad R B hh) {r b : Nat} (hr : r < R) (hb : b < B) (hb32 : B ≤ 32) : gHad R B (upd hh (32 * r + b) 1) := by
  intro r' hr' b' hb'
  by_cases e : 32 * r' + b' = 32 * r + b
  · have e1 : r' = r := by omega
    have e2 : b' = b := by omega
    subst e1; subst e2
    rw [upd_s]
    exact ⟨Or.inr rfl, fun h => by omega⟩
  · rw [upd_n e]; exact h r' hr' b' hb'
theorem x_wasHad {μ ν : Mm} (h : RX μ ν) {r b : Nat} (hr : r < 16) (hb : b < 32) : vs_Books_wasHad μ (nI b) (nI r) = some (decide (ν 21 (32 * r + b) ≠ 0)) := by
  unfold vs_Books_wasHad
  rw [mrd_nI hb (by decide), hasBit_eq _ (by omega), mbv_s]
  rw [h.2.2.2.2.2.2.2.1.1 b hb r (by omega)]
  simp [hr]
theorem nar1 : vp_nar .boolean 1 = 1 := rfl
theorem nar0 : vp_nar .boolean 0 = 0 := rfl
theorem st_had : ST_had Rel := by
  intro μ ν a1 a2 h
  unfold vs_had md_had
  simp only [x_pair h.1 h.2, m_isR h.2, m_isB h.2, mbv_s]
  have hR := (g_R h.2).2
  have hB := (g_B h.2).2
  cases h1 : ix a1 (nR ν)
  · exact ⟨false, μ, ν, rfl, rfl, h⟩
  cases h2 : ix a2 (nB ν)
  · exact ⟨false, μ, ν, rfl, rfl, h⟩
  obtain ⟨r, hr, rfl⟩ := ix_t h1 (by omega)
  obtain ⟨b, hb, rfl⟩ := ix_t h2 (by omega)
  simp only [Bool.and_self, ifT]
  rw [x_wasHad h.1 (by omega) (by omega), mbv_s]
  have e : mrd ν 21 512 (32 * nI r + nI b) (fun x5 => if x5 = 0 then mwr ν 21 512 (32 * nI r + nI b) (vp_nar .boolean 1) fun μ7 => some (true, μ7) else some (false, ν)) = if ν 21 (32 * r + b) = 0 then some (true, mset ν 21 (32 * r + b) 1) else some (false, ν) := by
    refine (mrd_at (ix2 32 r b) (by omega) (by decide)).trans ?_
    split
    · exact mwr_at (ix2 32 r b) (by omega) (by decide)
    · rfl
  rw [e]
  by_cases hz : ν 21 (32 * r + b) = 0
  · rw [if_pos hz]
    simp only [hz, ne_eq, not_true, decide_false, ifF]
    rw [x_remember μ (by omega) (by omega), mbv_s]
    refine ⟨true, _, _, rfl, rfl, ?_⟩
    obtain ⟨⟨n, rb, rs, rr, rv, ra, hpv, hhad, hrest⟩, ⟨gn, gb, gsh, gst, grd, gas, gha, grest⟩⟩ := h
    exact ⟨⟨n, rb, rs, rr, rv, ra, hpv, dHad_set hhad (by omega) (by omega), hrest⟩, ⟨gn, gb, gsh, gst, grd, gas, gHad_set gha hr hb hB, grest⟩⟩
  · rw [if_neg hz]
    simp only [hz, ne_eq, not_false_eq_true, decide_true, ifT]
    exact ⟨false, μ, ν, rfl, rfl, h⟩
/-- the told visits without one stop -/
def dT0 (S s0 : Nat) (to vv vd : Nat → Int32) : Prop := ∀ v, v < 3 → ∀ d, d < 14 → ∀ s, s < 32 → tb (to (14 * v + d)) s = (decide (s < S) && decide (s ≠ s0) && decide (vv s = nI v) && decide (vd s = nI d))
theorem told_none {S s0 : Nat} {to vv vd : Nat → Int32} (h : dTold S to vv vd) (hv : vv s0 = -1) : dT0 S s0 to vv vd := by
  intro v hv' d hd s hs
  rw [h v hv' d hd s hs]
  by_cases e : s = s0
  · subst e
    have : ¬ ((-1 : Int32) = nI v) := fun q => nI_v (v := v) (by omega) q.symm
    simp [hv, this]
  · simp [e]
theorem told_clr {S s0 v1 d1 : Nat} {to vv vd : Nat → Int32} (h : dTold S to vv vd) (hv1 : v1 < 3) (hd1 : d1 < 14) (hs0 : s0 < 32) (hv : vv s0 = nI v1) (hd : vd s0 = nI d1) : dT0 S s0 (upd to (14 * v1 + d1) (to (14 * v1 + d1) &&& (((1 : Int32) <<< (nI s0 &&& 31)) ^^^ (-1)))) vv vd := by
  intro v hv' d hd' s hs
  by_cases ei : 14 * v + d = 14 * v1 + d1
  · have e1 : v = v1 := by omega
    have e2 : d = d1 := by omega
    subst e1; subst e2
    rw [upd_s, tb_clr _ hs0 hs, h v hv' d hd' s hs]
    by_cases e : s = s0 <;> simp [e]
  · rw [upd_n ei, h v hv' d hd' s hs]
    by_cases e : s = s0
    · subst e
      rw [hv, hd]
      by_cases e1 : v = v1
      · have : ¬ (nI d1 = nI d) := nI_ne (by omega) (by omega) (by omega)
        simp [this]
      · have : ¬ (nI v1 = nI v) := nI_ne (by omega) (by omega) (fun q => e1 q.symm)
        simp [this]
    · simp [e]
theorem told_off {S s0 : Nat} {to vv vd : Nat → Int32} (d0 : Int32) (h : dT0 S s0 to vv vd) : dTold S to (upd vv s0 (-1)) (upd vd s0 d0) := by
  intro v hv d hd s hs
  rw [h v hv d hd s hs]
  by_cases e : s = s0
  · subst e
    rw [upd_s]
    have : ¬ ((-1 : Int32) = nI v) := fun q => nI_v (v := v) (by omega) q.symm
    simp [this]
  · rw [upd_n e, upd_n e]; simp [e]
theorem told_on {S s0 v1 d1 : Nat} {to vv vd : Nat → Int32} (h : dT0 S s0 to vv vd) (hv1 : v1 < 3) (hd1 : d1 < 14) (hs : s0 < S) (hs0 : s0 < 32) : dTold S (upd to (14 * v1 + d1) (to (14 * v1 + d1) ||| ((1 : Int32) <<< (nI s0 &&& 31)))) (upd vv s0 (nI v1)) (upd vd s0 (nI d1)) := by
  intro v hv' d hd' s hs'
  by_cases ei : 14 * v + d = 14 * v1 + d1
  · have e1 : v = v1 := by omega
    have e2 : d = d1 := by omega
    subst e1; subst e2
    rw [upd_s, tb_set _ hs0 hs', h v hv' d hd' s hs']
    by_cases e : s = s0
    · subst e; rw [upd_s, upd_s]; simp [hs]
    · rw [upd_n e, upd_n e]; simp [e]
  · rw [upd_n ei, h v hv' d hd' s hs']
    by_cases e : s = s0
    · subst e
      rw [upd_s, upd_s]
      by_cases e1 : v = v1
      · have : ¬ (nI d1 = nI d) := nI_ne (by omega) (by omega) (by omega)
        simp [this]
      · have : ¬ (nI v1 = nI v) := nI_ne (by omega) (by omega) (fun q => e1 q.symm)
        simp [this]
    · rw [upd_n e, upd_n e]; simp [e]
