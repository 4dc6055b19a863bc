/-! a stop is put elsewhere -/
theorem mset_mset {ν : Mm} {c i : Nat} {a b : Int32} : mset (mset ν c i a) c i b = mset ν c i b := by
  funext q j
  by_cases e : q = c
  · subst e
    by_cases e2 : j = i
    · subst e2; rw [mset_s, mset_s]
    · rw [mset_n e2, mset_n e2, mset_n e2]
  · rw [mset_o e, mset_o e, mset_o e]
theorem absM_in {ν : Mm} {c i : Nat} {v : Int32} (h : pM c i = true) : absM (mset ν c i v) = mset (absM ν) c i v := by
  funext q j
  unfold absM
  by_cases e : q = c
  · subst e
    by_cases e2 : j = i
    · subst e2; rw [mset_s, mset_s, if_pos h]
    · rw [mset_n e2, mset_n e2]
  · rw [mset_o e, mset_o e]
/-- the reference's memory while a stop is being put -/
def pu2 (ν : Mm) (s : Nat) (x y : Int32) : Mm := mset (mset ν 24 s x) 25 s y
theorem pu2_abs {ν w : Mm} {s : Nat} {x y x' y' : Int32} (hs : s < 10) (h : absM w = absM (pu2 ν s x y)) : absM (mset (mset w 24 s x') 25 s y') = absM (pu2 ν s x' y') := by
  unfold pu2 at *
  rw [absM_in rfl, absM_in rfl, h, absM_in rfl, absM_in rfl, absM_in rfl, absM_in rfl, mset_comm (c := 25) (c' := 24) (by decide), mset_mset, mset_mset]
theorem pu2_good {ν : Mm} (g : Good ν) {s : Nat} {x y : Int32} (hx : gO x 199) (hy : x ≠ -1 → gI y 2) : Good (pu2 ν s x y) := by
  obtain ⟨gn, gb, gsh, gst, grest⟩ := g
  refine ⟨gn, gb, gsh, ⟨gst.1, fun t ht => ?_⟩, grest⟩
  have q := gst.2 t ht
  refine ⟨q.1, q.2.1, q.2.2.1, q.2.2.2.1, q.2.2.2.2.1, ?_, ?_⟩
  · show gO (upd (ν 24) s x t) 199
    by_cases e : t = s
    · subst e; rw [upd_s]; exact hx
    · rw [upd_n e]; exact q.2.2.2.2.2.1
  · show upd (ν 24) s x t ≠ -1 → gI (upd (ν 25) s y t) 2
    by_cases e : t = s
    · subst e; rw [upd_s, upd_s]; exact hy
    · rw [upd_n e, upd_n e]; exact q.2.2.2.2.2.2
def agr (ν w : Mm) : Prop := w 10 = ν 10 ∧ w 11 = ν 11 ∧ w 12 = ν 12 ∧ w 13 = ν 13 ∧ w 14 = ν 14 ∧ w 22 = ν 22 ∧ w 23 = ν 23 ∧ w 0 2 = ν 0 2 ∧ w 0 4 = ν 0 4
theorem agr_p {ν w : Mm} {s : Nat} {x y : Int32} (h : absM w = absM (pu2 ν s x y)) : agr ν w := by
  have hc : ∀ c i, absM w c i = absM (pu2 ν s x y) c i := fun c i => by rw [h]
  exact ⟨funext (fun i => hc 10 i), funext (fun i => hc 11 i), funext (fun i => hc 12 i), funext (fun i => hc 13 i), funext (fun i => hc 14 i), funext (fun i => hc 22 i), funext (fun i => hc 23 i), hc 0 2, hc 0 4⟩
section
variable {ν w : Mm}
theorem agr_S (h : agr ν w) : nS w = nS ν := by unfold nS; rw [h.2.2.2.2.2.2.2.1]
theorem agr_v (h : agr ν w) (v s d : Nat) : visB w v s d = visB ν v s d := by
  unfold visB
  rw [h.2.2.2.1, h.2.2.2.2.1, h.2.2.2.2.2.1, h.2.2.2.2.2.2.1]
theorem agr_g (h : agr ν w) (p : Nat → Bool) (s : Nat) (b : Int32) : grV w p s b = grV ν p s b := by
  have e1 : ∀ p, wyR w p = wyR ν p := fun p => by
    funext a c
    unfold wyR cxN
    rw [agr_S h, h.1, h.2.1]
  have e2 : ∀ p, miV w p = miV ν p := fun p => by unfold miV; rw [agr_S h, e1]
  have e3 : ∀ p, halV w p = halV ν p := fun p => by unfold halV; rw [agr_S h, h.2.2.1]
  unfold grV
  rw [agr_S h, e2, e2, e3, h.2.2.2.2.2.2.2.2]
end
def gwV (ν : Mm) (v d s : Nat) (b : Int32) : Int32 := if ν 22 (200 * v + d) = 0 then grV ν (fun t => visB ν v t d) s b else -1
/-- the best so far: how much, the day, the van -/
def upP (a : Int32 × Int32 × Int32) (g d v : Int32) : Int32 × Int32 × Int32 := if g = -1 then a else if a.1 = -1 then (g, d, v) else if g < a.1 then (g, d, v) else a
def vaF (ν : Mm) (s : Nat) (b : Int32) (d : Nat) (a : Int32 × Int32 × Int32) : Nat → Int32 × Int32 × Int32
  | 0 => a
  | v + 1 => upP (vaF ν s b d a v) (gwV ν v d s b) (nI d) (nI v)
def daF (ν : Mm) (s : Nat) (b : Int32) (d0 : Nat) : Nat → Int32 × Int32 × Int32
  | 0 => (-1, -1, -1)
  | i + 1 => vaF ν s b (d0 + i) (daF ν s b d0 i) 3
/-- a best that makes sense -/
def paOK (a : Int32 × Int32 × Int32) : Prop := (a.1 = -1 ∧ a.2.1 = -1 ∧ a.2.2 = -1) ∨ (a.1 ≠ -1 ∧ (∃ d, d < 200 ∧ a.2.1 = nI d) ∧ ∃ v, v < 3 ∧ a.2.2 = nI v)
theorem upP_ok {a : Int32 × Int32 × Int32} {g : Int32} {d v : Nat} (h : paOK a) (hd : d < 200) (hv : v < 3) : paOK (upP a g (nI d) (nI v)) := by
  unfold upP
  by_cases c1 : g = -1
  · rw [if_pos c1]; exact h
  · rw [if_neg c1]
    have n : paOK (g, nI d, nI v) := Or.inr ⟨c1, ⟨d, hd, rfl⟩, v, hv, rfl⟩
    by_cases c2 : a.1 = -1
    · rw [if_pos c2]; exact n
    · rw [if_neg c2]
      by_cases c3 : g < a.1
      · rw [if_pos c3]; exact n
      · rw [if_neg c3]; exact h
theorem vaF_ok {ν : Mm} {s d : Nat} {b : Int32} {a : Int32 × Int32 × Int32} (h : paOK a) (hd : d < 200) : ∀ v, v ≤ 3 → paOK (vaF ν s b d a v)
  | 0, _ => h
  | v + 1, hv => upP_ok (vaF_ok h hd v (by omega)) hd (by omega)
theorem daF_ok {ν : Mm} {s d0 : Nat} {b : Int32} : ∀ i, d0 + i ≤ 200 → paOK (daF ν s b d0 i)
  | 0, _ => Or.inl ⟨rfl, rfl, rfl⟩
  | i + 1, hi => vaF_ok (daF_ok i (by omega)) (by omega) 3 (Nat.le_refl _)
theorem x_vaF {μ ν : Mm} (h : Rel μ ν) {s d : Nat} (hs : s < nS ν) (hd : d < 200) (a3 b : Int32) (a : Int32 × Int32 × Int32) : ∃ u, vs_putElsewhere_l21 μ (nI s) a3 b (nI d) a.1 a.2.1 a.2.2 0 = some ((vaF ν s b d a 3).1, (vaF ν s b d a 3).2.1, (vaF ν s b d a 3).2.2, u) ∧ absX u = absX μ := by
  unfold vs_putElsewhere_l21
  obtain ⟨e, h1, u, h2, h3⟩ := miter_cnt (f := fun q : Int32 × Int32 × Int32 × Int32 × Mm => vs_putElsewhere_b21 q.2.2.2.2 (nI s) a3 b (nI d) q.1 q.2.1 q.2.2.1 q.2.2.2.1) (fun i (u : Mm) => ((vaF ν s b d a i).1, (vaF ν s b d a i).2.1, (vaF ν s b d a i).2.2, nI i, u)) 3 (fun _ u => absX u = absX μ) (fun e => ∃ u, e = ((vaF ν s b d a 3).1, (vaF ν s b d a 3).2.1, (vaF ν s b d a 3).2.2, u) ∧ absX u = absX μ) (fun i u hi hI => by
      left
      have hu : Rel u ν := Rel_abs hI rfl h
      have j66 : ∀ u', vs_putElsewhere_j66 u' (nI s) a3 b (vaF ν s b d a i).1 (vaF ν s b d a i).2.1 (vaF ν s b d a i).2.2 (nI d) (nI i) (gwV ν i d s b) = some (.inl ((vaF ν s b d a (i + 1)).1, (vaF ν s b d a (i + 1)).2.1, (vaF ν s b d a (i + 1)).2.2, nI (i + 1), u')) := by
        intro u'
        show _ = some (Sum.inl ((upP (vaF ν s b d a i) (gwV ν i d s b) (nI d) (nI i)).1, (upP (vaF ν s b d a i) (gwV ν i d s b) (nI d) (nI i)).2.1, (upP (vaF ν s b d a i) (gwV ν i d s b) (nI d) (nI i)).2.2, nI (i + 1), u'))
        unfold vs_putElsewhere_j66 upP
        rw [nI_1]
        by_cases c1 : gwV ν i d s b = -1
        · rw [if_pos c1, if_pos c1]
        · rw [if_neg c1, if_neg c1]
          by_cases c2 : (vaF ν s b d a i).1 = -1
          · rw [if_pos c2, if_pos c2]
          · rw [if_neg c2, if_neg c2]
            by_cases c3 : gwV ν i d s b < (vaF ν s b d a i).1
            · rw [if_pos c3, if_neg (i32_nle.mpr c3)]
            · rw [if_neg c3, if_pos (i32_nlt.mp c3)]
      have goal : ∃ u', vs_putElsewhere_b21 u (nI s) a3 b (nI d) (vaF ν s b d a i).1 (vaF ν s b d a i).2.1 (vaF ν s b d a i).2.2 (nI i) = some (.inl ((vaF ν s b d a (i + 1)).1, (vaF ν s b d a (i + 1)).2.1, (vaF ν s b d a (i + 1)).2.2, nI (i + 1), u')) ∧ absX u' = absX μ := by
        unfold vs_putElsewhere_b21
        rw [if_neg (by exact nI_ge (b := 3) hi (by decide)), x_isLost hu.1 hi hd, mbv_s]
        by_cases c : ν 22 (200 * i + d) = 0
        · obtain ⟨x, x1, x2⟩ := x_stopsOn hu.1 hu.2 hi hd
          obtain ⟨u', v1, v2⟩ := x_growth hu x2 hs b
          rw [ifb_f (by simp [c]), x1, mbv_s, v1, mbm_s]
          have e : grV ν (fun t => visB ν i t d) s b = gwV ν i d s b := by unfold gwV; rw [if_pos c]
          rw [show grV ν (fun s => visB ν i s d) s b = gwV ν i d s b from e, j66]
          exact ⟨u', rfl, v2.trans hI⟩
        · have e : (-1 : Int32) = gwV ν i d s b := by unfold gwV; rw [if_neg c]
          rw [ifb_t (by simp [c]), e, j66]
          exact ⟨u, rfl, hI⟩
      exact goal) (fun u hI => ⟨_, rfl, u, rfl, hI⟩) FU 0 μ (by omega) (by unfold FU; omega) rfl
  exact ⟨u, by rw [← h2]; exact h1, h3⟩
theorem m_vaF {ν w : Mm} (g : Good ν) {s d : Nat} (hs : s < nS ν) (hd : d < 200) (a2 a3 b : Int32) (a : Int32 × Int32 × Int32) (ha : paOK a) (y : Int32) (hy : a.1 ≠ -1 → y = a.2.2) (hw : absM w = absM (pu2 ν s a.2.1 y)) : ∃ w' y', md_putsStop_l34 w (nI s) a2 a3 b (nI d) a.1 0 = some ((vaF ν s b d a 3).1, w') ∧ ((vaF ν s b d a 3).1 ≠ -1 → y' = (vaF ν s b d a 3).2.2) ∧ absM w' = absM (pu2 ν s (vaF ν s b d a 3).2.1 y') := by
  have hS := g_S g
  unfold md_putsStop_l34
  obtain ⟨e, h1, w', y', h2, h3, h4⟩ := miter_cnt (f := fun q : Int32 × Int32 × Mm => md_putsStop_b34 q.2.2 (nI s) a2 a3 b (nI d) q.1 q.2.1) (fun i (u : Mm) => ((vaF ν s b d a i).1, nI i, u)) 3 (fun i u => ∃ y', ((vaF ν s b d a i).1 ≠ -1 → y' = (vaF ν s b d a i).2.2) ∧ absM u = absM (pu2 ν s (vaF ν s b d a i).2.1 y')) (fun e => ∃ w' y', e = ((vaF ν s b d a 3).1, w') ∧ ((vaF ν s b d a 3).1 ≠ -1 → y' = (vaF ν s b d a 3).2.2) ∧ absM w' = absM (pu2 ν s (vaF ν s b d a 3).2.1 y')) (fun i u hi hI => by
      left
      obtain ⟨y', i1, i2⟩ := hI
      have ok := vaF_ok (ν := ν) (s := s) (b := b) ha hd i (by omega)
      have ag := agr_p i2
      have gu : Good u := Good_abs i2 (pu2_good g (by
        rcases ok with q | q
        · exact Or.inl q.2.1
        · obtain ⟨d', d1, d2⟩ := q.2.1
          exact Or.inr ⟨d', by omega, d2⟩) (fun z => by
        rcases ok with q | q
        · exact absurd q.2.1 z
        · obtain ⟨v', d1, d2⟩ := q.2.2
          rw [i1 q.1, d2]
          exact ⟨v', by omega, rfl⟩))
      obtain ⟨u', v1, v2⟩ := m_growsBy gu hi hd (s := s) (by rw [agr_S ag]; exact hs) b
      have eg : (if u 22 (200 * i + d) = 0 then grV u (fun t => visB u i t d) s b else -1) = gwV ν i d s b := by
        unfold gwV
        rw [ag.2.2.2.2.2.1, agr_g ag, show (fun t => visB u i t d) = (fun t => visB ν i t d) from funext (fun t => agr_v ag i t d)]
      rw [eg] at v1
      have i2' : absM u' = absM (pu2 ν s (vaF ν s b d a i).2.1 y') := (FLm_abs v2).trans i2
      have new : absM (mset (mset u' 24 s (nI d)) 25 s (nI i)) = absM (pu2 ν s (nI d) (nI i)) := pu2_abs (by omega) i2'
      have goal : ∃ u2, md_putsStop_b34 u (nI s) a2 a3 b (nI d) (vaF ν s b d a i).1 (nI i) = some (.inl ((vaF ν s b d a (i + 1)).1, nI (i + 1), u2)) ∧ ∃ y', ((vaF ν s b d a (i + 1)).1 ≠ -1 → y' = (vaF ν s b d a (i + 1)).2.2) ∧ absM u2 = absM (pu2 ν s (vaF ν s b d a (i + 1)).2.1 y') := by
        show ∃ u2, _ = some (Sum.inl ((upP (vaF ν s b d a i) (gwV ν i d s b) (nI d) (nI i)).1, nI (i + 1), u2)) ∧ ∃ y', ((upP (vaF ν s b d a i) (gwV ν i d s b) (nI d) (nI i)).1 ≠ -1 → y' = (upP (vaF ν s b d a i) (gwV ν i d s b) (nI d) (nI i)).2.2) ∧ absM u2 = absM (pu2 ν s (upP (vaF ν s b d a i) (gwV ν i d s b) (nI d) (nI i)).2.1 y')
        unfold md_putsStop_b34 upP
        have hs10 : s < 10 := by omega
        simp only [mwr_nI hs10 (show 10 < 2 ^ 31 by decide)]
        rw [if_neg (by exact nI_ge (b := 3) hi (by decide)), v1, mbm_s, nI_1]
        by_cases c1 : gwV ν i d s b = -1
        · rw [if_pos c1, if_pos c1]
          exact ⟨u', rfl, y', i1, i2'⟩
        · rw [if_neg c1, if_neg c1]
          by_cases c2 : (vaF ν s b d a i).1 = -1
          · rw [if_pos c2, if_pos c2]
            exact ⟨_, rfl, nI i, fun _ => rfl, new⟩
          · rw [if_neg c2, if_neg c2]
            by_cases c3 : gwV ν i d s b < (vaF ν s b d a i).1
            · rw [if_pos c3, if_pos c3]
              exact ⟨_, rfl, nI i, fun _ => rfl, new⟩
            · rw [if_neg c3, if_neg c3]
              exact ⟨u', rfl, y', i1, i2'⟩
      exact goal) (fun u hI => by
      obtain ⟨y', i1, i2⟩ := hI
      exact ⟨_, rfl, u, y', rfl, i1, i2⟩) FU 0 w (by omega) (by unfold FU; omega) ⟨y, hy, hw⟩
  exact ⟨w', y', by rw [← h2]; exact h1, h3, h4⟩
