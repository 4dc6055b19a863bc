/-! rings: the reference -/
def mrp (μ : Mm) (c : Nat) (f : Nat → Int32) : Mm := fun q => if q = c then f else μ q
theorem mrp_s {μ : Mm} {c : Nat} {f : Nat → Int32} : mrp μ c f c = f := if_pos rfl
theorem mrp_o {μ : Mm} {c q : Nat} {f : Nat → Int32} (h : q ≠ c) : mrp μ c f q = μ q := if_neg h
theorem mset_mrp {μ : Mm} {c i : Nat} {f : Nat → Int32} {v : Int32} : mset (mrp μ c f) c i v = mrp μ c (upd f i v) := by
  funext q
  by_cases e : q = c
  · subst e
    rw [mrp_s]
    show (if q = q then upd (mrp μ q f q) i v else _) = _
    rw [if_pos rfl, mrp_s]
  · rw [mset_o e, mrp_o e, mrp_o e]
theorem mset_is {μ : Mm} {c i : Nat} {v : Int32} : mset μ c i v = mrp μ c (upd (μ c) i v) := by
  funext q
  by_cases e : q = c
  · subst e
    rw [mrp_s]
    exact if_pos rfl
  · rw [mset_o e, mrp_o e]
theorem mrp_self {μ : Mm} {c : Nat} : mrp μ c (μ c) = μ := by
  funext q
  by_cases e : q = c
  · subst e; exact mrp_s
  · exact mrp_o e
theorem absM_mrp {ν : Mm} {c : Nat} {f : Nat → Int32} (h : ∀ i, pM c i = false) : absM (mrp ν c f) = absM ν := by
  funext q i
  unfold absM
  by_cases e : q = c
  · subst e; simp [h]
  · rw [mrp_o e]
theorem absX_mrp {ν : Mm} {c : Nat} {f : Nat → Int32} (h : ∀ i, pX c i = false) : absX (mrp ν c f) = absX ν := by
  funext q i
  unfold absX
  by_cases e : q = c
  · subst e; simp [h]
  · rw [mrp_o e]
theorem lf_eq {p : Nat → Bool} {m i k : Nat} (h1 : i ≤ k) (h2 : k < i + m) (h3 : p k = true) (h4 : ∀ j, i ≤ j → j < k → p j = false) : lf p m i = some k := by
  cases q : lf p m i with
  | none => rw [lf_none q k h1 h2] at h3; cases h3
  | some k' =>
    obtain ⟨a1, a2, a3, a4⟩ := lf_some q
    rcases Nat.lt_trichotomy k' k with c | c | c
    · rw [h4 k' a1 c] at a3; cases a3
    · rw [c]
    · rw [a4 k h1 c] at h3; cases h3
theorem lf_no {p : Nat → Bool} {m i : Nat} (h : ∀ j, i ≤ j → j < i + m → p j = false) : lf p m i = none := by
  cases q : lf p m i with
  | none => rfl
  | some k =>
    obtain ⟨a1, a2, a3, a4⟩ := lf_some q
    rw [h k a1 a2] at a3
    cases a3
def askP (ν : Mm) (r q b : Nat) : Bool := !decide (ν 20 (32 * r + b) = -1) && decide (ν 5 b = nI (10 + q))
def askW (ν : Mm) (r q : Nat) : Bool := (lf (askP ν r q) (nB ν) 0).isSome
theorem m_asksFrom {ν : Mm} (g : Good ν) {r q : Nat} (hr : r < 16) : md_asksFrom ν (nI r) (nI q) = some (askW ν r q) := by
  have hB := g_B g
  unfold md_asksFrom md_asksFrom_l2
  have key := find_loop (f := fun x => md_asksFrom_b2 ν (nI r) (nI q) x) (p := askP ν r q) 0 (nB ν) (fun _ => .inl ()) (.inr ()) (fun i _ hi => by
    show md_asksFrom_b2 ν (nI r) (nI q) (nI i) = _
    unfold md_asksFrom_b2 askP
    rw [hB.1, if_neg (nI_ge hi (by omega)), nI_1, mrd_nI (by omega) (by decide), show (10 : Int32) + nI q = nI (10 + q) from nI_add 10 q]
    refine (mrd_at (ix2 32 r i) (by omega) (by decide)).trans ?_
    by_cases c : ν 20 (32 * r + i) = -1
    · rw [if_pos c, if_neg (by simp [c])]
    · rw [if_neg c]
      by_cases c2 : ν 5 i = nI (10 + q)
      · rw [if_pos c2, if_pos (by simp [c, c2])]
      · rw [if_neg c2, if_neg (by simp [c2])]) (by
    show md_asksFrom_b2 ν (nI r) (nI q) (nI (nB ν)) = _
    unfold md_asksFrom_b2
    rw [hB.1, if_pos (nI_le (Nat.le_refl _) (by omega))]) (nB ν) 0 FU (Nat.le_refl _) (by omega) (by unfold FU; omega)
  rw [show (0 : Int32) = nI 0 from rfl, key]
  unfold askW
  cases lf (askP ν r q) (nB ν) 0 <;> rfl
section
variable {ν : Mm}
theorem g48 (g : Good ν) (F : Nat → Int32) : Good (mrp ν 48 F) := Good_abs (absM_mrp (fun _ => rfl)) g
theorem m_rlx (g : Good ν) {F : Nat → Int32} {r q : Nat} (a1 a2 : Int32) (hr : r < 16) (hq : q < nR ν) : md_measures_b51 (mrp ν 48 F) a1 a2 (nI r) (nI q) = some (.inl (nI (q + 1), mrp ν 48 (rlx (askW ν) r q F))) := by
  have hR := g_R g
  unfold md_measures_b51 rlx
  rw [show mrp ν 48 F 0 3 = nI (nR ν) from hR.1, if_neg (nI_ge hq (by omega)), mrd_nI (by omega) (by decide), mrp_s, nI_1]
  by_cases c1 : F q = -1
  · rw [if_pos c1, if_pos c1]
  rw [if_neg c1, if_neg c1]
  by_cases c2 : q = r
  · rw [if_pos (by rw [c2]), if_pos c2]
  rw [if_neg (nI_ne (by omega) (by omega) c2), if_neg c2, m_asksFrom (g48 g F) hr, mbv_s, show askW (mrp ν 48 F) r q = askW ν r q from rfl]
  by_cases c3 : askW ν r q = true
  · rw [ifb_t c3, if_pos c3]
    simp only [mrd_nI hr (show 16 < 2 ^ 31 by decide), mrd_nI (show q < 16 by omega) (show 16 < 2 ^ 31 by decide), mwr_nI hr (show 16 < 2 ^ 31 by decide), mset_mrp, mrp_s]
    by_cases c4 : F r = -1
    · rw [if_pos c4, if_pos c4]
    · rw [if_neg c4, if_neg c4]
      by_cases c5 : F r ≤ F q + 1
      · rw [if_pos c5, if_pos c5]
      · rw [if_neg c5, if_neg c5]
  · rw [ifb_f c3, if_neg c3]
theorem m_meas (g : Good ν) {s : Nat} (hs : s < nR ν) : md_measures ν (nI s) = some (mrp ν 48 (rof (askW ν) s (nR ν) 16 (upd (fun i => if i < 16 then -1 else ν 48 i) s 0))) := by
  have hR := g_R g
  have l51 : ∀ (a2 : Int32) (r : Nat) (f : Nat → Int32), r < 16 → md_measures_l51 (mrp ν 48 f) (nI s) a2 (nI r) (nI s) = some (mrp ν 48 (rqf (askW ν) s r (nR ν - s) f)) := by
    intro a2 r f hr
    unfold md_measures_l51
    exact seq_loop (f := fun q : Int32 × Mm => md_measures_b51 q.2 (nI s) a2 (nI r) q.1) (fun i => (nI (s + i), mrp ν 48 (rqf (askW ν) s r i f))) (nR ν - s) _ (fun i hi => m_rlx g _ _ hr (by omega)) (by
      show md_measures_b51 (mrp ν 48 (rqf (askW ν) s r (nR ν - s) f)) (nI s) a2 (nI r) (nI (s + (nR ν - s))) = _
      unfold md_measures_b51
      rw [show mrp ν 48 (rqf (askW ν) s r (nR ν - s) f) 0 3 = nI (nR ν) from hR.1, if_pos (nI_le (by omega) (by omega))]) (nR ν - s) 0 FU (by omega) (by unfold FU; omega)
  have l40 : ∀ (a2 : Int32) (f : Nat → Int32), md_measures_l40 (mrp ν 48 f) (nI s) a2 (nI s + 1) = some (mrp ν 48 (rrf (askW ν) s (nR ν) (nR ν - (s + 1)) f)) := by
    intro a2 f
    unfold md_measures_l40
    rw [nI_1]
    exact seq_loop (f := fun q : Int32 × Mm => md_measures_b40 q.2 (nI s) a2 q.1) (fun i => (nI (s + 1 + i), mrp ν 48 (rrf (askW ν) s (nR ν) i f))) (nR ν - (s + 1)) _ (fun i hi => by
      show md_measures_b40 (mrp ν 48 (rrf (askW ν) s (nR ν) i f)) (nI s) a2 (nI (s + 1 + i)) = _
      unfold md_measures_b40
      rw [show mrp ν 48 (rrf (askW ν) s (nR ν) i f) 0 3 = nI (nR ν) from hR.1, if_neg (nI_ge (by omega) (by omega)), l51 a2 (s + 1 + i) _ (by omega), mbv_s, nI_1]
      rfl) (by
      show md_measures_b40 (mrp ν 48 (rrf (askW ν) s (nR ν) (nR ν - (s + 1)) f)) (nI s) a2 (nI (s + 1 + (nR ν - (s + 1)))) = _
      unfold md_measures_b40
      rw [show mrp ν 48 (rrf (askW ν) s (nR ν) (nR ν - (s + 1)) f) 0 3 = nI (nR ν) from hR.1, if_pos (nI_le (by omega) (by omega))]) (nR ν - (s + 1)) 0 FU (by omega) (by unfold FU; omega)
  have l30 : ∀ (f : Nat → Int32), md_measures_l30 (mrp ν 48 f) (nI s) 0 = some (mrp ν 48 (rof (askW ν) s (nR ν) 16 f)) := by
    intro f
    unfold md_measures_l30
    exact seq_loop (f := fun q : Int32 × Mm => md_measures_b30 q.2 (nI s) q.1) (fun i => (nI i, mrp ν 48 (rof (askW ν) s (nR ν) i f))) 16 _ (fun i hi => by
      show md_measures_b30 (mrp ν 48 (rof (askW ν) s (nR ν) i f)) (nI s) (nI i) = _
      unfold md_measures_b30
      rw [if_neg (by exact nI_ge (b := 16) hi (by decide)), l40, mbv_s, nI_1]
      rfl) rfl 16 0 FU (by omega) (by unfold FU; omega)
  have l2 : md_measures_l2 ν (nI s) 0 = some (mrp ν 48 (fun j => if j < 16 then -1 else ν 48 j)) := by
    unfold md_measures_l2
    have key := seq_loop (f := fun q : Int32 × Mm => md_measures_b2 q.2 (nI s) q.1) (fun i => (nI i, mrp ν 48 (fun j => if j < i then -1 else ν 48 j))) 16 _ (fun i hi => by
      show md_measures_b2 (mrp ν 48 (fun j => if j < i then -1 else ν 48 j)) (nI s) (nI i) = _
      unfold md_measures_b2
      rw [if_neg (by exact nI_ge (b := 16) hi (by decide)), mwr_nI hi (by decide), mset_mrp, nI_1]
      congr 3
      congr 1
      funext j
      by_cases e : j = i
      · subst e; rw [upd_s, if_pos (by omega)]
      · rw [upd_n e]
        by_cases c : j < i
        · rw [if_pos c, if_pos (by omega)]
        · rw [if_neg c, if_neg (by omega)]) rfl 16 0 FU (by omega) (by unfold FU; omega)
    have e0 : mrp ν 48 (fun j => if j < 0 then -1 else ν 48 j) = ν := by
      have : (fun j => if j < 0 then (-1 : Int32) else ν 48 j) = ν 48 := by funext j; exact if_neg (Nat.not_lt_zero j)
      rw [this, mrp_self]
    have key' : miter (fun q : Int32 × Mm => md_measures_b2 q.2 (nI s) q.1) FU (0, mrp ν 48 (fun j => if j < 0 then -1 else ν 48 j)) = some (mrp ν 48 (fun j => if j < 16 then -1 else ν 48 j)) := key
    rw [e0] at key'
    exact key'
  unfold md_measures
  rw [l2, mbv_s, mwr_nI (by omega) (by decide), mset_mrp, l30, mbv_s]
end
def hitB (W : Nat → Nat → Bool) (s R k : Nat) : Bool := (lf (fun r => W s r && dk W s R k r) R 0).isSome
def lstO (W : Nat → Nat → Bool) (s R : Nat) : Option Nat := lf (hitB W s R) (R - 1) 1
theorem hit_iff {W : Nat → Nat → Bool} {s R k : Nat} : hitB W s R k = true ↔ ∃ r, r < R ∧ W s r = true ∧ dk W s R k r = true := by
  unfold hitB
  rw [lf_is]
  constructor
  · rintro ⟨j, _, h1, h2⟩
    rw [Bool.and_eq_true] at h2
    exact ⟨j, by omega, h2.1, h2.2⟩
  · rintro ⟨j, h1, h2, h3⟩
    exact ⟨j, Nat.zero_le _, by omega, by rw [Bool.and_eq_true]; exact ⟨h2, h3⟩⟩
def lstI (W : Nat → Nat → Bool) (s R : Nat) : Int32 := match lstO W s R with
  | some k => nI (k + 1)
  | none => -1
def dOK (W : Nat → Nat → Bool) (s R : Nat) (F : Nat → Int32) : Prop := ∀ a, a < R → (∀ k, dk W s R k a = true → F a = nI k) ∧ ((∀ k, dk W s R k a = false) → F a = -1)
theorem m_least {ν : Mm} (g : Good ν) {s : Nat} (hs : s < nR ν) (hF : dOK (askW ν) s (nR ν) (ν 48)) : md_ringFrom_l11 ν (nI s) (-1) (nI (s + 1)) = some (lstI (askW ν) s (nR ν)) := by
  have hR := g_R g
  unfold md_ringFrom_l11
  obtain ⟨e, h1, h2⟩ := miter_cnt (f := fun q : Int32 × Int32 => md_ringFrom_b11 ν (nI s) q.1 q.2) (fun i (a : Int32) => (a, nI i)) (nR ν) (fun i a => s < i ∧ ((a = -1 ∧ ∀ r k, r < i → s < r → askW ν s r = true → dk (askW ν) s (nR ν) k r = false) ∨ ∃ k r, a = nI (k + 1) ∧ k < nR ν ∧ r < i ∧ s < r ∧ askW ν s r = true ∧ dk (askW ν) s (nR ν) k r = true ∧ ∀ r' k', r' < i → s < r' → askW ν s r' = true → dk (askW ν) s (nR ν) k' r' = true → k ≤ k')) (fun e => e = lstI (askW ν) s (nR ν)) (fun i a hi hI => by
      left
      obtain ⟨hsi, hI⟩ := hI
      have hb : md_ringFrom_b11 ν (nI s) a (nI i) = if ν 48 i = -1 then some (.inl (a, nI (i + 1))) else if askW ν s i = true then (if a = -1 then some (.inl (ν 48 i + 1, nI (i + 1))) else if a ≤ ν 48 i + 1 then some (.inl (a, nI (i + 1))) else some (.inl (ν 48 i + 1, nI (i + 1)))) else some (.inl (a, nI (i + 1))) := by
        unfold md_ringFrom_b11
        rw [hR.1, if_neg (nI_ge hi (by omega)), mrd_nI (show i < 16 by omega) (by decide), m_asksFrom g (by omega), mbv_s, nI_1]
        by_cases c : askW ν s i = true
        · rw [ifb_t c, if_pos c]
          simp only [mrd_nI (show i < 16 by omega) (show 16 < 2 ^ 31 by decide)]
        · rw [ifb_f c, if_neg c]
      have none_case : (∀ k, askW ν s i = true → dk (askW ν) s (nR ν) k i = false) → (s < i + 1 ∧ ((a = -1 ∧ ∀ r k, r < i + 1 → s < r → askW ν s r = true → dk (askW ν) s (nR ν) k r = false) ∨ ∃ k r, a = nI (k + 1) ∧ k < nR ν ∧ r < i + 1 ∧ s < r ∧ askW ν s r = true ∧ dk (askW ν) s (nR ν) k r = true ∧ ∀ r' k', r' < i + 1 → s < r' → askW ν s r' = true → dk (askW ν) s (nR ν) k' r' = true → k ≤ k')) := by
        intro hn
        refine ⟨by omega, ?_⟩
        rcases hI with ⟨q1, q2⟩ | ⟨k, r, q1, q0, q2, q3, q4, q5, q6⟩
        · refine Or.inl ⟨q1, fun r k z1 z2 z3 => ?_⟩
          by_cases e : r = i
          · subst e; exact hn k z3
          · exact q2 r k (by omega) z2 z3
        · refine Or.inr ⟨k, r, q1, q0, by omega, q3, q4, q5, fun r' k' z1 z2 z3 z4 => ?_⟩
          by_cases e : r' = i
          · subst e; rw [hn k' z3] at z4; cases z4
          · exact q6 r' k' (by omega) z2 z3 z4
      by_cases c1 : ∃ k, dk (askW ν) s (nR ν) k i = true
      · obtain ⟨k, hk⟩ := c1
        have hk16 := dk_lt hs hk
        have fk := (hF i hi).1 k hk
        rw [fk, if_neg (nI_m1 (by omega)), nI_1] at hb
        by_cases c2 : askW ν s i = true
        · rw [if_pos c2] at hb
          rcases hI with ⟨q1, q2⟩ | ⟨k0, r0, q1, q0, q2, q3, q4, q5, q6⟩
          · rw [if_pos q1] at hb
            refine ⟨_, hb, by omega, Or.inr ⟨k, i, rfl, hk16, by omega, hsi, c2, hk, fun r' k' z1 z2 z3 z4 => ?_⟩⟩
            by_cases e : r' = i
            · subst e; rw [dk_un hk z4]; exact Nat.le_refl _
            · rw [q2 r' k' (by omega) z2 z3] at z4; cases z4
          · rw [q1, if_neg (nI_m1 (by omega))] at hb
            by_cases c3 : nI (k0 + 1) ≤ nI (k + 1)
            · have c3' := (nI_leI (by omega) (by omega)).mp c3
              rw [if_pos c3] at hb
              refine ⟨_, by rw [q1]; exact hb, by omega, Or.inr ⟨k0, r0, rfl, q0, by omega, q3, q4, q5, fun r' k' z1 z2 z3 z4 => ?_⟩⟩
              by_cases e : r' = i
              · subst e; have := dk_un hk z4; omega
              · exact q6 r' k' (by omega) z2 z3 z4
            · have c3' : ¬ (k0 + 1 ≤ k + 1) := fun z => c3 ((nI_leI (a := k0 + 1) (b := k + 1) (by omega) (by omega)).mpr z)
              rw [if_neg c3] at hb
              refine ⟨_, by rw [q1]; exact hb, by omega, Or.inr ⟨k, i, rfl, hk16, by omega, hsi, c2, hk, fun r' k' z1 z2 z3 z4 => ?_⟩⟩
              by_cases e : r' = i
              · subst e; rw [dk_un hk z4]; exact Nat.le_refl _
              · have := q6 r' k' (by omega) z2 z3 z4; omega
        · rw [if_neg c2] at hb
          exact ⟨a, hb, none_case (fun k z => absurd z c2)⟩
      · have hn : ∀ k, dk (askW ν) s (nR ν) k i = false := fun k => by
          cases q : dk (askW ν) s (nR ν) k i
          · rfl
          · exact absurd ⟨k, q⟩ c1
        rw [if_pos ((hF i hi).2 hn)] at hb
        exact ⟨a, hb, none_case (fun k _ => hn k)⟩) (fun a hI => by
      refine ⟨a, ?_, ?_⟩
      · show md_ringFrom_b11 ν (nI s) a (nI (nR ν)) = _
        unfold md_ringFrom_b11
        rw [hR.1, if_pos (nI_le (Nat.le_refl _) (by omega))]
      · unfold lstI lstO
        rcases hI.2 with ⟨q1, q2⟩ | ⟨k0, r0, q1, q0, q2, q3, q4, q5, q6⟩
        · rw [lf_no (fun j j1 j2 => ?_)]
          · exact q1
          · cases z : hitB (askW ν) s (nR ν) j
            · rfl
            · obtain ⟨r, z1, z2, z3⟩ := hit_iff.mp z
              obtain ⟨j', rfl⟩ : ∃ j', j = j' + 1 := ⟨j - 1, by omega⟩
              rw [q2 r (j' + 1) z1 (dk_rng z3).1 z2] at z3
              cases z3
        · have k1 : 1 ≤ k0 := by
            rcases Nat.eq_zero_or_pos k0 with e | e
            · subst e; have := dk_0.mp q5; omega
            · exact e
          rw [lf_eq (k := k0) k1 (by omega) (hit_iff.mpr ⟨r0, q2, q4, q5⟩) (fun j j1 j2 => ?_)]
          · exact q1
          · cases z : hitB (askW ν) s (nR ν) j
            · rfl
            · obtain ⟨r, z1, z2, z3⟩ := hit_iff.mp z
              obtain ⟨j', rfl⟩ : ∃ j', j = j' + 1 := ⟨j - 1, by omega⟩
              have := q6 r (j' + 1) z1 (dk_rng z3).1 z2 z3
              omega) FU (s + 1) (-1) (by omega) (by unfold FU; omega) ⟨by omega, Or.inl ⟨rfl, fun r k z1 z2 => by omega⟩⟩
  have h1' : miter (fun q : Int32 × Int32 => md_ringFrom_b11 ν (nI s) q.1 q.2) FU (-1, nI (s + 1)) = some e := h1
  rw [h1', h2]
