/-! law -/
def lwI (μ ν : Mm) (st va cd : Nat → Int32) (t s : Nat) : Prop := ∀ j, j < t → μ 72 j = ν 33 j ∧ μ 73 j = ν 34 j ∧ μ 74 j = ν 35 j ∧ μ 75 j = ν 36 j ∧ ∃ a c d, ν 34 j = nI a ∧ ν 35 j = nI (a + c.length) ∧ ν 36 j = nI (a + c.length + d.length) ∧ a + c.length + d.length ≤ s ∧ smE 64 a c ∧ smC 64 (a + c.length) d ∧ AtL (fun k o => opX k o (st k) (va k) ∧ cd k = enc o) a c ∧ AtL (fun k o => opX k o (st k) (va k) ∧ cd k = enc o) (a + c.length) d
theorem lwI_step {μ ν : Mm} {st va cd st' va' cd' : Nat → Int32} {t s : Nat} {l : Int32} {c d : List (Nat × Nat)} (h : lwI μ ν st va cd t s) (h1 : ∀ i, i < s → st' i = st i ∧ va' i = va i) (h2 : ∀ i, i < s → cd' i = cd i) (h3 : smE 64 s c) (h4 : smC 64 (s + c.length) d) (x1 : AtL (fun k o => opX k o (st' k) (va' k)) s c) (x2 : AtL (fun k o => opX k o (st' k) (va' k)) (s + c.length) d) (m1 : AtL (fun k o => cd' k = enc o) s c) (m2 : AtL (fun k o => cd' k = enc o) (s + c.length) d) : lwI (cX μ t l s (s + c.length) (s + c.length + d.length)) (cM ν t l s (s + c.length) (s + c.length + d.length)) st' va' cd' (t + 1) (s + c.length + d.length) := by
  intro j hj
  have e72 : cX μ t l s (s + c.length) (s + c.length + d.length) 72 = upd (μ 72) t l := rfl
  have e73 : cX μ t l s (s + c.length) (s + c.length + d.length) 73 = upd (μ 73) t (nI s) := rfl
  have e74 : cX μ t l s (s + c.length) (s + c.length + d.length) 74 = upd (μ 74) t (nI (s + c.length)) := rfl
  have e75 : cX μ t l s (s + c.length) (s + c.length + d.length) 75 = upd (μ 75) t (nI (s + c.length + d.length)) := rfl
  have f33 : cM ν t l s (s + c.length) (s + c.length + d.length) 33 = upd (ν 33) t l := rfl
  have f34 : cM ν t l s (s + c.length) (s + c.length + d.length) 34 = upd (ν 34) t (nI s) := rfl
  have f35 : cM ν t l s (s + c.length) (s + c.length + d.length) 35 = upd (ν 35) t (nI (s + c.length)) := rfl
  have f36 : cM ν t l s (s + c.length) (s + c.length + d.length) 36 = upd (ν 36) t (nI (s + c.length + d.length)) := rfl
  rw [e72, e73, e74, e75, f33, f34, f35, f36]
  by_cases e : j = t
  · subst e
    rw [upd_s, upd_s, upd_s, upd_s, upd_s, upd_s, upd_s, upd_s]
    exact ⟨rfl, rfl, rfl, rfl, s, c, d, rfl, rfl, rfl, Nat.le_refl _, h3, h4, AtL_and x1 m1, AtL_and x2 m2⟩
  · rw [upd_n e, upd_n e, upd_n e, upd_n e, upd_n e, upd_n e, upd_n e, upd_n e]
    obtain ⟨y1, y2, y3, y4, a, c', d', y5, y6, y7, y8, y9, y10, y11, y12⟩ := h j (by omega)
    refine ⟨y1, y2, y3, y4, a, c', d', y5, y6, y7, by omega, y9, y10, AtL_mono (fun k o g1 g2 g3 => ?_) y11, AtL_mono (fun k o g1 g2 g3 => ?_) y12⟩
    · show opX k o (st' k) (va' k) ∧ cd' k = enc o
      rw [(h1 k (by omega)).1, (h1 k (by omega)).2, h2 k (by omega)]
      exact g3
    · show opX k o (st' k) (va' k) ∧ cd' k = enc o
      rw [(h1 k (by omega)).1, (h1 k (by omega)).2, h2 k (by omega)]
      exact g3
theorem b7_0 {i : Int32} {M : Mm} : vs_LawReading_read_b7 M 0 i = some (.inr M) := by
  unfold vs_LawReading_read_b7
  split
  · rfl
  · rw [if_pos rfl]
theorem b46_0 {M : Mm} : md_law_b46 M 0 = some (.inr (0, M)) := by
  unfold md_law_b46
  rw [if_pos rfl]
section
variable {N : Nat} {sg : Nat → Int32} {μ0 ν0 : Mm}
theorem m_takY {ν : Mm} (hM : txM ν N sg) {p : Nat} {f o k w nb : Int32} {cd wa : Nat → Int32} (hp : p ≤ N) {ch : Int32} (h : sg p = ch) : md_takes (rM ν (nI p) f o k w nb cd wa) ch = some (true, rM ν (nI (p + 1)) f o k w nb cd wa) := by
  unfold md_takes
  rw [m_here hM hp, mbv_s, if_pos h, mst_s, rM_39, rMs39, nI_1]
theorem m_takN {ν : Mm} (hM : txM ν N sg) {p : Nat} {f o k w nb : Int32} {cd wa : Nat → Int32} (hp : p ≤ N) {ch : Int32} (h : ¬ sg p = ch) : md_takes (rM ν (nI p) f o k w nb cd wa) ch = some (false, rM ν (nI p) (-(nI (1000 + p))) o k w nb cd wa) := by
  unfold md_takes
  rw [m_here hM hp, mbv_s, if_neg h, m_wrong, mbm_s, rM_39, fltM 1 p 1 rfl]
theorem loopL : ∀ (m : Nat) (μ ν : Mm) (p s t i : Nat) (st va cd wa : Nat → Int32) (f o w nb : Int32), N - p ≤ m → txX μ N sg → txM ν N sg → absX μ = absX μ0 → absM ν = absM ν0 → s ≤ p → p ≤ N → i < p → t ≤ 14 → μ 11 8 = nI t → ν 0 45 = nI t → lwI μ ν st va cd t s → ∀ Fx Fm, N - p + 1 < Fx → N - p + 1 < Fm → (∃ φ u v, (0 < φ ∧ φ < 10000) ∧ miter (fun q : Int32 × Int32 × Mm => vs_LawReading_read_b7 q.2.2 q.1 q.2.1) Fx (1, nI i, xM μ (nI p) 0 (nI s) st va) = some u ∧ u 77 4 = nI φ ∧ absX u = absX μ0 ∧ miter (fun q : Int32 × Mm => md_law_b46 q.2 q.1) Fm (1, rM ν (nI p) f o (nI s) w nb cd wa) = some (0, v) ∧ v 0 41 = -(nI φ) ∧ absM v = absM ν0) ∨ ∃ μ' ν' p' s' t' st' va' cd' wa' o' w' nb', miter (fun q : Int32 × Int32 × Mm => vs_LawReading_read_b7 q.2.2 q.1 q.2.1) Fx (1, nI i, xM μ (nI p) 0 (nI s) st va) = some (xM μ' (nI p') 0 (nI s') st' va') ∧ miter (fun q : Int32 × Mm => md_law_b46 q.2 q.1) Fm (1, rM ν (nI p) f o (nI s) w nb cd wa) = some (1, rM ν' (nI p') f o' (nI s') w' nb' cd' wa') ∧ absX μ' = absX μ0 ∧ absM ν' = absM ν0 ∧ t' ≤ 14 ∧ s' ≤ 200 ∧ μ' 11 8 = nI t' ∧ ν' 0 45 = nI t' ∧ lwI μ' ν' st' va' cd' t' s' := by
  intro m
  have stop : ∀ (μ ν : Mm) (p s i : Nat) (st va cd wa : Nat → Int32) (f o w nb : Int32), txX μ N sg → txM ν N sg → p = N → i < p → vs_LawReading_read_b7 (xM μ (nI p) 0 (nI s) st va) 1 (nI i) = some (.inr (xM μ (nI p) 0 (nI s) st va)) ∧ md_law_b46 (rM ν (nI p) f o (nI s) w nb cd wa) 1 = some (.inr (1, rM ν (nI p) f o (nI s) w nb cd wa)) := by
    intro μ ν p s i st va cd wa f o w nb hX hM hp hi
    have hN := hX.2.1
    constructor
    · unfold vs_LawReading_read_b7
      rw [if_neg (show ¬ ((200 : Int32) ≤ nI i) from nI_ge (b := 200) (by omega) (by decide)), if_neg (by decide), show xM μ (nI p) 0 (nI s) st va 77 1 = nI N from hX.1, xM_3, if_pos (nI_le (by omega) (by omega))]
    · unfold md_law_b46
      rw [if_neg (by decide), show rM ν (nI p) f o (nI s) w nb cd wa 0 40 = nI N from hM.1, rM_39, if_pos (nI_le (by omega) (by omega))]
  induction m with
  | zero =>
    intro μ ν p s t i st va cd wa f o w nb hm hX hM aX aM hs hp hi ht hμ hν hI Fx Fm hFx hFm
    have hN := hX.2.1
    obtain ⟨z1, z2⟩ := stop μ ν p s i st va cd wa f o w nb hX hM (by omega) hi
    obtain ⟨F1, rfl⟩ : ∃ F1, Fx = F1 + 1 := ⟨Fx - 1, by omega⟩
    obtain ⟨F2, rfl⟩ : ∃ F2, Fm = F2 + 1 := ⟨Fm - 1, by omega⟩
    exact Or.inr ⟨μ, ν, p, s, t, st, va, cd, wa, o, w, nb, miter_r z1, miter_r z2, aX, aM, ht, by omega, hμ, hν, hI⟩
  | succ m ih =>
    intro μ ν p s t i st va cd wa f o w nb hm hX hM aX aM hs hp hi ht hμ hν hI Fx Fm hFx hFm
    have hN := hX.2.1
    by_cases hpN : p = N
    · obtain ⟨z1, z2⟩ := stop μ ν p s i st va cd wa f o w nb hX hM hpN hi
      obtain ⟨F1, rfl⟩ : ∃ F1, Fx = F1 + 1 := ⟨Fx - 1, by omega⟩
      obtain ⟨F2, rfl⟩ : ∃ F2, Fm = F2 + 1 := ⟨Fm - 1, by omega⟩
      exact Or.inr ⟨μ, ν, p, s, t, st, va, cd, wa, o, w, nb, miter_r z1, miter_r z2, aX, aM, ht, by omega, hμ, hν, hI⟩
    have hlt : p < N := by omega
    obtain ⟨F1, rfl⟩ : ∃ F1, Fx = F1 + 1 + 1 := ⟨Fx - 2, by omega⟩
    obtain ⟨F2, rfl⟩ : ∃ F2, Fm = F2 + 1 + 1 := ⟨Fm - 2, by omega⟩
    have hx0 : vs_LawReading_read_b7 (xM μ (nI p) 0 (nI s) st va) 1 (nI i) = mbm (vs_LawReading_expect (xM μ (nI p) 0 (nI s) st va) 59) fun x6 μ7 => if (bI x6) = 0 then some (.inl (0, nI (i + 1), μ7)) else mbm (vs_LawReading_readClause μ7) fun x9 μ10 => if (bI x9) = 0 then some (.inl (0, nI (i + 1), μ10)) else some (.inl (1, nI (i + 1), μ10)) := by
      unfold vs_LawReading_read_b7
      rw [if_neg (show ¬ ((200 : Int32) ≤ nI i) from nI_ge (b := 200) (by omega) (by decide)), if_neg (by decide), show xM μ (nI p) 0 (nI s) st va 77 1 = nI N from hX.1, xM_3, if_neg (nI_ge hlt (by omega)), nI_1]
    have hm0 : md_law_b46 (rM ν (nI p) f o (nI s) w nb cd wa) 1 = mbm (md_takes (rM ν (nI p) f o (nI s) w nb cd wa) 59) fun x12 μ13 => if (bI x12) = 0 then some (.inl (0, μ13)) else mbm (md_readsClause μ13) fun x15 μ16 => if (bI x15) = 0 then some (.inl (0, μ16)) else some (.inl (1, μ16)) := by
      unfold md_law_b46
      rw [if_neg (by decide), show rM ν (nI p) f o (nI s) w nb cd wa 0 40 = nI N from hM.1, rM_39, if_neg (nI_ge hlt (by omega))]
    by_cases c1 : sg p = 59
    · rw [x_expY hX hp c1, mbm_s, ifb_t'] at hx0
      rw [m_takY hM hp c1, mbm_s, ifb_t'] at hm0
      rcases clause_all hX hM (p := p + 1) (s := s) (by omega) (by omega) ht hμ hν with ⟨φ, hφ, k1, k2⟩ | ⟨q, c, d, q1, q2, q3, q4, q5, q6, k1, k2⟩
      · left
        obtain ⟨u, u1, u2, u3⟩ := k1 0 st va
        obtain ⟨v, v1, v2, v3⟩ := k2 f o w nb cd wa
        rw [u1, mbm_s, ifb_f'] at hx0
        rw [v1, mbm_s, ifb_f'] at hm0
        exact ⟨φ, u, v, hφ, miter_l hx0 (miter_r b7_0), u2, u3.trans aX, miter_l hm0 (miter_r b46_0), v2, v3.trans aM⟩
      · obtain ⟨st', va', u1, u2, u3, u4⟩ := k1 0 st va
        obtain ⟨o', w', nb', cd', wa', v1, v2, v3, v4⟩ := k2 f o w nb cd wa
        rw [u1, mbm_s, ifb_t'] at hx0
        rw [v1, mbm_s, ifb_t'] at hm0
        have step := ih (cX μ t (sg (p + 1)) s (s + c.length) (s + c.length + d.length)) (cM ν t (sg (p + 1)) s (s + c.length) (s + c.length + d.length)) q (s + c.length + d.length) (t + 1) (i + 1) st' va' cd' wa' f o' w' nb' (by omega) hX hM (((absX_s rfl).trans ((absX_s rfl).trans ((absX_s rfl).trans ((absX_s rfl).trans (absX_s rfl))))).trans aX) (((absM_s rfl).trans ((absM_s rfl).trans ((absM_s rfl).trans ((absM_s rfl).trans (absM_s rfl))))).trans aM) (by omega) q2 (by omega) (by omega) mset_s mset_s (lwI_step hI u2 v2 q5 q6 u3 u4 v3 v4) (F1 + 1) (F2 + 1) (by omega) (by omega)
        rcases step with ⟨φ, u, v, g1, g2, g3, g4, g5, g6, g7⟩ | ⟨μ', ν', p', s', t', st2, va2, cd2, wa2, o2, w2, nb2, g1, g2, g3⟩
        · exact Or.inl ⟨φ, u, v, g1, miter_l hx0 g2, g3, g4, miter_l hm0 g5, g6, g7⟩
        · exact Or.inr ⟨μ', ν', p', s', t', st2, va2, cd2, wa2, o2, w2, nb2, miter_l hx0 g1, miter_l hm0 g2, g3⟩
    · left
      rw [x_expN hX hp c1, mbm_s, ifb_f'] at hx0
      rw [m_takN hM hp c1, mbm_s, ifb_f'] at hm0
      exact ⟨1000 + p, _, _, by omega, miter_l hx0 (miter_r b7_0), rfl, absX_xM.trans aX, miter_l hm0 (miter_r b46_0), rfl, absM_rM.trans aM⟩
end
theorem xM_self {M : Mm} : xM M (M 77 3) (M 77 4) (M 11 7) (M 70) (M 71) = M := by
  funext c i
  unfold xM
  by_cases z1 : c = 77
  · subst z1
    show (if i = 3 then M 77 3 else if i = 4 then M 77 4 else M 77 i) = M 77 i
    by_cases y1 : i = 3
    · rw [if_pos y1, y1]
    · rw [if_neg y1]
      by_cases y2 : i = 4
      · rw [if_pos y2, y2]
      · rw [if_neg y2]
  · rw [if_neg z1]
    by_cases z2 : c = 11
    · subst z2
      show (if i = 7 then M 11 7 else M 11 i) = M 11 i
      by_cases y1 : i = 7
      · rw [if_pos y1, y1]
      · rw [if_neg y1]
    · rw [if_neg z2]
      by_cases z3 : c = 70
      · rw [if_pos z3, z3]
      · rw [if_neg z3]
        by_cases z4 : c = 71
        · rw [if_pos z4, z4]
        · rw [if_neg z4]
theorem rM_self {M : Mm} : rM M (M 0 39) (M 0 41) (M 0 42) (M 0 43) (M 0 44) (M 0 46) (M 31) (M 32) = M := by
  funext c i
  unfold rM
  by_cases z1 : c = 0
  · subst z1
    show (if i = 39 then M 0 39 else if i = 41 then M 0 41 else if i = 42 then M 0 42 else if i = 43 then M 0 43 else if i = 44 then M 0 44 else if i = 46 then M 0 46 else M 0 i) = M 0 i
    by_cases y1 : i = 39
    · rw [if_pos y1, y1]
    rw [if_neg y1]
    by_cases y2 : i = 41
    · rw [if_pos y2, y2]
    rw [if_neg y2]
    by_cases y3 : i = 42
    · rw [if_pos y3, y3]
    rw [if_neg y3]
    by_cases y4 : i = 43
    · rw [if_pos y4, y4]
    rw [if_neg y4]
    by_cases y5 : i = 44
    · rw [if_pos y5, y5]
    rw [if_neg y5]
    by_cases y6 : i = 46
    · rw [if_pos y6, y6]
    rw [if_neg y6]
  · rw [if_neg z1]
    by_cases z3 : c = 31
    · rw [if_pos z3, z3]
    · rw [if_neg z3]
      by_cases z4 : c = 32
      · rw [if_pos z4, z4]
      · rw [if_neg z4]
theorem absX_ms {u μ : Mm} (h : absX u = absX μ) (c i : Nat) (x : Int32) : absX (mset u c i x) = absX (mset μ c i x) := by
  funext c' i'
  have e := congrFun (congrFun h c') i'
  unfold absX at e ⊢
  by_cases z : c' = c
  · subst z
    by_cases z2 : i' = i
    · subst z2; rw [mset_s, mset_s]
    · rw [mset_n z2, mset_n z2]; exact e
  · rw [mset_o z, mset_o z]; exact e
theorem absM_ms {u μ : Mm} (h : absM u = absM μ) (c i : Nat) (x : Int32) : absM (mset u c i x) = absM (mset μ c i x) := by
  funext c' i'
  have e := congrFun (congrFun h c') i'
  unfold absM at e ⊢
  by_cases z : c' = c
  · subst z
    by_cases z2 : i' = i
    · subst z2; rw [mset_s, mset_s]
    · rw [mset_n z2, mset_n z2]; exact e
  · rw [mset_o z, mset_o z]; exact e
/-- an empty tape -/
theorem rel_tape {μ ν : Mm} (h : Rel μ ν) : Rel (mset μ 1 1 0) (mset ν 0 38 0) := by
  obtain ⟨⟨⟨n1, n2, n3, n4, n5, n6, n7, n8, n9⟩, r2, r3, r4, r5, r6, r7, r8, r9, r10, r11, r12, r13, r14, r15, r16, r17⟩, ⟨⟨g1, g2, g3, g4, g5, g6, g7⟩, grest⟩⟩ := h
  exact ⟨⟨⟨n1, n2, n3, n4, n5, n6, n7, rfl, n9⟩, r2, r3, r4, r5, r6, r7, r8, r9, r10, r11, r12, r13, r14, r15, fun i hi => absurd hi (Nat.not_lt_zero i), r17⟩, ⟨⟨g1, g2, g3, g4, g5, ⟨0, by omega, rfl⟩, g7⟩, grest⟩⟩
/-! the new law is laid -/
theorem m_copy {ν : Mm} {s : Nat} (hs : s ≤ 200) (h43 : ν 0 43 = nI s) : ∃ G, md_law_l110 ν 0 = some (mrp ν 37 G) ∧ ∀ k, k < s → G k = ν 31 k := by
  unfold md_law_l110
  obtain ⟨e, h1, G, h2, h3⟩ := miter_cnt (f := fun q : Int32 × Mm => md_law_b110 q.2 q.1) (fun i (G : Nat → Int32) => (nI i, mrp ν 37 G)) s (fun i G => ∀ k, k < i → G k = ν 31 k) (fun e => ∃ G, e = mrp ν 37 G ∧ ∀ k, k < s → G k = ν 31 k) (fun i G hi hI => by
      left
      refine ⟨upd G i (ν 31 i), ?_, fun k hk => ?_⟩
      · show md_law_b110 (mrp ν 37 G) (nI i) = _
        unfold md_law_b110
        rw [show mrp ν 37 G 0 43 = nI s from h43, if_neg (nI_ge hi (by omega)), mrd_nI (by omega) (by decide), mwr_nI (by omega) (by decide), mset_mrp, nI_1]
        rfl
      · by_cases e : k = i
        · subst e; rw [upd_s]
        · rw [upd_n e]; exact hI k (by omega)) (fun G hI => by
      refine ⟨mrp ν 37 G, ?_, G, rfl, hI⟩
      show md_law_b110 (mrp ν 37 G) (nI s) = _
      unfold md_law_b110
      rw [show mrp ν 37 G 0 43 = nI s from h43, if_pos (nI_le (Nat.le_refl _) (by omega))]) FU 0 (ν 37) (by omega) (by unfold FU; omega) (fun k hk => absurd hk (Nat.not_lt_zero k))
  refine ⟨G, ?_, h3⟩
  rw [← h2]
  have h1' : miter (fun q : Int32 × Mm => md_law_b110 q.2 q.1) FU (0, mrp ν 37 (ν 37)) = some e := h1
  rw [mrp_self] at h1'
  exact h1'
def m4 (ν : Mm) (a b c d : Nat → Int32) : Mm := mrp (mrp (mrp (mrp ν 38 a) 39 b) 40 c) 41 d
theorem m4_38 {ν : Mm} {a b c d : Nat → Int32} {i : Nat} {v : Int32} : mset (m4 ν a b c d) 38 i v = m4 ν (upd a i v) b c d := by
  funext x j
  by_cases e : x = 38
  · subst e
    by_cases e2 : j = i
    · subst e2; rw [mset_s]; exact (upd_s a j v).symm
    · rw [mset_n e2]; exact (upd_n e2).symm
  · rw [mset_o e]; simp [m4, mrp, e]
theorem m4_39 {ν : Mm} {a b c d : Nat → Int32} {i : Nat} {v : Int32} : mset (m4 ν a b c d) 39 i v = m4 ν a (upd b i v) c d := by
  funext x j
  by_cases e : x = 39
  · subst e
    by_cases e2 : j = i
    · subst e2; rw [mset_s]; exact (upd_s b j v).symm
    · rw [mset_n e2]; exact (upd_n e2).symm
  · rw [mset_o e]; simp [m4, mrp, e]
theorem m4_40 {ν : Mm} {a b c d : Nat → Int32} {i : Nat} {v : Int32} : mset (m4 ν a b c d) 40 i v = m4 ν a b (upd c i v) d := by
  funext x j
  by_cases e : x = 40
  · subst e
    by_cases e2 : j = i
    · subst e2; rw [mset_s]; exact (upd_s c j v).symm
    · rw [mset_n e2]; exact (upd_n e2).symm
  · rw [mset_o e]; simp [m4, mrp, e]
theorem m4_41 {ν : Mm} {a b c d : Nat → Int32} {i : Nat} {v : Int32} : mset (m4 ν a b c d) 41 i v = m4 ν a b c (upd d i v) := by
  funext x j
  by_cases e : x = 41
  · subst e
    by_cases e2 : j = i
    · subst e2; rw [mset_s]; exact (upd_s d j v).symm
    · rw [mset_n e2]; exact (upd_n e2).symm
  · rw [mset_o e]; simp [m4, mrp, e]
theorem m4_self {ν : Mm} : m4 ν (ν 38) (ν 39) (ν 40) (ν 41) = ν := by
  funext x
  unfold m4 mrp
  by_cases e1 : x = 41
  · rw [if_pos e1, e1]
  rw [if_neg e1]
  by_cases e2 : x = 40
  · rw [if_pos e2, e2]
  rw [if_neg e2]
  by_cases e3 : x = 39
  · rw [if_pos e3, e3]
  rw [if_neg e3]
  by_cases e4 : x = 38
  · rw [if_pos e4, e4]
  rw [if_neg e4]
theorem m_copy4 {ν : Mm} {t : Nat} (ht : t ≤ 14) (h45 : ν 0 45 = nI t) : ∃ a b c d, md_law_l138 ν 0 = some (m4 ν a b c d) ∧ ∀ k, k < t → a k = ν 33 k ∧ b k = ν 34 k ∧ c k = ν 35 k ∧ d k = ν 36 k := by
  unfold md_law_l138
  obtain ⟨e, h1, a, b, c, d, h2, h3⟩ := miter_cnt (f := fun q : Int32 × Mm => md_law_b138 q.2 q.1) (fun i (G : (Nat → Int32) × (Nat → Int32) × (Nat → Int32) × (Nat → Int32)) => (nI i, m4 ν G.1 G.2.1 G.2.2.1 G.2.2.2)) t (fun i G => ∀ k, k < i → G.1 k = ν 33 k ∧ G.2.1 k = ν 34 k ∧ G.2.2.1 k = ν 35 k ∧ G.2.2.2 k = ν 36 k) (fun e => ∃ a b c d, e = m4 ν a b c d ∧ ∀ k, k < t → a k = ν 33 k ∧ b k = ν 34 k ∧ c k = ν 35 k ∧ d k = ν 36 k) (fun i G hi hI => by
      left
      refine ⟨(upd G.1 i (ν 33 i), upd G.2.1 i (ν 34 i), upd G.2.2.1 i (ν 35 i), upd G.2.2.2 i (ν 36 i)), ?_, fun k hk => ?_⟩
      · show md_law_b138 (m4 ν G.1 G.2.1 G.2.2.1 G.2.2.2) (nI i) = _
        unfold md_law_b138
        rw [show m4 ν G.1 G.2.1 G.2.2.1 G.2.2.2 0 45 = nI t from h45, if_neg (nI_ge hi (by omega)), mrd_nI (by omega) (by decide), mwr_nI (by omega) (by decide), m4_38, mrd_nI (by omega) (by decide), mwr_nI (by omega) (by decide), m4_39, mrd_nI (by omega) (by decide), mwr_nI (by omega) (by decide), m4_40, mrd_nI (by omega) (by decide), mwr_nI (by omega) (by decide), m4_41, nI_1]
        rfl
      · show upd G.1 i (ν 33 i) k = ν 33 k ∧ upd G.2.1 i (ν 34 i) k = ν 34 k ∧ upd G.2.2.1 i (ν 35 i) k = ν 35 k ∧ upd G.2.2.2 i (ν 36 i) k = ν 36 k
        by_cases e : k = i
        · subst e; rw [upd_s, upd_s, upd_s, upd_s]; exact ⟨rfl, rfl, rfl, rfl⟩
        · rw [upd_n e, upd_n e, upd_n e, upd_n e]; exact hI k (by omega)) (fun G hI => by
      refine ⟨m4 ν G.1 G.2.1 G.2.2.1 G.2.2.2, ?_, _, _, _, _, rfl, hI⟩
      show md_law_b138 (m4 ν G.1 G.2.1 G.2.2.1 G.2.2.2) (nI t) = _
      unfold md_law_b138
      rw [show m4 ν G.1 G.2.1 G.2.2.1 G.2.2.2 0 45 = nI t from h45, if_pos (nI_le (Nat.le_refl _) (by omega))]) FU 0 (ν 38, ν 39, ν 40, ν 41) (by omega) (by unfold FU; omega) (fun k hk => absurd hk (Nat.not_lt_zero k))
  refine ⟨a, b, c, d, ?_, h3⟩
  rw [← h2]
  have h1' : miter (fun q : Int32 × Mm => md_law_b138 q.2 q.1) FU (0, m4 ν (ν 38) (ν 39) (ν 40) (ν 41)) = some e := h1
  rw [m4_self] at h1'
  exact h1'
theorem pLaw_of {μ ν : Mm} {st va cd cd2 le su te en : Nat → Int32} {t s : Nat} (ht : t ≤ 14) (hs : s ≤ 200) (h : lwI μ ν st va cd t s) (hc : ∀ k, k < s → cd2 k = cd k) (h4 : ∀ k, k < t → le k = ν 33 k ∧ su k = ν 34 k ∧ te k = ν 35 k ∧ en k = ν 36 k) : pLaw (nI t) st va (μ 72) (μ 73) (μ 74) (μ 75) (nI t) cd2 le su te en := by
  refine ⟨rfl, t, ht, rfl, fun q hq => ?_⟩
  obtain ⟨y1, y2, y3, y4, a, c, d, y5, y6, y7, y8, y9, y10, y11, y12⟩ := h q hq
  obtain ⟨z1, z2, z3, z4⟩ := h4 q hq
  rw [z1, z2, z3, z4]
  have key : ∀ k o, k < s → opX k o (st k) (va k) ∧ cd k = enc o → odOf cd2 k = o ∧ opOk k (st k) (va k) (cd2 k) (odOf cd2 k) := by
    intro k o hk g
    have e := hc k hk
    have e2 : odOf cd2 k = o := od_enc (by rw [e]; exact g.2) (opX_le g.1).1 (opX_le g.1).2
    refine ⟨e2, ?_⟩
    rw [e2, e, g.2]
    exact g.1
  have w1 : AtL (fun k o => odOf cd2 k = o) a c := AtL_mono (fun k o g1 g2 g3 => (key k o (by omega) g3).1) y11
  have w2 : AtL (fun k o => odOf cd2 k = o) (a + c.length) d := AtL_mono (fun k o g1 g2 g3 => (key k o (by omega) g3).1) y12
  refine ⟨y1, y2, y3, y4, a, a + c.length, a + c.length + d.length, y5, y6, y7, by omega, by omega, by omega, wfE_of y9 (Nat.le_refl _) w1, wfC_of y10 (Nat.le_refl _) w2, fun k k1 k2 => ?_⟩
  by_cases e : k < a + c.length
  · obtain ⟨o, ho⟩ := AtL_ex y11 k1 e
    exact (key k o (by omega) ho).2
  · obtain ⟨o, ho⟩ := AtL_ex y12 (by omega) k2
    exact (key k o (by omega) ho).2
theorem st_law : ST_law Rel := by
  intro μ ν a1 h
  unfold vs_law md_law
  rw [within_eq, in_eq, mbv_s, mbv_s]
  by_cases c1 : ¬ (wi a1 1 200 = true)
  · rw [ifb_f c1, ifb_f c1]; exact ⟨-1, μ, ν, rfl, rfl, h⟩
  rw [Classical.not_not] at c1
  rw [ifb_t c1, ifb_t c1]
  have e38 : μ 1 1 = ν 0 38 := h.1.1.2.2.2.2.2.2.2.1
  rw [e38]
  by_cases c2 : ¬ (a1 ≤ ν 0 38)
  · rw [if_neg c2, if_neg c2]; exact ⟨-1, μ, ν, rfl, rfl, h⟩
  rw [Classical.not_not] at c2
  rw [if_pos c2, if_pos c2]
  obtain ⟨n, n1, n2, rfl⟩ := wi_r (a := a1) (lo := 1) (hi := 200) c1 (by decide) (by decide)
  have htp := gI_n h.2.1.2.2.2.2.2.1 (by decide)
  have hnt : n ≤ (ν 0 38).toNatClampNeg := by
    rw [htp.1] at c2
    exact (nI_leI (by omega) (by omega)).mp c2
  unfold vs_Law_clear_sp
  rw [mst_s, mst_s, mbv_s, mst_s, mst_s, mst_s, mst_s]
  have hjm : jmin (nI n) 400 = nI n := by
    rw [show (400 : Int32) = nI 400 from rfl, jmin_nI (by omega) (by decide), Nat.min_eq_left (by omega)]
  have hdt : ∀ i, i < (ν 0 38).toNatClampNeg → μ 14 i = ν 30 i &&& 255 := h.1.2.2.2.2.2.2.2.2.2.2.2.2.2.2.2.1
  have aXM : absX (mrd0 (mset (mset μ 11 7 0) 11 8 0) (nI n)) = absX μ := by
    refine Eq.trans ?_ ((absX_s rfl).trans (absX_s rfl) : absX (mset (mset μ 11 7 0) 11 8 0) = absX μ)
    funext c i
    unfold absX mrd0
    by_cases z : c = 77
    · subst z; rfl
    · rw [if_neg z]
  have aMM : absM (mset (mset (mset (mset ν 0 39 0) 0 40 (nI n)) 0 43 0) 0 45 0) = absM ν := (absM_s rfl).trans ((absM_s rfl).trans ((absM_s rfl).trans (absM_s rfl)))
  have tX : txX (mrd0 (mset (mset μ 11 7 0) 11 8 0) (nI n)) n (fun p => if p < n then ν 30 p &&& 255 else -1) := by
    refine ⟨hjm, n2, fun p hp => ?_, fun p hp => if_neg (by omega)⟩
    show μ 14 p = if p < n then ν 30 p &&& 255 else -1
    rw [if_pos hp, hdt p (by omega)]
  have tM : txM (mset (mset (mset (mset ν 0 39 0) 0 40 (nI n)) 0 43 0) 0 45 0) n (fun p => if p < n then ν 30 p &&& 255 else -1) := by
    refine ⟨rfl, n2, fun p hp => ?_, fun p hp => if_neg (by omega)⟩
    show ν 30 p &&& 255 = if p < n then ν 30 p &&& 255 else -1
    rw [if_pos hp]
  have sX : xM (mrd0 (mset (mset μ 11 7 0) 11 8 0) (nI n)) (nI 0) 0 (nI 0) (μ 70) (μ 71) = mrd0 (mset (mset μ 11 7 0) 11 8 0) (nI n) := xM_self (M := mrd0 (mset (mset μ 11 7 0) 11 8 0) (nI n))
  have sM : rM (mset (mset (mset (mset ν 0 39 0) 0 40 (nI n)) 0 43 0) 0 45 0) (nI 0) (ν 0 41) (ν 0 42) (nI 0) (ν 0 44) (ν 0 46) (ν 31) (ν 32) = mset (mset (mset (mset ν 0 39 0) 0 40 (nI n)) 0 43 0) 0 45 0 := rM_self (M := mset (mset (mset (mset ν 0 39 0) 0 40 (nI n)) 0 43 0) 0 45 0)
  have hr0 := rel_tape h
  have hFU : 1000 < FU := by unfold FU; omega
  -- both fail with one fault
  have bad : ∀ (φ : Nat) (u v : Mm), 0 < φ ∧ φ < 10000 → u 77 4 = nI φ → absX u = absX μ → v 0 41 = -(nI φ) → absM v = absM ν → ∃ x u' w', (mbv (vs_Tape_clear u) fun μ5 => if u 77 4 = 0 then some ((msw μ5) 10 8, msw μ5) else some ((-(u 77 4)), μ5)) = some (x, u') ∧ md_law_j86 v 0 = some (x, w') ∧ Rel u' w' := by
    intro φ u v hφ h1 h2 h3 h4
    refine ⟨-(nI φ), mset u 1 1 0, mset v 0 38 0, ?_, ?_, Rel_abs (absX_ms h2 1 1 0) (absM_ms h4 0 38 0) hr0⟩
    · unfold vs_Tape_clear
      rw [mst_s, mbv_s, h1, if_neg (nI_ne0 hφ.1 (by omega))]
    · unfold md_law_j86
      rw [mst_s, if_pos rfl, mset_n (by decide), h3]
  unfold vs_LawReading_read
  rcases clause_all tX tM (p := 0) (s := 0) (t := 0) (Nat.le_refl _) (Nat.zero_le _) (by omega) rfl rfl with ⟨φ, hφ, k1, k2⟩ | ⟨q, c, d, q1, q2, q3, q4, q5, q6, k1, k2⟩
  · obtain ⟨u, u1, u2, u3⟩ := k1 0 (μ 70) (μ 71)
    obtain ⟨v, v1, v2, v3⟩ := k2 (ν 0 41) (ν 0 42) (ν 0 44) (ν 0 46) (ν 31) (ν 32)
    rw [sX] at u1
    rw [sM] at v1
    have lx : vs_LawReading_read_l7 u (bI false) 0 = some u := miter_r (F := 1048575) b7_0
    have lm : md_law_l46 v (bI false) = some (0, v) := miter_r (F := 1048575) b46_0
    rw [u1, mbm_s, lx, mbv_s, mbm_s, v1, mbm_s, lm, mbv_s, un2_p]
    exact bad φ u v hφ u2 (u3.trans aXM) v2 (v3.trans aMM)
  · obtain ⟨st', va', u1, u2, u3, u4⟩ := k1 0 (μ 70) (μ 71)
    obtain ⟨o', w', nb', cd', wa', v1, v2, v3, v4⟩ := k2 (ν 0 41) (ν 0 42) (ν 0 44) (ν 0 46) (ν 31) (ν 32)
    rw [sX] at u1
    rw [sM] at v1
    have hI0 : lwI (mrd0 (mset (mset μ 11 7 0) 11 8 0) (nI n)) (mset (mset (mset (mset ν 0 39 0) 0 40 (nI n)) 0 43 0) 0 45 0) (μ 70) (μ 71) (ν 31) 0 0 := fun j hj => absurd hj (Nat.not_lt_zero j)
    have step := loopL (μ0 := μ) (ν0 := ν) (N := n) (sg := fun p => if p < n then ν 30 p &&& 255 else -1) (n - q) _ _ q _ 1 0 st' va' cd' wa' (ν 0 41) o' w' nb' (Nat.le_refl _) (show txX (cX (mrd0 (mset (mset μ 11 7 0) 11 8 0) (nI n)) 0 ((fun p => if p < n then ν 30 p &&& 255 else -1) 0) 0 (0 + c.length) (0 + c.length + d.length)) n (fun p => if p < n then ν 30 p &&& 255 else -1) from tX) (show txM (cM (mset (mset (mset (mset ν 0 39 0) 0 40 (nI n)) 0 43 0) 0 45 0) 0 ((fun p => if p < n then ν 30 p &&& 255 else -1) 0) 0 (0 + c.length) (0 + c.length + d.length)) n (fun p => if p < n then ν 30 p &&& 255 else -1) from tM) (((absX_s rfl).trans ((absX_s rfl).trans ((absX_s rfl).trans ((absX_s rfl).trans (absX_s rfl))))).trans aXM) (((absM_s rfl).trans ((absM_s rfl).trans ((absM_s rfl).trans ((absM_s rfl).trans (absM_s rfl))))).trans aMM) (by omega) q2 (by omega) (by omega) mset_s mset_s (lwI_step hI0 u2 v2 q5 q6 u3 u4 v3 v4) FU FU (by omega) (by omega)
    rcases step with ⟨φ, u, v, g1, g2, g3, g4, g5, g6, g7⟩ | ⟨μ', ν', p', s', t', st2, va2, cd2, wa2, o2, w2, nb2, g1, g2, g3, g4, g5, g6, g7, g8, g9⟩
    · have lx : vs_LawReading_read_l7 (xM (cX (mrd0 (mset (mset μ 11 7 0) 11 8 0) (nI n)) 0 ((fun p => if p < n then ν 30 p &&& 255 else -1) 0) 0 (0 + c.length) (0 + c.length + d.length)) (nI q) 0 (nI (0 + c.length + d.length)) st' va') (bI true) 0 = some u := g2
      have lm : md_law_l46 (rM (cM (mset (mset (mset (mset ν 0 39 0) 0 40 (nI n)) 0 43 0) 0 45 0) 0 ((fun p => if p < n then ν 30 p &&& 255 else -1) 0) 0 (0 + c.length) (0 + c.length + d.length)) (nI q) (ν 0 41) o' (nI (0 + c.length + d.length)) w' nb' cd' wa') (bI true) = some (0, v) := g5
      rw [u1, mbm_s, lx, mbv_s, mbm_s, v1, mbm_s, lm, mbv_s, un2_p]
      exact bad φ u v g1 g3 g4 g6 g7
    · have lx : vs_LawReading_read_l7 (xM (cX (mrd0 (mset (mset μ 11 7 0) 11 8 0) (nI n)) 0 ((fun p => if p < n then ν 30 p &&& 255 else -1) 0) 0 (0 + c.length) (0 + c.length + d.length)) (nI q) 0 (nI (0 + c.length + d.length)) st' va') (bI true) 0 = some (xM μ' (nI p') 0 (nI s') st2 va2) := g1
      have lm : md_law_l46 (rM (cM (mset (mset (mset (mset ν 0 39 0) 0 40 (nI n)) 0 43 0) 0 45 0) 0 ((fun p => if p < n then ν 30 p &&& 255 else -1) 0) 0 (0 + c.length) (0 + c.length + d.length)) (nI q) (ν 0 41) o' (nI (0 + c.length + d.length)) w' nb' cd' wa') (bI true) = some (1, rM ν' (nI p') (ν 0 41) o2 (nI s') w2 nb2 cd2 wa2) := g2
      rw [u1, mbm_s, lx, mbv_s, mbm_s, v1, mbm_s, lm, mbv_s, un2_p, xM_4]
      unfold vs_Tape_clear md_law_j86
      rw [mst_s, mbv_s, if_pos rfl, mst_s, if_neg (show ¬ ((1 : Int32) = 0) by decide), mst_s, show mset (rM ν' (nI p') (ν 0 41) o2 (nI s') w2 nb2 cd2 wa2) 0 38 0 0 45 = nI t' from g8]
      obtain ⟨G, y1, y2⟩ := m_copy (ν := mset (mset (rM ν' (nI p') (ν 0 41) o2 (nI s') w2 nb2 cd2 wa2) 0 38 0) 0 58 (nI t')) g6 rfl
      obtain ⟨a, b, e, f, y3, y4⟩ := m_copy4 (ν := mrp (mset (mset (rM ν' (nI p') (ν 0 41) o2 (nI s') w2 nb2 cd2 wa2) 0 38 0) 0 58 (nI t')) 37 G) g5 g8
      have hr1 : Rel (mset (xM μ' (nI p') 0 (nI s') st2 va2) 1 1 0) (mset (rM ν' (nI p') (ν 0 41) o2 (nI s') w2 nb2 cd2 wa2) 0 38 0) := Rel_abs (absX_ms (absX_xM.trans g3) 1 1 0) (absM_ms (absM_rM.trans g4) 0 38 0) hr0
      rw [y1, mbv_s, y3, mbv_s]
      refine ⟨nI t', msw (mset (xM μ' (nI p') 0 (nI s') st2 va2) 1 1 0), m4 (mrp (mset (mset (rM ν' (nI p') (ν 0 41) o2 (nI s') w2 nb2 cd2 wa2) 0 38 0) 0 58 (nI t')) 37 G) a b e f, ?_, ?_, ?_⟩
      · rw [show msw (mset (xM μ' (nI p') 0 (nI s') st2 va2) 1 1 0) 10 8 = nI t' from g7]
      · rw [show m4 (mrp (mset (mset (rM ν' (nI p') (ν 0 41) o2 (nI s') w2 nb2 cd2 wa2) 0 38 0) 0 58 (nI t')) 37 G) a b e f 0 45 = nI t' from g8]
      · have hp := pLaw_of g5 g6 g9 y2 y4
        obtain ⟨⟨r1, r2, r3, r4, r5, r6, r7, r8, r9, r10, r11, r12, r13, r14, r15, r16, r17⟩, gd⟩ := hr1
        have e10 : msw (mset (xM μ' (nI p') 0 (nI s') st2 va2) 1 1 0) 10 8 = nI t' := g7
        refine ⟨⟨r1, r2, r3, r4, r5, r6, r7, r8, r9, r10, r11, r12, r13, r14, r15, r16, ?_⟩, gd⟩
        rw [e10]
        exact hp
