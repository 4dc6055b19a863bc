theorem m_run_loop {od : Nat → Nat × Nat} {fc : Nat → Int32} {e a : Nat} (he : e ≤ 200) : ∀ (n k : Nat) (st : List Int32) (ν : Mm) (F : Nat) (res : Option (List Int32)), lev od fc n k e st = some res → a ≤ k → k ≤ 200 → st.length ≤ 64 → n < F → stk (ν 42) st → (∀ k, a ≤ k → k < e → ∃ s v, opOk k s v (ν 37 k) (od k)) → (∀ w, w < 12 → ν 43 w = fc w) → ∃ ν', FM ν ν' ∧ RSM res (miter (fun q : Int32 × Int32 × Mm => md_comesTo_b16 q.2.2 (nI e) (nI 0) q.1 q.2.1) F (nI st.length, nI k, ν)) ν' := by
  intro n
  induction n with
  | zero => intro k st ν F res h; simp [lev] at h
  | succ n ih =>
    intro k st ν F res hl ha hk hn hF hS hop hfc
    obtain ⟨F', rfl⟩ : ∃ F', F = F' + 1 := ⟨F - 1, by omega⟩
    unfold lev at hl
    by_cases hke : e ≤ k
    · rw [if_pos hke] at hl
      cases hl
      refine ⟨ν, FM_r ν, miter_r ?_, hS⟩
      show md_comesTo_b16 ν (nI e) (nI 0) (nI st.length) (nI k) = _
      unfold md_comesTo_b16
      rw [if_pos (nI_le hke (by omega))]
    · rw [if_neg hke] at hl
      have hk2 : k < 220 := by omega
      have t2 : ¬ (nI e ≤ nI k) := nI_ge (by omega) (by omega)
      by_cases h64 : 64 ≤ st.length
      · rw [if_pos h64] at hl; cases hl
      rw [if_neg h64] at hl
      have hlen : st.length < 220 := by omega
      have go : ∀ (k' : Nat) (st1 : List Int32) (ν1 : Mm), lev od fc n k' e st1 = some res → k < k' → k' ≤ 200 → st1.length ≤ 64 → stk (ν1 42) st1 → FM ν ν1 → md_comesTo_b16 ν (nI e) (nI 0) (nI st.length) (nI k) = some (.inl (nI st1.length, nI k', ν1)) → ∃ ν', FM ν ν' ∧ RSM res (miter (fun q : Int32 × Int32 × Mm => md_comesTo_b16 q.2.2 (nI e) (nI 0) q.1 q.2.1) (F' + 1) (nI st.length, nI k, ν)) ν' := by
        intro k' st1 ν1 h1 h2 h3 h3b h4 h5 h6
        obtain ⟨ν', g2, g3⟩ := ih k' st1 ν1 F' res h1 (by omega) h3 h3b (by omega) h4 (by rw [h5 37 (by decide)]; exact hop) (by rw [h5 43 (by decide)]; exact hfc)
        refine ⟨ν', FM_t h5 g2, ?_⟩
        rw [miter_l (q := (nI st.length, nI k, ν)) (q' := (nI st1.length, nI k', ν1)) h6 rfl]
        exact g3
      have hb : md_comesTo_b16 ν (nI e) (nI 0) (nI st.length) (nI k) = md_comesTo_b16 ν (nI e) (nI 0) (nI st.length) (nI k) := rfl
      conv at hb => rhs; unfold md_comesTo_b16
      obtain ⟨s, v, c, hw, o⟩ := hop k ha (by omega)
      have hfin : (od k).1 = 0 ∨ ((od k).1 = 1 ∧ (od k).2 < 12) ∨ (2 ≤ (od k).1 ∧ (od k).1 ≤ 9) ∨ (od k).1 = 10 ∨ ((od k).1 = 11 ∧ k < (od k).2 ∧ (od k).2 ≤ 200) ∨ ((od k).1 = 12 ∧ k < (od k).2 ∧ (od k).2 ≤ 200) := by
        rcases o with o | o | o | o | o | o | o | o | o | o | o | o | o
        · exact Or.inl o.1
        · exact Or.inr (Or.inl ⟨o.1, o.2.2.2⟩)
        · exact Or.inr (Or.inr (Or.inl (by omega)))
        · exact Or.inr (Or.inr (Or.inl (by omega)))
        · exact Or.inr (Or.inr (Or.inl (by omega)))
        · exact Or.inr (Or.inr (Or.inl (by omega)))
        · exact Or.inr (Or.inr (Or.inl (by omega)))
        · exact Or.inr (Or.inr (Or.inl (by omega)))
        · exact Or.inr (Or.inr (Or.inl (by omega)))
        · exact Or.inr (Or.inr (Or.inl (by omega)))
        · exact Or.inr (Or.inr (Or.inr (Or.inl o.1)))
        · exact Or.inr (Or.inr (Or.inr (Or.inr (Or.inl ⟨o.1, o.2.2.2⟩))))
        · exact Or.inr (Or.inr (Or.inr (Or.inr (Or.inr ⟨o.1, o.2.2.2⟩))))
      clear o
      have hop13 : (od k).1 < 13 := by omega
      rw [if_neg t2, mrd_nI hk2 (by decide), mrd_nI hk2 (by decide), c, code_w hop13 hw, code_op hop13 hw, nI_1] at hb
      have hbin : 2 ≤ (od k).1 ∧ (od k).1 ≤ 9 → ∃ ν', FM ν ν' ∧ RSM res (miter (fun q : Int32 × Int32 × Mm => md_comesTo_b16 q.2.2 (nI e) (nI 0) q.1 q.2.1) (F' + 1) (nI st.length, nI k, ν)) ν' := by
        intro bo
        rw [if_neg (by omega), if_neg (by omega), if_neg (by omega), if_neg (by omega), if_neg (by omega)] at hl
        have d : ∀ j : Nat, j < 13 → (od k).1 ≠ j → ¬ (nI (od k).1 = nI j) := fun j hj hne => nI_ne (by omega) (by omega) hne
        have d0 : ¬ (nI (od k).1 = 0) := d 0 (by decide) (by omega)
        have d1 : ¬ (nI (od k).1 = 1) := d 1 (by decide) (by omega)
        have d10 : ¬ (nI (od k).1 = 10) := d 10 (by decide) (by omega)
        have d11 : ¬ (nI (od k).1 = 11) := d 11 (by decide) (by omega)
        have d12 : ¬ (nI (od k).1 = 12) := d 12 (by decide) (by omega)
        rw [if_neg d0, if_neg d1, if_neg d10, if_neg d11, if_neg d12] at hb
        match st, hS, hlen, hl with
        | [], _, _, hl => cases hl
        | [_], _, _, hl => cases hl
        | y :: x :: r, hS, hlen, hl =>
          have hr : r.length + 2 < 220 := hlen
          have hn2 : r.length + 2 ≤ 64 := hn
          have hl2 : (if ((od k).1 = 5 ∨ (od k).1 = 6) ∧ y = 0 then some none else lev od fc n (k + 1) e (lbin (od k).1 x y :: r)) = some res := hl
          have e2 : nI (y :: x :: r).length - 1 = nI (r.length + 1) := nI_pred _
          have hy : ν 42 (r.length + 1) = y := hS.1
          rw [e2] at hb
          by_cases hz : ((od k).1 = 5 ∨ (od k).1 = 6) ∧ y = 0
          · rw [if_pos hz] at hl2
            cases hl2
            refine ⟨ν, FM_r ν, miter_r ?_⟩
            refine hb.trans ?_
            have hj : md_comesTo_j192 ν (nI e) (nI (r.length + 1)) (nI 0) (nI (k + 1)) (nI (od k).1) = some (.inr (.inl ν)) := by
              unfold md_comesTo_j192
              rw [mrd_nI (by omega) (by decide), hy, if_pos hz.2]
            rw [hj]
            rcases hz.1 with q | q
            · rw [q]; rfl
            · rw [q]; rfl
          · rw [if_neg hz] at hl2
            have hj := m_j203 (a2 := nI e) (a4 := nI 0) (a5 := nI (k + 1)) hS (by omega) bo hz
            have hj2 : md_comesTo_j192 ν (nI e) (nI (r.length + 1)) (nI 0) (nI (k + 1)) (nI (od k).1) = if y = 0 then some (.inr (.inl ν)) else some (.inl (nI (r.length + 1), nI (k + 1), mset ν 42 r.length (lbin (od k).1 x y))) := by
              unfold md_comesTo_j192
              rw [mrd_nI (by omega) (by decide), hy, hj]
            rw [hj, hj2] at hb
            refine go (k + 1) _ (mset ν 42 r.length (lbin (od k).1 x y)) hl2 (by omega) (by omega) (by show r.length + 1 ≤ 64; omega) ⟨mset_s, stk_upd (f := ν 42) hS.2.2 (Nat.le_refl _)⟩ (FM_s _ _ _) (hb.trans ?_)
            by_cases q5 : (od k).1 = 5
            · have hy0 : ¬ (y = 0) := fun q => hz ⟨Or.inl q5, q⟩
              rw [if_neg hy0, q5]; rfl
            · by_cases q6 : (od k).1 = 6
              · have hy0 : ¬ (y = 0) := fun q => hz ⟨Or.inr q6, q⟩
                rw [if_neg hy0, q6]; rfl
              · have d5 : ¬ (nI (od k).1 = 5) := d 5 (by decide) q5
                have d6 : ¬ (nI (od k).1 = 6) := d 6 (by decide) q6
                rw [if_neg d5, if_neg d6]; rfl
      rcases hfin with o | ⟨o, hw2⟩ | o | o | ⟨o, w1, w2⟩ | ⟨o, w1, w2⟩
      · rw [if_pos o] at hl
        rw [o, if_pos (by decide)] at hb
        unfold md_comesTo_j63 at hb
        rw [if_pos (by decide), mwr_nI hlen (by decide), nI_1] at hb
        exact go (k + 1) _ _ hl (by omega) (by omega) (by show st.length + 1 ≤ 64; omega) ⟨mset_s, stk_upd (f := ν 42) hS (Nat.le_refl _)⟩ (FM_s _ _ _) hb
      · rw [if_neg (by rw [o]; decide), if_pos o] at hl
        rw [o, if_neg (by decide), if_pos (by decide)] at hb
        unfold md_comesTo_j63 at hb
        rw [if_neg (by decide), mrd_nI hw2 (by decide), mwr_nI hlen (by decide), nI_1, hfc _ hw2] at hb
        exact go (k + 1) _ _ hl (by omega) (by omega) (by show st.length + 1 ≤ 64; omega) ⟨mset_s, stk_upd (f := ν 42) hS (Nat.le_refl _)⟩ (FM_s _ _ _) hb
      · exact hbin o
      · rw [if_neg (by rw [o]; decide), if_neg (by rw [o]; decide), if_pos o] at hl
        rw [o, if_neg (by decide), if_neg (by decide), if_pos (by decide)] at hb
        match st, hS, hlen, hl with
        | [], _, _, hl => cases hl
        | x :: r, hS, hlen, hl =>
          have hr : r.length + 1 < 220 := hlen
          have hn2 : r.length + 1 ≤ 64 := hn
          have e2 : nI (x :: r).length - 1 = nI r.length := nI_pred _
          have hx : ν 42 r.length = x := hS.1
          rw [e2, mrd_nI (by omega) (by decide), hx, mwr_nI (by omega) (by decide)] at hb
          exact go (k + 1) _ _ hl (by omega) (by omega) (by show r.length + 1 ≤ 64; omega) ⟨mset_s, stk_upd (f := ν 42) hS.2 (Nat.le_refl _)⟩ (FM_s _ _ _) hb
      · rw [if_neg (by rw [o]; decide), if_neg (by rw [o]; decide), if_neg (by rw [o]; decide), if_pos o] at hl
        rw [o, if_neg (by decide), if_neg (by decide), if_neg (by decide), if_pos (by decide)] at hb
        unfold md_comesTo_j135 at hb
        match st, hS, hlen, hl with
        | [], _, _, hl => cases hl
        | x :: r, hS, hlen, hl =>
          have hr : r.length + 1 < 220 := hlen
          have hn2 : r.length + 1 ≤ 64 := hn
          have e2 : nI (x :: r).length - 1 = nI r.length := nI_pred _
          have hx : ν 42 r.length = x := hS.1
          rw [e2, mrd_nI (by omega) (by decide), hx, if_neg (by decide), nI_add, Nat.zero_add] at hb
          have hl2 : (if x = 0 then lev od fc n (od k).2 e (x :: r) else if x = 1 then lev od fc n (k + 1) e r else none) = some res := hl
          by_cases c0 : x = 0
          · rw [if_pos c0] at hl2 hb
            exact go _ _ ν hl2 w1 w2 hn hS (FM_r ν) hb
          · by_cases c1 : x = 1
            · rw [if_neg c0, if_pos c1] at hl2
              rw [if_neg c0] at hb
              exact go _ _ ν hl2 (by omega) (by omega) (by omega) hS.2 (FM_r ν) hb
            · rw [if_neg c0, if_neg c1] at hl2; cases hl2
      · rw [if_neg (by rw [o]; decide), if_neg (by rw [o]; decide), if_neg (by rw [o]; decide), if_neg (by rw [o]; decide), if_pos o] at hl
        rw [o, if_neg (by decide), if_neg (by decide), if_neg (by decide), if_neg (by decide), if_pos (by decide)] at hb
        unfold md_comesTo_j135 at hb
        match st, hS, hlen, hl with
        | [], _, _, hl => cases hl
        | x :: r, hS, hlen, hl =>
          have hr : r.length + 1 < 220 := hlen
          have hn2 : r.length + 1 ≤ 64 := hn
          have e2 : nI (x :: r).length - 1 = nI r.length := nI_pred _
          have hx : ν 42 r.length = x := hS.1
          rw [e2, mrd_nI (by omega) (by decide), hx, if_pos (by decide), nI_add, Nat.zero_add] at hb
          have hl2 : (if x = 1 then lev od fc n (od k).2 e (x :: r) else if x = 0 then lev od fc n (k + 1) e r else none) = some res := hl
          by_cases c1 : x = 1
          · rw [if_pos c1] at hl2 hb
            exact go _ _ ν hl2 w1 w2 hn hS (FM_r ν) hb
          · by_cases c0 : x = 0
            · rw [if_neg c1, if_pos c0] at hl2
              rw [if_neg c1] at hb
              exact go _ _ ν hl2 (by omega) (by omega) (by omega) hS.2 (FM_r ν) hb
            · rw [if_neg c1, if_neg c0] at hl2; cases hl2
