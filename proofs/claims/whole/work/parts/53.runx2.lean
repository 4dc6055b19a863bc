def RSX (res : Option (List Int32)) (μ : Mm) : Prop := match res with
  | none => μ 10 10 = 1
  | some st => SX μ st
theorem x_run_loop {od : Nat → Nat × Nat} {fc : Nat → Int32} {cd : Nat → Int32} {e a : Nat} (he : e ≤ 200) : ∀ (n k t : Nat) (st : List Int32) (μ : Mm) (F : Nat) (res : Option (List Int32)), lev od fc n k e st = some res → a ≤ k → k ≤ 200 → t + e ≤ k + 200 → n < F → SX μ st → (∀ k, a ≤ k → k < e → opOk k (μ 63 k) (μ 64 k) (cd k) (od k)) → (∀ w, w < 12 → μ 52 (lch w) = fc w) → ∃ μ', miter (fun q : Int32 × Int32 × Mm => vs_Law_run_b16 q.2.2 (nI e) q.1 q.2.1) F (nI k, nI t, μ) = some μ' ∧ FX μ μ' ∧ RSX res μ' := by
  intro n
  induction n with
  | zero => intro k t st μ F res h; simp [lev] at h
  | succ n ih =>
    intro k t st μ F res hl ha hk ht hF hS hop hfc
    obtain ⟨F', rfl⟩ : ∃ F', F = F' + 1 := ⟨F - 1, by omega⟩
    unfold lev at hl
    by_cases hke : e ≤ k
    · rw [if_pos hke] at hl
      cases hl
      refine ⟨μ, miter_r ?_, FX_r μ, hS⟩
      show vs_Law_run_b16 μ (nI e) (nI k) (nI t) = _
      unfold vs_Law_run_b16
      rw [if_pos (nI_le hke (by omega))]
      split <;> rfl
    · rw [if_neg hke] at hl
      have hk2 : k < 200 := by omega
      have ht2 : t < 200 := by omega
      have t1 : ¬ ((200 : Int32) ≤ nI t) := nI_ge (b := 200) ht2 (by decide)
      have t2 : ¬ (nI e ≤ nI k) := nI_ge (by omega) (by omega)
      by_cases h64 : 64 ≤ st.length
      · rw [if_pos h64] at hl; cases hl
      rw [if_neg h64] at hl
      have hlen : st.length < 64 := by omega
      have go : ∀ (k' : Nat) (st1 : List Int32) (μ1 : Mm), lev od fc n k' e st1 = some res → k < k' → k' ≤ 200 → SX μ1 st1 → FX μ μ1 → vs_Law_run_b16 μ (nI e) (nI k) (nI t) = some (.inl (nI k', nI t + 1, μ1)) → ∃ μ', miter (fun q : Int32 × Int32 × Mm => vs_Law_run_b16 q.2.2 (nI e) q.1 q.2.1) (F' + 1) (nI k, nI t, μ) = some μ' ∧ FX μ μ' ∧ RSX res μ' := by
        intro k' st1 μ1 h1 h2 h3 h4 h5 h6
        have e63 := h5.1 63 (by decide) (by decide)
        have e64 := h5.1 64 (by decide) (by decide)
        have e52 := h5.1 52 (by decide) (by decide)
        obtain ⟨μ', g1, g2, g3⟩ := ih k' (t + 1) st1 μ1 F' res h1 (by omega) h3 (by omega) (by omega) h4 (by rw [e63, e64]; exact hop) (by rw [e52]; exact hfc)
        refine ⟨μ', miter_l (q' := (nI k', nI (t + 1), μ1)) ?_ g1, FX_t h5 g2, g3⟩
        show vs_Law_run_b16 μ (nI e) (nI k) (nI t) = _
        rw [h6, nI_1]
      have hb : vs_Law_run_b16 μ (nI e) (nI k) (nI t) = vs_Law_run_b16 μ (nI e) (nI k) (nI t) := rfl
      conv at hb => rhs; unfold vs_Law_run_b16
      rw [if_neg t1, if_neg t2, if_pos hS.1, mrd_nI hk2 (by decide)] at hb
      obtain ⟨-, -, o⟩ := hop k ha (by omega)
      have hbin : binOk (od k).1 (μ 63 k) → ∃ μ', miter (fun q : Int32 × Int32 × Mm => vs_Law_run_b16 q.2.2 (nI e) q.1 q.2.1) (F' + 1) (nI k, nI t, μ) = some μ' ∧ FX μ μ' ∧ RSX res μ' := by
        intro bo
        obtain ⟨o1, o2, o3, o4, o5⟩ := binOk_o bo
        obtain ⟨s1, s2, s3, s4, s5⟩ := binOk_s bo
        rw [if_neg o1, if_neg o2, if_neg o3, if_neg o4, if_neg o5] at hl
        rw [if_neg s1, if_neg s2, if_neg s3, if_neg s4, if_neg s5] at hb
        match st, hS, hlen, hl with
        | [], _, _, hl => cases hl
        | [_], _, _, hl => cases hl
        | y :: x :: r, hS, hlen, hl =>
          have hr : r.length + 2 < 64 := hlen
          obtain ⟨μ1, p1, p2, p3⟩ := x_pop hS
          obtain ⟨μ2, q1, q2, q3⟩ := x_pop p2
          have e63 := p3.1 63 (by decide) (by decide)
          simp only [p1, mbm] at hb
          rw [mrd_nI hk2 (by decide), e63] at hb
          simp only [q1, mbm] at hb
          have hl2 : (if ((od k).1 = 5 ∨ (od k).1 = 6) ∧ y = 0 then some none else lev od fc n (k + 1) e (lbin (od k).1 x y :: r)) = some res := hl
          by_cases hz : ((od k).1 = 5 ∨ (od k).1 = 6) ∧ y = 0
          · rw [if_pos hz] at hl2
            cases hl2
            rw [x_reckon0 bo hz] at hb
            have hp : ∃ μ3, vs_Law_push (mset μ2 10 10 1) 0 = some μ3 ∧ μ3 10 10 = 1 ∧ FX μ2 μ3 := by
              unfold vs_Law_push
              have e9 : mset μ2 10 10 1 10 9 = nI r.length := by rw [mset_n (by decide)]; exact q2.2.1
              rw [e9, if_pos (by exact nI_lt (b := 64) (by omega) (by decide)), mwr_nI (by omega) (by decide)]
              refine ⟨_, rfl, ?_, FX_10 (Or.inl rfl) (FX_69 (FX_10 (Or.inr rfl) (FX_r μ2)))⟩
              rw [mset_n (by decide), mset_o (by decide), mset_s]
            obtain ⟨μ3, w1, w2, w3⟩ := hp
            simp only [w1, mbv_s] at hb
            obtain ⟨F2, rfl⟩ : ∃ F2, F' = F2 + 1 := ⟨F' - 1, by omega⟩
            refine ⟨μ3, miter_l hb (miter_r ?_), FX_t p3 (FX_t q3 w3), w2⟩
            show vs_Law_run_b16 μ3 (nI e) (nI k + 1) (nI t + 1) = _
            unfold vs_Law_run_b16
            have : ¬ (μ3 10 10 = 0) := by rw [w2]; decide
            rw [if_neg this]
            split
            · rfl
            · split <;> rfl
          · rw [if_neg hz] at hl2
            rw [x_reckon bo hz] at hb
            obtain ⟨μ3, w1, w2, w3⟩ := x_push q2 (by omega) (lbin (od k).1 x y)
            simp only [w1, mbv_s] at hb
            refine go (k + 1) _ μ3 hl2 (by omega) (by omega) w2 (FX_t p3 (FX_t q3 w3)) ?_
            rw [hb, nI_1]
      rcases o with ⟨o, s, v⟩ | ⟨o, s, v, hw⟩ | b | b | b | b | b | b | b | b | ⟨o, s⟩ | ⟨o, s, v, w1, w2⟩ | ⟨o, s, v, w1, w2⟩
      · rw [if_pos o] at hl
        rw [s, if_pos rfl, mrd_nI hk2 (by decide), v] at hb
        obtain ⟨μ1, p1, p2, p3⟩ := x_push hS hlen (nI (od k).2)
        simp only [p1, mbv_s] at hb
        exact go (k + 1) _ μ1 hl (by omega) (by omega) p2 p3 (by rw [hb, nI_1])
      · rw [o, if_neg (by decide), if_pos rfl] at hl
        rw [s, if_neg (by decide), if_pos rfl, mrd_nI hk2 (by decide), v, mrd_nI (lch_lt _) (by decide), hfc _ hw] at hb
        obtain ⟨μ1, p1, p2, p3⟩ := x_push hS hlen (fc (od k).2)
        simp only [p1, mbv_s] at hb
        exact go (k + 1) _ μ1 hl (by omega) (by omega) p2 p3 (by rw [hb, nI_1])
      · exact hbin (Or.inl b)
      · exact hbin (Or.inr (Or.inl b))
      · exact hbin (Or.inr (Or.inr (Or.inl b)))
      · exact hbin (Or.inr (Or.inr (Or.inr (Or.inl b))))
      · exact hbin (Or.inr (Or.inr (Or.inr (Or.inr (Or.inl b)))))
      · exact hbin (Or.inr (Or.inr (Or.inr (Or.inr (Or.inr (Or.inl b))))))
      · exact hbin (Or.inr (Or.inr (Or.inr (Or.inr (Or.inr (Or.inr (Or.inl b)))))))
      · exact hbin (Or.inr (Or.inr (Or.inr (Or.inr (Or.inr (Or.inr (Or.inr b)))))))
      · rw [if_neg (by rw [o]; decide), if_neg (by rw [o]; decide), if_pos o] at hl
        rw [s, if_neg (by decide), if_neg (by decide), if_pos rfl] at hb
        match st, hS, hlen, hl with
        | [], _, _, hl => cases hl
        | x :: r, hS, hlen, hl =>
          have hr : r.length + 1 < 64 := hlen
          obtain ⟨μ1, p1, p2, p3⟩ := x_pop hS
          obtain ⟨μ2, q1, q2, q3⟩ := x_push p2 (by omega) (1 - x)
          simp only [p1, mbm, q1, mbv_s] at hb
          exact go (k + 1) _ μ2 hl (by omega) (by omega) q2 (FX_t p3 q3) (by rw [hb, nI_1])
      · rw [if_neg (by rw [o]; decide), if_neg (by rw [o]; decide), if_neg (by rw [o]; decide), if_pos o] at hl
        rw [s, if_neg (by decide), if_neg (by decide), if_neg (by decide), if_pos rfl] at hb
        match st, hS, hlen, hl with
        | [], _, _, hl => cases hl
        | x :: r, hS, hlen, hl =>
          have hl2 : (if x = 0 then lev od fc n (od k).2 e (x :: r) else if x = 1 then lev od fc n (k + 1) e r else none) = some res := hl
          have hx : x = 0 ∨ x = 1 := by
            by_cases c : x = 0
            · exact Or.inl c
            · by_cases c1 : x = 1
              · exact Or.inr c1
              · rw [if_neg c, if_neg c1] at hl2; cases hl2
          obtain ⟨μ1, p1, p⟩ := x_jump hS hk2 v 0 (Or.inl rfl) hx
          rcases p with ⟨c, p2, p3⟩ | ⟨c, p2, p3⟩
          · rw [if_pos c] at hl2
            simp only [p3, mbm] at hb
            exact go _ _ μ1 hl2 w1 w2 p2 p1 hb
          · rw [if_neg c, if_pos (hx.resolve_left c)] at hl2
            simp only [p3, mbm] at hb
            exact go (k + 1) _ μ1 hl2 (by omega) (by omega) p2 p1 (by rw [hb, nI_1])
      · rw [if_neg (by rw [o]; decide), if_neg (by rw [o]; decide), if_neg (by rw [o]; decide), if_neg (by rw [o]; decide), if_pos o] at hl
        rw [s, if_neg (by decide), if_neg (by decide), if_neg (by decide), if_neg (by decide), if_pos rfl] at hb
        match st, hS, hlen, hl with
        | [], _, _, hl => cases hl
        | x :: r, hS, hlen, hl =>
          have hl2 : (if x = 1 then lev od fc n (od k).2 e (x :: r) else if x = 0 then lev od fc n (k + 1) e r else none) = some res := hl
          have hx : x = 0 ∨ x = 1 := by
            by_cases c : x = 1
            · exact Or.inr c
            · by_cases c1 : x = 0
              · exact Or.inl c1
              · rw [if_neg c, if_neg c1] at hl2; cases hl2
          obtain ⟨μ1, p1, p⟩ := x_jump hS hk2 v 1 (Or.inr rfl) hx
          rcases p with ⟨c, p2, p3⟩ | ⟨c, p2, p3⟩
          · rw [if_pos c] at hl2
            simp only [p3, mbm] at hb
            exact go _ _ μ1 hl2 w1 w2 p2 p1 hb
          · rw [if_neg c, if_pos (hx.resolve_right c)] at hl2
            simp only [p3, mbm] at hb
            exact go (k + 1) _ μ1 hl2 (by omega) (by omega) p2 p1 (by rw [hb, nI_1])
