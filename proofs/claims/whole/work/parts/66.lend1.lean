def lnX (μ : Mm) (n b r v : Nat) (u : Int32) : Mm := mset (mset (mset (mset (mset (mset (mset (trX μ n b (nI (10 + r))) 20 b u) 21 b (μ 21 b + 1)) 30 r (μ 30 r + 1)) 29 r (μ 29 r + 1)) 13 v (μ 13 v + 1)) 23 b (μ 23 b ||| ((1 : Int32) <<< (nI r &&& 31)))) 28 r (μ 28 r ||| ((1 : Int32) <<< (nI b &&& 31)))
def lnX2 (μ : Mm) (n b r v : Nat) (u : Int32) : Mm := if μ 44 (32 * r + b) = -1 then lnX μ n b r v u else mset (mset (lnX μ n b r v u) 44 (32 * r + b) (-1)) 5 4 (μ 5 4 - 1)
def lnM (ν : Mm) (n b r v s k : Nat) (u : Int32) : Mm := mset (mset (mset (mset (mset (mset (mset (mset (lgM (mset ν 6 b u) n b (nI (10 + r))) 21 (32 * r + b) 1) 20 (32 * r + b) (-1)) 7 b (ν 7 b + 1)) 19 r (ν 19 r + 1)) 26 s (ν 26 s + 1)) 27 k (ν 27 k + 1)) 28 v (ν 28 v + 1)) 0 35 (ν 0 35 + 1)
/-- a book goes out to reader r -/
theorem lend_rel {μ ν : Mm} (h : Rel μ ν) {n b r v s k : Nat} {u : Int32} (hn : n < 200) (hA : ν 0 61 = nI n) (hb : b < nB ν) (hr : r < nR ν) (hv : v < 3) (hold : ∀ r', r' < 16 → ν 5 b ≠ nI (10 + r')) (hs : ν 15 r = nI s) (hs10 : s < 10) (hk : ν 1 b = nI k) (hk8 : k < 8) (hu : gI u 300) : Rel (lnX2 μ n b r v u) (lnM ν n b r v s k u) := by
  have hB := (g_B h.2).2
  have hR := (g_R h.2).2
  have hr16 : r < 16 := by omega
  have hb32 : b < 32 := by omega
  obtain ⟨⟨⟨n1, n2, n3, n4, n5, n6, n7, n8, n9⟩, ⟨b1, b2, b3, b4, b5, b6, b7, b8⟩, rs, ⟨r1, r2, r3, r4, r5⟩, ⟨v1, v2⟩, ⟨t1, t2, t3, t4⟩, hpv, hhad, hkind, hout, hrd, htold, hput, hlost, hask, hrest⟩, ⟨⟨g1, g2, g3, g4, g5, g6, g7⟩, gb, gsh, gst, grd, gas, gha, glo, gpu, ⟨q1, q2, q3⟩⟩⟩ := h
  have hG : Good (lnM ν n b r v s k u) := by
    refine ⟨⟨g1, g2, g3, g4, g5, g6, ⟨n + 1, by omega, by show ν 0 61 + 1 = _; rw [hA, nI_1]⟩⟩, ⟨fun b' hb' => ?_, fun b' hb' => ?_⟩, gsh, gst, ⟨grd.1, fun r' hr' => ?_⟩, gAsk_set gas hr hb hB (Or.inl rfl), gHad_set gha hr hb hB, glo, gpu, ⟨fun s' hs' => ?_, fun k' hk' => ?_, ?_⟩⟩
    · obtain ⟨p1, p2, p3, p4, p5, p6, p7⟩ := gb.1 b' hb'
      refine ⟨p1, p2, p3, p4, ?_, ?_, ?_⟩
      · show gPlace (upd (ν 5) b (nI (10 + r)) b') (nR ν)
        by_cases e : b' = b
        · subst e; rw [upd_s]; exact Or.inr (Or.inl ⟨r, hr, rfl⟩)
        · rw [upd_n e]; exact p5
      · show gO (upd (ν 6) b u b') 300
        by_cases e : b' = b
        · subst e; rw [upd_s]; exact Or.inr hu
        · rw [upd_n e]; exact p6
      · show (∃ r' : Nat, upd (ν 5) b (nI (10 + r)) b' = nI (10 + r') ∧ r' < 16) → gI (upd (ν 6) b u b') 300
        by_cases e : b' = b
        · subst e; rw [upd_s, upd_s]; intro _; exact hu
        · rw [upd_n e, upd_n e]; exact p7
    · obtain ⟨p1, p2⟩ := gb.2 b' hb'
      have hb2 : nB ν ≤ b' := hb'
      exact ⟨by show upd (ν 7) b (ν 7 b + 1) b' = 0; rw [upd_n (by omega)]; exact p1, by show upd (ν 5) b _ b' = 0; rw [upd_n (by omega)]; exact p2⟩
    · have hr2 : nR ν ≤ r' := hr'
      show upd (ν 19) r (ν 19 r + 1) r' = 0
      rw [upd_n (by omega)]; exact grd.2 r' hr'
    · show upd (ν 26) s (ν 26 s + 1) s' = sm (fun q => if ν 15 q = nI s' then upd (ν 19) r (ν 19 r + 1) q else 0) (nR ν)
      rw [sum_up hr hs (by omega) (by omega)]
      by_cases e : s' = s
      · subst e; rw [upd_s, if_pos rfl, q1 s' hs']
      · rw [upd_n e, if_neg e, q1 s' hs']
    · show upd (ν 27) k (ν 27 k + 1) k' = sm (fun q => if ν 1 q = nI k' then upd (ν 7) b (ν 7 b + 1) q else 0) (nB ν)
      rw [sum_up hb hk (by omega) (by omega)]
      by_cases e : k' = k
      · subst e; rw [upd_s, if_pos rfl, q2 k' hk']
      · rw [upd_n e, if_neg e, q2 k' hk']
    · show ν 0 35 + 1 = upd (ν 28) v (ν 28 v + 1) 0 + upd (ν 28) v (ν 28 v + 1) 1 + upd (ν 28) v (ν 28 v + 1) 2
      rw [q3]
      rcases (show v = 0 ∨ v = 1 ∨ v = 2 by omega) with rfl | rfl | rfl
      · rw [upd_s, upd_n (by decide), upd_n (by decide), Int32.add_assoc, Int32.add_assoc, Int32.add_assoc, Int32.add_assoc]
        congr 1
        rw [Int32.add_comm 1, Int32.add_assoc]
      · rw [upd_s, upd_n (by decide), upd_n (by decide), Int32.add_assoc, Int32.add_assoc, Int32.add_assoc, Int32.add_assoc]
        congr 1
        congr 1
        rw [Int32.add_comm 1]
      · rw [upd_s, upd_n (by decide), upd_n (by decide), Int32.add_assoc]
  have e44 : μ 44 (32 * r + b) = ν 20 (32 * r + b) := by rw [hask.1 r hr16 b hb32, if_pos hr]
  refine ⟨?_, hG⟩
  unfold lnX2
  have num : ∀ y : Mm, y 0 = μ 0 → y 2 = μ 2 → y 4 = μ 4 → y 3 = μ 3 → y 8 = μ 8 → y 6 5 = μ 6 5 → y 1 = μ 1 → y 6 4 = μ 6 4 + 1 → rNum y (lnM ν n b r v s k u) := by
    intro y y0 y2 y4 y3 y8 y65 y1 y64
    unfold rNum
    rw [y0, y2, y4, y3, y8, y65, y1, y64]
    exact ⟨n1, n2, n3, n4, n5, n6, n7, n8, by show μ 6 4 + 1 = ν 0 61 + 1; rw [n9]⟩
  have boo : rBook (lnX μ n b r v u) (lnM ν n b r v s k u) := ⟨b1, b2, b3, b4, by show upd (μ 19) b _ = upd (ν 5) b _; rw [b5], by show upd (μ 20) b _ = upd (ν 6) b _; rw [b6], by show upd (μ 21) b (μ 21 b + 1) = upd (ν 7) b (ν 7 b + 1); rw [b7], b8⟩
  have rea : rRead (lnX μ n b r v u) (lnM ν n b r v s k u) := ⟨r1, r2, r3, by show upd (μ 30) r (μ 30 r + 1) = upd (ν 19) r (ν 19 r + 1); rw [r4], r5⟩
  have van : rVan (lnX μ n b r v u) (lnM ν n b r v s k u) := ⟨v1, by show upd (μ 13) v (μ 13 v + 1) = upd (ν 28) v (ν 28 v + 1); rw [v2]⟩
  have act : rAct (lnX μ n b r v u) (lnM ν n b r v s k u) := ⟨by show upd (μ 48) n _ = upd (ν 44) n _; rw [t1], by show upd (μ 49) n _ = upd (ν 47) n _; rw [t2], by show upd (μ 50) n (μ 0 12) = upd (ν 45) n (ν 0 0); rw [t3, n1], by show upd (μ 51) n (μ 0 12 + μ 6 5) = upd (ν 46) n (ν 0 0 + ν 0 5); rw [t4, n1, n6]⟩
  by_cases c : μ 44 (32 * r + b) = -1
  · rw [if_pos c]
    have e20 : upd (ν 20) (32 * r + b) (-1) = ν 20 := by
      have := upd_self (ν 20) (32 * r + b)
      rw [← e44, c] at this
      exact this
    refine ⟨num _ rfl rfl rfl rfl rfl rfl rfl rfl, boo, rs, rea, van, act, hpv, dHad_set hhad hr16 hb32, hkind, out_up hout hb hr16 hold, hrd, htold, hput, hlost, ?_, hrest⟩
    show dAsk (nR ν) (μ 44) (upd (ν 20) (32 * r + b) (-1)) (μ 5 4)
    rw [e20]; exact hask
  · rw [if_neg c]
    exact ⟨num _ rfl rfl rfl rfl rfl rfl rfl rfl, boo, rs, rea, van, act, hpv, dHad_set hhad hr16 hb32, hkind, out_up hout hb hr16 hold, hrd, htold, hput, hlost, dAsk_off hask hr hR hb32 (by rw [← e44]; exact c), hrest⟩
