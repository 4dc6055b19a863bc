theorem cn_dn {p p' : Nat → Bool} {b : Nat} (h : ∀ k, k ≠ b → p' k = p k) (h0 : p b = true) (h1 : p' b = false) {n : Nat} (hb : b < n) : cn p n = cn p' n + 1 := cn_up (fun k hk => (h k hk).symm) h1 h0 hb
/-- the counts of books out when one comes from reader r to a place that is no reader's -/
theorem out_dn {B : Nat} {ou pl : Nat → Int32} (h : dOut B ou pl) {b r : Nat} {p : Int32} (hb : b < B) (hr : r < 16) (hold : pl b = nI (10 + r)) (hp : ∀ r', r' < 16 → p ≠ nI (10 + r')) : dOut B (upd ou r (ou r - 1)) (upd pl b p) := by
  intro r' hr'
  by_cases e : r' = r
  · subst e
    rw [upd_s, h r' hr', cn_dn (p := fun q => decide (pl q = nI (10 + r'))) (p' := fun q => decide (upd pl b p q = nI (10 + r'))) (b := b) (fun k hk => by
      show decide (upd pl b p k = _) = _
      rw [upd_n hk]) (by simp [hold]) (by simp [upd_s, hp r' hr']) hb, nI_pred]
  · rw [upd_n e, h r' hr']
    congr 1
    refine cn_cong (fun q hq => ?_)
    by_cases e2 : q = b
    · subst e2
      rw [upd_s, hold]
      have e3 : ¬ (nI (10 + r) = nI (10 + r')) := nI_ne (by omega) (by omega) (by omega)
      simp [e3, hp r' hr']
    · rw [upd_n e2]
theorem out_up {B : Nat} {ou pl : Nat → Int32} (h : dOut B ou pl) {b r : Nat} (hb : b < B) (hr : r < 16) (hold : ∀ r', r' < 16 → pl b ≠ nI (10 + r')) : dOut B (upd ou r (ou r + 1)) (upd pl b (nI (10 + r))) := by
  intro r' hr'
  by_cases e : r' = r
  · subst e
    rw [upd_s, h r' hr', cn_up (p := fun q => decide (pl q = nI (10 + r'))) (p' := fun q => decide (upd pl b (nI (10 + r')) q = nI (10 + r'))) (b := b) (fun k hk => by
      show decide (upd pl b _ k = _) = _
      rw [upd_n hk]) (by simp [hold r' hr']) (by simp [upd_s]) hb, nI_1]
  · rw [upd_n e, h r' hr']
    congr 1
    refine cn_cong (fun q hq => ?_)
    by_cases e2 : q = b
    · subst e2
      rw [upd_s]
      have e3 : ¬ (nI (10 + r) = nI (10 + r')) := nI_ne (by omega) (by omega) (by omega)
      simp [e3, hold r' hr']
    · rw [upd_n e2]
def stX (μ : Mm) (n b r : Nat) (f p : Int32) : Mm := trX (mset (mset (mset μ 31 r (μ 31 r + f)) 29 r (μ 29 r - 1)) 20 b (-1)) n b p
def stM (ν : Mm) (n b r : Nat) (f p : Int32) : Mm := lgM (mset (mset ν 18 r (ν 18 r + f)) 6 b (-1)) n b p
theorem x_settle {μ : Mm} {n b r : Nat} (h : μ 6 4 = nI n) (hn : n < 200) (hb : b < 32) (hr : r < 16) (f p : Int32) : vs_settle μ (nI b) (nI r) f p = some (stX μ n b r f p) := by
  unfold vs_settle
  rw [mrd_nI hr (by decide), mwr_nI hr (by decide), mrd_nI hr (by decide), mwr_nI hr (by decide), mwr_nI hb (by decide)]
  rw [x_transfer (μ := mset (mset (mset μ 31 r (μ 31 r + f)) 29 r (mset μ 31 r (μ 31 r + f) 29 r - 1)) 20 b (-1)) h hn hb, mbv_s]
  rfl
/-- a book comes back, or is lost: it leaves reader r -/
theorem settle_rel {μ ν : Mm} (h : Rel μ ν) {n b r : Nat} {f p : Int32} (hn : n < 200) (hA : ν 0 61 = nI n) (hb : b < nB ν) (hr : r < 16) (hold : ν 5 b = nI (10 + r)) (hp : ∀ r', r' < 16 → p ≠ nI (10 + r')) (hg : gPlace p (nR ν)) : Rel (stX μ n b r f p) (stM ν n b r f p) := by
  have hB := (g_B h.2).2
  obtain ⟨⟨⟨n1, n2, n3, n4, n5, n6, n7, n8, n9⟩, ⟨b1, b2, b3, b4, b5, b6, b7, b8⟩, rs, ⟨r1, r2, r3, r4, r5⟩, rv, ⟨t1, t2, t3, t4⟩, hpv, hhad, hkind, hout, hrest⟩, ⟨⟨g1, g2, g3, g4, g5, g6, g7⟩, gb, grest⟩⟩ := h
  refine ⟨⟨⟨n1, n2, n3, n4, n5, n6, n7, n8, by show μ 6 4 + 1 = ν 0 61 + 1; rw [n9]⟩, ⟨b1, b2, b3, b4, by show upd (μ 19) b _ = upd (ν 5) b _; rw [b5], by show upd (μ 20) b _ = upd (ν 6) b _; rw [b6], b7, b8⟩, rs, ⟨r1, r2, r3, r4, by show upd (μ 31) r (μ 31 r + f) = upd (ν 18) r (ν 18 r + f); rw [r5]⟩, rv, ⟨by show upd (μ 48) n _ = upd (ν 44) n _; rw [t1], by show upd (μ 49) n _ = upd (ν 47) n _; rw [t2], by show upd (μ 50) n (μ 0 12) = upd (ν 45) n (ν 0 0); rw [t3, n1], by show upd (μ 51) n (μ 0 12 + μ 6 5) = upd (ν 46) n (ν 0 0 + ν 0 5); rw [t4, n1, n6]⟩, hpv, hhad, hkind, out_dn hout hb hr hold hp, hrest⟩, ⟨⟨g1, g2, g3, g4, g5, g6, ⟨n + 1, by omega, by show ν 0 61 + 1 = _; rw [hA, nI_1]⟩⟩, ⟨fun b' hb' => ?_, fun b' hb' => ?_⟩, grest⟩⟩
  · obtain ⟨q1, q2, q3, q4, q5, q6, q7⟩ := gb.1 b' hb'
    refine ⟨q1, q2, q3, q4, ?_, ?_, ?_⟩
    · show gPlace (upd (ν 5) b p b') (nR ν)
      by_cases e : b' = b
      · subst e; rw [upd_s]; exact hg
      · rw [upd_n e]; exact q5
    · show gO (upd (ν 6) b (-1) b') 300
      by_cases e : b' = b
      · subst e; rw [upd_s]; exact Or.inl rfl
      · rw [upd_n e]; exact q6
    · show (∃ r : Nat, upd (ν 5) b p b' = nI (10 + r) ∧ r < 16) → gI (upd (ν 6) b (-1) b') 300
      by_cases e : b' = b
      · subst e; rw [upd_s]; intro ⟨r', h1, h2⟩; exact absurd h1 (hp r' h2)
      · rw [upd_n e, upd_n e]; exact q7
  · obtain ⟨q1, q2⟩ := gb.2 b' hb'
    have hb2 : nB ν ≤ b' := hb'
    exact ⟨q1, by show upd (ν 5) b p b' = 0; rw [upd_n (by omega)]; exact q2⟩
theorem m_isOut {ν : Mm} (g : Good ν) (a : Int32) : md_isOut ν a = some (ix a (nB ν) && wi (ν 5 a.toNatClampNeg) 10 25) := by
  have hB := (g_B g).2
  unfold md_isOut
  rw [m_isB g, mbv_s]
  cases h1 : ix a (nB ν)
  · rfl
  obtain ⟨b, hb, rfl⟩ := ix_t h1 (by omega)
  rw [ifT, mrd_nI (by omega) (by decide), in_eq, mbv_s, nI_clamp (by omega)]
  cases wi (ν 5 b) 10 25 <;> rfl
theorem sub20 {k : Nat} : nI (20 + k) - 20 = nI k := by
  have := pk_sub (a := 20 + k) (b := 20) (by omega)
  rw [Nat.add_sub_cancel_left] at this; exact this
theorem sub10 {k : Nat} : nI (10 + k) - 10 = nI k := by
  have := pk_sub (a := 10 + k) (b := 10) (by omega)
  rw [Nat.add_sub_cancel_left] at this; exact this
theorem wi20 {a : Int32} {n : Nat} (hn : n ≤ 10) (h : wi a 20 (nI (19 + n)) = true) : ∃ k, k < n ∧ a = nI (20 + k) := by
  obtain ⟨k, h1, h2, e⟩ := wi_r (lo := 20) (hi := 19 + n) h (by omega) (by decide)
  exact ⟨k - 20, by omega, by rw [e]; congr 1; omega⟩
theorem wi10 {a : Int32} (h : wi a 10 12 = true) : ∃ k, k < 3 ∧ a = nI (10 + k) := by
  obtain ⟨k, h1, h2, e⟩ := wi_r (lo := 10) (hi := 12) h (by decide) (by decide)
  exact ⟨k - 10, by omega, by rw [e]; congr 1; omega⟩
theorem m_allAsks {μ ν : Mm} (rx : RX μ ν) (g : Good ν) : md_allAsks ν = some (μ 5 4) := by
  have hR := g_R g
  unfold md_allAsks md_allAsks_l4
  rw [sum_loop (f := md_allAsks_b4 ν) (n := nR ν) (fun r => nI (cn (fun b => decide (ν 20 (32 * r + b) ≠ -1)) 32)) (by omega) (fun i a hi => by
    unfold md_allAsks_b4
    rw [hR.1, if_neg (nI_ge hi (by omega)), m_asksOf g hi, mbv_s]) (fun a => by
    unfold md_allAsks_b4
    rw [hR.1, if_pos (nI_le (Nat.le_refl _) (by omega))]), mbv_s, ← rx.2.2.2.2.2.2.2.2.2.2.2.2.2.2.1.2]
theorem wi_lo {a lo hi : Int32} (h : a < lo) : wi a lo hi = false := by
  unfold wi; have := i32_nle.mpr h; simp [this]
