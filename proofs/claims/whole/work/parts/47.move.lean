def trX (μ : Mm) (n b : Nat) (p : Int32) : Mm := mset (mset (mset (mset (mset (mset μ 19 b p) 48 n (nI b)) 49 n p) 50 n (μ 0 12)) 51 n (μ 0 12 + μ 6 5)) 6 4 (μ 6 4 + 1)
def lgM (ν : Mm) (n b : Nat) (p : Int32) : Mm := mset (mset (mset (mset (mset (mset ν 44 n (nI b)) 45 n (ν 0 0)) 46 n (ν 0 0 + ν 0 5)) 47 n p) 0 61 (ν 0 61 + 1)) 5 b p
theorem x_isFull {μ : Mm} {n : Nat} (h : μ 6 4 = nI n) (hn : n ≤ 200) : vs_Acts_isFull μ = some (decide (n = 200)) := by
  unfold vs_Acts_isFull
  rw [h]
  by_cases e : n = 200
  · subst e; rfl
  · rw [if_pos (by exact nI_lt (b := 200) (by omega) (by decide))]; simp [e]
theorem x_transfer {μ : Mm} {n b : Nat} (h : μ 6 4 = nI n) (hn : n < 200) (hb : b < 32) (p : Int32) : vs_transfer μ (nI b) p = some (trX μ n b p) := by
  unfold vs_transfer
  rw [mwr_nI hb (by decide)]
  have : vs_Acts_add (mset μ 19 b p) (nI b) p (mset μ 19 b p 0 12) = some (trX μ n b p) := by
    unfold vs_Acts_add
    have hf : vs_Acts_isFull (mset μ 19 b p) = some false := by
      rw [x_isFull (μ := mset μ 19 b p) (n := n) h (by omega)]
      have : ¬ n = 200 := by omega
      simp [this]
    rw [hf, mbv_s, ifF]
    refine (mwr_at h hn (by decide)).trans ?_
    refine (mwr_at h hn (by decide)).trans ?_
    refine (mwr_at h hn (by decide)).trans ?_
    refine (mwr_at h hn (by decide)).trans ?_
    rfl
  rw [this, mbv_s]
theorem m_logs {ν : Mm} {n b : Nat} (h : ν 0 61 = nI n) (hn : n < 200) (hb : b < 32) (p : Int32) : md_logs ν (nI b) p = some (lgM ν n b p) := by
  unfold md_logs
  refine (mwr_at h hn (by decide)).trans ?_
  refine (mwr_at h hn (by decide)).trans ?_
  refine (mwr_at h hn (by decide)).trans ?_
  refine (mwr_at h hn (by decide)).trans ?_
  rw [mst_s]
  exact mwr_nI hb (by decide)
section
variable {μ ν : Mm}
def fitV (ν : Mm) (b v : Nat) : Bool := !decide (ν 9 v < lenV ν v + ν 2 b)
theorem x_fits (rx : RX μ ν) (g : Good ν) {b v : Nat} (hb : b < 32) (hv : v < 3) : vs_fits μ (nI b) (nI v) = some (fitV ν b v) := by
  unfold vs_fits
  rw [x_lengthOn rx g hv, mbv_s, mrd_nI hb (by decide), mrd_nI hv (by decide), rx.2.2.2.2.1.1 v hv, rx.2.1.2.1]
  unfold fitV
  split <;> simp_all
theorem m_fits (g : Good ν) {b v : Nat} (hb : b < 32) (hv : v < 3) : md_fits ν (nI b) (nI v) = some (fitV ν b v) := by
  unfold md_fits
  rw [m_lengthOn g hv, mbv_s, mrd_nI hb (by decide), mrd_nI hv (by decide)]
  unfold fitV
  split <;> simp_all
theorem g_A (g : Good ν) : ∃ n, n ≤ 200 ∧ ν 0 61 = nI n := g.1.2.2.2.2.2.2
theorem x_A (rx : RX μ ν) : μ 6 4 = ν 0 61 := rx.1.2.2.2.2.2.2.2.2
end
theorem place_out {p : Int32} {R : Nat} (h : gPlace p R) (hw : wi p 10 25 = true) (hR : R ≤ 16) : ∃ r, r < R ∧ p = nI (10 + r) := by
  obtain ⟨k, h1, h2, e⟩ := wi_r (lo := 10) (hi := 25) hw (by decide) (by decide)
  rcases h with ⟨j, hj, e2⟩ | ⟨r, hr, e2⟩ | e2
  · rw [e] at e2; have := (nI_eq (by omega) (by omega)).mp e2; omega
  · exact ⟨r, hr, e2⟩
  · rw [e] at e2; have := (nI_eq (by omega) (by omega)).mp e2; omega
theorem place_in {p : Int32} {R : Nat} (h : gPlace p R) (hR : R ≤ 16) (hw : ¬ (10 ≤ p)) : gI p 3 := by
  rcases h with h | ⟨r, hr, e2⟩ | e2
  · exact h
  · subst e2; exact absurd (nI_le (a := 10) (b := 10 + r) (by omega) (by omega)) hw
  · subst e2; exact absurd (nI_le (a := 10) (b := 40) (by omega) (by omega)) hw
/-- a book goes from a place that is no reader's to such a one -/
theorem move_rel {μ ν : Mm} (h : Rel μ ν) {n b k : Nat} (hn : n < 200) (hA : ν 0 61 = nI n) (hb : b < nB ν) (hk : k ≤ 3) (hold : gI (ν 5 b) 3) : Rel (trX μ n b (nI k)) (lgM ν n b (nI k)) := by
  have hB := (g_B h.2).2
  obtain ⟨⟨⟨n1, n2, n3, n4, n5, n6, n7, n8, n9⟩, ⟨b1, b2, b3, b4, b5, b6, b7, b8⟩, rs, rr, rv, ⟨t1, t2, t3, t4⟩, hpv, hhad, hkind, hout, hrest⟩, ⟨⟨g1, g2, g3, g4, g5, g6, g7⟩, gb, grest⟩⟩ := h
  have hne : ∀ (x : Int32) (r : Nat), gI x 3 → ¬ (x = nI (10 + r) ∧ r < 16) := fun x r ⟨j, hj, e⟩ ⟨e2, hr⟩ => by
    rw [e] at e2; have := (nI_eq (by omega) (by omega)).mp e2; omega
  refine ⟨⟨⟨n1, n2, n3, n4, n5, n6, n7, n8, by show μ 6 4 + 1 = ν 0 61 + 1; rw [n9]⟩, ⟨b1, b2, b3, b4, by show upd (μ 19) b _ = upd (ν 5) b _; rw [b5], b6, b7, b8⟩, rs, rr, rv, ⟨by show upd (μ 48) n _ = upd (ν 44) n _; rw [t1], by show upd (μ 49) n _ = upd (ν 47) n _; rw [t2], by show upd (μ 50) n (μ 0 12) = upd (ν 45) n (ν 0 0); rw [t3, n1], by show upd (μ 51) n (μ 0 12 + μ 6 5) = upd (ν 46) n (ν 0 0 + ν 0 5); rw [t4, n1, n6]⟩, hpv, hhad, hkind, fun r hr => ?_, hrest⟩, ⟨⟨g1, g2, g3, g4, g5, g6, ⟨n + 1, by omega, by show ν 0 61 + 1 = _; rw [hA, nI_1]⟩⟩, ⟨fun b' hb' => ?_, fun b' hb' => ?_⟩, grest⟩⟩
  · show μ 29 r = nI (cn (fun q => decide (upd (ν 5) b (nI k) q = nI (10 + r))) (nB ν))
    rw [hout r hr]
    congr 1
    refine cn_cong (fun q hq => ?_)
    by_cases e : q = b
    · subst e
      rw [upd_s]
      have e1 : ¬ (ν 5 q = nI (10 + r)) := fun z => hne _ r hold ⟨z, hr⟩
      have e2 : ¬ (nI k = nI (10 + r)) := fun z => hne _ r ⟨k, hk, rfl⟩ ⟨z, hr⟩
      simp [e1, e2]
    · rw [upd_n e]
  · obtain ⟨q1, q2, q3, q4, q5, q6, q7⟩ := gb.1 b' hb'
    refine ⟨q1, q2, q3, q4, ?_, q6, ?_⟩
    · show gPlace (upd (ν 5) b (nI k) b') (nR ν)
      by_cases e : b' = b
      · subst e; rw [upd_s]; exact Or.inl ⟨k, hk, rfl⟩
      · rw [upd_n e]; exact q5
    · show (∃ r : Nat, upd (ν 5) b (nI k) b' = nI (10 + r) ∧ r < 16) → gI (ν 6 b') 300
      by_cases e : b' = b
      · subst e; rw [upd_s]; intro ⟨r, h1, h2⟩; exact absurd ⟨h1, h2⟩ (hne _ r ⟨k, hk, rfl⟩)
      · rw [upd_n e]; exact q7
  · obtain ⟨q1, q2⟩ := gb.2 b' hb'
    have hb2 : nB ν ≤ b' := hb'
    exact ⟨q1, by show upd (ν 5) b (nI k) b' = 0; rw [upd_n (by omega)]; exact q2⟩
theorem st_move : ST_move Rel := by
  intro μ ν a1 a2 h
  unfold vs_move md_move
  simp only [x_hasB h.1 h.2, m_isB h.2, x_isVan, m_isVan, mbv_s]
  have hB := (g_B h.2).2
  have hR := (g_R h.2).2
  cases h1 : ix a1 (nB ν)
  · exact ⟨false, μ, ν, rfl, rfl, h⟩
  obtain ⟨b, hb, rfl⟩ := ix_t h1 (by omega)
  have hb32 : b < 32 := by omega
  obtain ⟨n, hn, hA⟩ := g_A h.2
  have xA : μ 6 4 = nI n := (x_A h.1).trans hA
  have e19 : μ 19 = ν 5 := h.1.2.1.2.2.2.2.1
  have gp := (h.2.2.1.1 b hb).2.2.2.2.1
  simp only [ifT]
  -- behind the tests of the place
  have key : ∀ (k : Nat), k ≤ 3 → (a2 = -1 → k = 0) → (a2 ≠ -1 → ∃ v, v < 3 ∧ a2 = nI v ∧ k = 1 + v) → 1 + a2 = nI k → ∃ v u w, vs_move_j23 μ (nI b) a2 = some (v, u) ∧ md_move_j20 ν (nI b) a2 = some (v, w) ∧ Rel u w := by
    intro k hk hk0 hk1 ek
    unfold vs_move_j23 md_move_j20
    rw [x_isFull xA hn, mbv_s, mrd_nI hb32 (by decide), mrd_nI hb32 (by decide), ek]
    have ey : (if a2 = -1 then vs_move_j47 μ (nI b) a2 0 else vs_move_j47 μ (nI b) a2 (nI k)) = vs_move_j47 μ (nI b) a2 (nI k) := by
      by_cases e : a2 = -1
      · rw [if_pos e, hk0 e]; rfl
      · rw [if_neg e]
    rw [ey]
    by_cases hf : n = 200
    · -- full
      simp only [hf, decide_true, ifT]
      refine ⟨false, μ, ν, rfl, ?_, h⟩
      have e61 : ν 0 61 = 200 := by rw [hA, hf]; rfl
      rw [if_pos e61]
      split
      · rfl
      · split
        · rfl
        · split
          · rfl
          · rename_i q1 q2 q3
            obtain ⟨v, hv, rfl, -⟩ := hk1 q3
            rw [m_fits h.2 hb32 hv, mbv_s]
            split <;> rfl
    · simp only [hf, decide_false, ifF]
      unfold vs_move_j47
      rw [mrd_nI hb32 (by decide), e19]
      have e61 : ¬ (ν 0 61 = 200) := by rw [hA]; exact nI_ne (b := 200) (by omega) (by decide) hf
      by_cases c1 : 10 ≤ ν 5 b
      · simp only [if_pos c1]; exact ⟨false, μ, ν, rfl, rfl, h⟩
      simp only [if_neg c1]
      by_cases c2 : ν 5 b = nI k
      · simp only [if_pos c2]; exact ⟨false, μ, ν, rfl, rfl, h⟩
      simp only [if_neg c2]
      rw [x_transfer xA (by omega) hb32, mbv_s, m_logs hA (by omega) hb32, mbv_s, if_neg e61]
      have hrel := move_rel h (n := n) (by omega) hA hb hk (place_in gp hR c1)
      by_cases c3 : a2 = -1
      · simp only [if_pos c3]; exact ⟨true, _, _, rfl, rfl, hrel⟩
      simp only [if_neg c3]
      obtain ⟨v, hv, e2, -⟩ := hk1 c3
      rw [e2, x_fits h.1 h.2 hb32 hv, m_fits h.2 hb32 hv, mbv_s, mbv_s]
      cases fitV ν b v
      · exact ⟨false, μ, ν, rfl, rfl, h⟩
      · exact ⟨true, _, _, rfl, rfl, hrel⟩
  by_cases ha : a2 = -1
  · rw [if_pos ha, if_pos ha]
    exact key 0 (by decide) (fun _ => rfl) (fun q => absurd ha q) (by rw [ha]; rfl)
  · rw [if_neg ha, if_neg ha]
    cases h2 : ix a2 3
    · exact ⟨false, μ, ν, rfl, rfl, h⟩
    simp only [ifT]
    obtain ⟨v, hv, e2⟩ := ix_t h2 (by decide)
    exact key (1 + v) (by omega) (fun q => absurd q ha) (fun _ => ⟨v, hv, e2, rfl⟩) (by rw [e2]; exact nI_add 1 v)
