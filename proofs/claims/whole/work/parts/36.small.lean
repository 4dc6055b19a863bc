theorem sm_cong {f g : Nat → Int32} : ∀ {n : Nat}, (∀ k, k < n → f k = g k) → sm f n = sm g n
  | 0, _ => rfl
  | n + 1, h => by simp only [sm]; rw [sm_cong (fun k hk => h k (by omega)), h n (by omega)]
theorem cn_cong {f g : Nat → Bool} : ∀ {n : Nat}, (∀ k, k < n → f k = g k) → cn f n = cn g n
  | 0, _ => rfl
  | n + 1, h => by simp only [cn]; rw [cn_cong (fun k hk => h k (by omega)), h n (by omega)]
theorem cn_le (p : Nat → Bool) : ∀ n, cn p n ≤ n
  | 0 => Nat.le_refl 0
  | n + 1 => by have := cn_le p n; have := Bool.toNat_le (p n); simp only [cn]; omega
theorem ifF {α : Type} (a b : α) : (if bI false = 0 then a else b) = a := rfl
theorem ifT {α : Type} (a b : α) : (if bI true = 0 then a else b) = b := rfl
section
variable {μ ν : Mm}
theorem g_T (g : Good ν) : ν 0 0 = nI (nT ν) ∧ nT ν ≤ 199 := gI_n g.1.1 (by decide)
theorem g_B (g : Good ν) : ν 0 1 = nI (nB ν) ∧ nB ν ≤ 32 := gI_n g.1.2.1 (by decide)
theorem g_S (g : Good ν) : ν 0 2 = nI (nS ν) ∧ nS ν ≤ 10 := gI_n g.1.2.2.1 (by decide)
theorem g_R (g : Good ν) : ν 0 3 = nI (nR ν) ∧ nR ν ≤ 16 := gI_n g.1.2.2.2.1 (by decide)
theorem x_T (r : RX μ ν) : μ 0 12 = ν 0 0 := r.1.1
theorem x_B (r : RX μ ν) : μ 2 10 = ν 0 1 := r.1.2.1
theorem x_S (r : RX μ ν) : μ 4 12 = ν 0 2 := r.1.2.2.1
theorem x_R (r : RX μ ν) : μ 3 7 = ν 0 3 := r.1.2.2.2.1
theorem x_hasB (r : RX μ ν) (g : Good ν) (a : Int32) : vs_Books_has μ a = some (ix a (nB ν)) := by
  unfold vs_Books_has
  rw [within_eq, x_B r, (g_B g).1, mbv_s, ix_wi (by have := (g_B g).2; omega)]
theorem x_hasS (r : RX μ ν) (g : Good ν) (a : Int32) : vs_Stops_has μ a = some (ix a (nS ν)) := by
  unfold vs_Stops_has
  rw [within_eq, x_S r, (g_S g).1, mbv_s, ix_wi (by have := (g_S g).2; omega)]
theorem x_hasR (r : RX μ ν) (g : Good ν) (a : Int32) : vs_Readers_has μ a = some (ix a (nR ν)) := by
  unfold vs_Readers_has
  rw [within_eq, x_R r, (g_R g).1, mbv_s, ix_wi (by have := (g_R g).2; omega)]
theorem m_isB (g : Good ν) (a : Int32) : md_isBook ν a = some (ix a (nB ν)) := isX_eq (g_B g).1 (by have := (g_B g).2; omega)
theorem m_isS (g : Good ν) (a : Int32) : md_isStop ν a = some (ix a (nS ν)) := isX_eq (g_S g).1 (by have := (g_S g).2; omega)
theorem m_isR (g : Good ν) (a : Int32) : md_isReader ν a = some (ix a (nR ν)) := isX_eq (g_R g).1 (by have := (g_R g).2; omega)
theorem x_pair (r : RX μ ν) (g : Good ν) (a b : Int32) : vs_isPair μ a b = some (ix a (nR ν) && ix b (nB ν)) := by
  unfold vs_isPair
  rw [x_hasR r g, mbv_s, x_hasB r g]
  cases ix a (nR ν) <;> cases ix b (nB ν) <;> rfl
end
theorem x_isVan (a : Int32) : vs_isVan a = some (ix a 3) := by
  unfold vs_isVan
  rw [within_eq, mbv_s, ix_wi2 (n := 3) 2 rfl]
theorem m_isVan (a : Int32) : md_isVan a = some (ix a 3) := isX_eq (m := 3) (n := 3) rfl (by decide)
theorem x_isDay (a : Int32) : vs_isDay a = some (ix a 200) := by
  unfold vs_isDay
  rw [within_eq, mbv_s, ix_wi2 (n := 200) 199 rfl]
theorem m_isDay (a : Int32) : md_isDay a = some (ix a 200) := by
  have h := isX_eq (a := a) (m := 200) (n := 200) rfl (by decide)
  rw [← h]
  unfold md_isDay
  have e : (199 < a) ↔ (200 ≤ a) := by
    rw [Int32.lt_iff_toInt_lt, Int32.le_iff_toInt_le]
    have e1 : (199 : Int32).toInt = 199 := rfl
    have e2 : (200 : Int32).toInt = 200 := rfl
    omega
  simp only [e]
theorem x_isMuch (a : Int32) : vs_isMuch a = some (wi a 1 1000) := by
  unfold vs_isMuch
  rw [within_eq, mbv_s]
theorem wi_c {a : Int32} {n : Nat} (lo hi : Int32) (h : wi a lo hi = true) (hl : lo = nI 0) (hh : hi = nI n) (hn : n < 2 ^ 31) : gI a n := by
  subst hl; subst hh
  obtain ⟨k, -, h2, h3⟩ := wi_r h hn (by decide)
  exact ⟨k, h2, h3⟩
theorem st_now : ST_now Rel := by
  intro μ ν a h
  unfold vs_now md_now
  rw [within_eq, in_eq, x_T h.1, mbv_s, mbv_s]
  cases hw : wi a (ν 0 0) 199
  · exact ⟨false, μ, ν, rfl, rfl, h⟩
  · refine ⟨true, mset μ 0 12 a, mset ν 0 0 a, rfl, rfl, ?_⟩
    obtain ⟨k, h1, h2, h3⟩ := wi_r (a := a) (lo := nT ν) (hi := 199) (by rw [← (g_T h.2).1]; exact hw) (by decide) (by have := (g_T h.2).2; omega)
    obtain ⟨⟨⟨-, n2⟩, hx⟩, ⟨⟨-, g2⟩, hg⟩⟩ := h
    exact ⟨⟨⟨rfl, n2⟩, hx⟩, ⟨⟨⟨k, h2, h3⟩, g2⟩, hg⟩⟩
theorem st_pace : ST_pace Rel := by
  intro μ ν a h
  unfold vs_pace md_pace
  rw [within_eq, in_eq, mbv_s, mbv_s]
  cases hw : wi a 1 9
  · exact ⟨false, μ, ν, rfl, rfl, h⟩
  · refine ⟨true, mset μ 8 5 a, mset ν 0 4 a, rfl, rfl, ?_⟩
    obtain ⟨⟨⟨n1, n2, n3, n4, -, n6⟩, hx⟩, hg⟩ := h
    exact ⟨⟨⟨n1, n2, n3, n4, rfl, n6⟩, hx⟩, hg⟩
theorem st_knownIn : ST_knownIn Rel := by
  intro μ ν a h
  unfold vs_knownIn md_knownIn
  rw [within_eq, in_eq, mbv_s, mbv_s]
  cases hw : wi a 0 20
  · exact ⟨false, μ, ν, rfl, rfl, h⟩
  · refine ⟨true, mset μ 6 5 a, mset ν 0 5 a, rfl, rfl, ?_⟩
    obtain ⟨⟨⟨n1, n2, n3, n4, n5, -, n6⟩, hx⟩, ⟨⟨g1, g2, g3, g4, -, g5⟩, hg⟩⟩ := h
    exact ⟨⟨⟨n1, n2, n3, n4, n5, rfl, n6⟩, hx⟩, ⟨⟨g1, g2, g3, g4, wi_c 0 20 hw rfl rfl (by decide), g5⟩, hg⟩⟩
