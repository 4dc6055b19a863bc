/-! how many a choice serves -/
def orC (p : Nat → Bool) (g : Nat → Int32) : Nat → Int32
  | 0 => 0
  | n + 1 => if p n = true then orC p g n ||| ((1 : Int32) <<< (g n &&& 31)) else orC p g n
theorem orC_S (p : Nat → Bool) (g : Nat → Int32) (n : Nat) : orC p g (n + 1) = if p n = true then orC p g n ||| ((1 : Int32) <<< (g n &&& 31)) else orC p g n := rfl
theorem orC_cong {p : Nat → Bool} {g g' : Nat → Int32} : ∀ {n : Nat}, (∀ k, k < n → g k = g' k) → orC p g n = orC p g' n
  | 0, _ => rfl
  | n + 1, h => by
    rw [orC_S, orC_S, h n (by omega), orC_cong (fun k hk => h k (by omega))]
theorem tb_orC {p : Nat → Bool} {B : Nat → Nat} : ∀ {n : Nat}, (∀ k, k < n → B k < 32) → ∀ j, j < 32 → (tb (orC p (fun k => nI (B k)) n) j = true ↔ ∃ k, k < n ∧ p k = true ∧ B k = j)
  | 0, _, j, _ => by
    rw [show orC p (fun k => nI (B k)) 0 = 0 from rfl, tb_zero]
    exact ⟨fun h => absurd h (by decide), fun ⟨k, hk, _⟩ => absurd hk (Nat.not_lt_zero k)⟩
  | n + 1, hB, j, hj => by
    have ih := tb_orC (p := p) (B := B) (n := n) (fun k hk => hB k (by omega)) j hj
    rw [orC_S]
    by_cases c : p n = true
    · rw [if_pos c, tb_set _ (hB n (by omega)) hj, Bool.or_eq_true, ih, decide_eq_true_eq]
      constructor
      · rintro (⟨k, h1, h2, h3⟩ | h)
        · exact ⟨k, by omega, h2, h3⟩
        · exact ⟨n, by omega, c, h.symm⟩
      · rintro ⟨k, h1, h2, h3⟩
        by_cases e : k = n
        · subst e; exact Or.inr h3.symm
        · exact Or.inl ⟨k, by omega, h2, h3⟩
    · rw [if_neg c, ih]
      constructor
      · rintro ⟨k, h1, h2, h3⟩
        exact ⟨k, by omega, h2, h3⟩
      · rintro ⟨k, h1, h2, h3⟩
        have : k ≠ n := fun e => c (by rw [← e]; exact h2)
        exact ⟨k, by omega, h2, h3⟩
def szH (F : Nat → Nat → Bool) (R : Nat) (P : Nat → Nat → Bool) (sz : Nat → Nat) : Prop := ∀ m, ∃ c T, mInv F (P m) R c T ∧ sz m = mSz c R
def prH (N : Nat) (B inv : Nat → Nat) (P : Nat → Nat → Bool) : Prop := (∀ k, k < N → inv (B k) = k) ∧ ∀ m z, P m z = true ↔ ∃ k, k < N ∧ m.testBit k = true ∧ B k = z
section
variable {F : Nat → Nat → Bool} {R N : Nat} {B inv : Nat → Nat} {P : Nat → Nat → Bool} {sz : Nat → Nat}
theorem pr_drop (h : prH N B inv P) {m k : Nat} (hk : k < N) (z : Nat) : P (clN m k) z = (P m z && !decide (z = B k)) := by
  rw [Bool.eq_iff_iff, h.2, Bool.and_eq_true, h.2]
  constructor
  · rintro ⟨j, j1, j2, j3⟩
    rw [clN_b, Bool.and_eq_true] at j2
    have hne : z ≠ B k := fun e => by
      have e1 := h.1 j j1
      rw [j3, e, h.1 k hk] at e1
      rw [e1] at j2
      simp at j2
    exact ⟨⟨j, j1, j2.1, j3⟩, by simp [hne]⟩
  · rintro ⟨⟨j, j1, j2, j3⟩, hne⟩
    have hj : j ≠ k := fun e => by
      rw [e] at j3
      rw [j3] at hne
      simp at hne
    exact ⟨j, j1, by rw [clN_b, j2]; simp [hj], j3⟩
theorem sz_le (hs : szH F R P sz) (m : Nat) : sz m ≤ R := by
  obtain ⟨c, T, _, e⟩ := hs m
  rw [e]
  exact cn_le _ _
theorem sz_drop (hs : szH F R P sz) (h : prH N B inv P) (m : Nat) {k : Nat} (hk : k < N) : sz m ≤ sz (clN m k) + 1 := by
  obtain ⟨c, T, h1, e1⟩ := hs m
  obtain ⟨c', T', h2, e2⟩ := hs (clN m k)
  rw [e1, e2]
  exact m_drop h1 h2 (x0 := B k) (fun x => pr_drop h hk x)
theorem sz_all (hs : szH F R P sz) (h : prH N B inv P) (m : Nat) {W : Nat → Bool} (hR : R ≤ 32) (hW : ∀ r, r < 32 → (W r = true ↔ r < R ∧ ∃ k, k < N ∧ m.testBit k = true ∧ F (B k) r = true)) : sz m ≤ cn W 32 := by
  obtain ⟨c, T, h1, e1⟩ := hs m
  rw [e1]
  refine cn_inj (fun y => y) R W (fun y hy hp => ?_) (fun i j _ _ _ _ e => e)
  cases e : c y with
  | none => rw [e] at hp; exact absurd hp (by decide)
  | some x =>
    obtain ⟨b1, b2, b3⟩ := h1.1 y x e
    obtain ⟨k, k1, k2, k3⟩ := (h.2 m x).mp b2
    exact ⟨by omega, (hW y (by omega)).mpr ⟨hy, k, k1, k2, by rw [k3]; exact b3⟩⟩
theorem sz_ex (hs : szH F R P sz) (h : prH N B inv P) (m : Nat) {W : Nat → Bool} (hW : ∀ r, r < 32 → (W r = true ↔ r < R ∧ ∃ k, k < N ∧ m.testBit k = true ∧ F (B k) r = true)) : (∃ k, k < N ∧ m.testBit k = true ∧ sz (clN m k) + 1 = sz m) ∨ cn W 32 ≤ sz m := by
  obtain ⟨c, T, h1, e1⟩ := hs m
  by_cases ex : ∃ y x, c y = some x ∧ T y = false
  · obtain ⟨y, x, y1, y2⟩ := ex
    left
    obtain ⟨b1, b2, b3⟩ := h1.1 y x y1
    obtain ⟨k, k1, k2, k3⟩ := (h.2 m x).mp b2
    obtain ⟨c', T', h2, e2⟩ := hs (clN m k)
    exact ⟨k, k1, k2, by rw [e1, e2]; exact m_take h1 h2 (x0 := B k) (y0 := y) (fun z => pr_drop h k1 z) (by rw [k3]; exact y1) y2⟩
  · right
    rw [e1]
    refine cn_inj (fun y => y) 32 _ (fun r hr hp => ?_) (fun i j _ _ _ _ e => e)
    obtain ⟨q1, k, q2, q3, q4⟩ := (hW r hr).mp hp
    refine ⟨q1, ?_⟩
    rcases h1.2.2.2 (B k) r ((h.2 m (B k)).mpr ⟨k, q2, q3, rfl⟩) q1 q4 with ⟨z1, _⟩ | ⟨y2, _, z2, z3⟩
    · exact z1
    · exact absurd ⟨y2, B k, z2, z3⟩ ex
theorem sz_bits (hs : szH F R P sz) (h : prH N B inv P) (m : Nat) {n : Nat} (hN : N ≤ n) : sz m ≤ cn (fun k => m.testBit k) n := by
  obtain ⟨c, T, h1, e1⟩ := hs m
  rw [e1]
  have key : ∀ y, (c y).isSome = true → ∃ k, c y = some (B k) ∧ k < N ∧ m.testBit k = true := by
    intro y hp
    cases e : c y with
    | none => rw [e] at hp; exact absurd hp (by decide)
    | some x =>
      obtain ⟨b1, b2, b3⟩ := h1.1 y x e
      obtain ⟨k, k1, k2, k3⟩ := (h.2 m x).mp b2
      exact ⟨k, by rw [k3], k1, k2⟩
  refine cn_inj (fun y => inv ((c y).getD 0)) R _ (fun y hy hp => ?_) (fun i j _ _ hi hj e => ?_)
  · obtain ⟨k, k1, k2, k3⟩ := key y hp
    have e : inv ((c y).getD 0) = k := by rw [k1]; exact h.1 k k2
    rw [e]
    exact ⟨by omega, k3⟩
  · obtain ⟨k, k1, k2, k3⟩ := key i hi
    obtain ⟨l, l1, l2, l3⟩ := key j hj
    have ek : inv ((c i).getD 0) = k := by rw [k1]; exact h.1 k k2
    have el : inv ((c j).getD 0) = l := by rw [l1]; exact h.1 l l2
    have e' : k = l := by rw [← ek, ← el]; exact e
    subst e'
    exact h1.2.1 i j (B k) k1 l1
end
theorem jmin_nI {a b : Nat} (ha : a < 2 ^ 31) (hb : b < 2 ^ 31) : jmin (nI a) (nI b) = nI (min a b) := by
  unfold jmin
  by_cases c : b < a
  · rw [if_pos ((nI_ltI hb ha).mpr c), Nat.min_eq_right (by omega)]
  · rw [if_neg (fun z => c ((nI_ltI hb ha).mp z)), Nat.min_eq_left (by omega)]
def ms9 (u : Mm) (a b : Int32) : Mm := mset (mset u 9 9 a) 9 10 b
theorem ms9_9 {u : Mm} {a b a' : Int32} : mset (ms9 u a b) 9 9 a' = ms9 u a' b := by
  unfold ms9
  funext c i
  by_cases e : c = 9
  · subst e
    by_cases e1 : i = 9
    · subst e1; rw [mset_s, mset_n (by decide), mset_s]
    · rw [mset_n e1]
      by_cases e2 : i = 10
      · subst e2; rw [mset_s, mset_s]
      · rw [mset_n e2, mset_n e2, mset_n e1, mset_n e1]
  · rw [mset_o e, mset_o e, mset_o e, mset_o e, mset_o e]
theorem ms9_10 {u : Mm} {a b b' : Int32} : mset (ms9 u a b) 9 10 b' = ms9 u a b' := by
  unfold ms9
  funext c i
  by_cases e : c = 9
  · subst e
    by_cases e2 : i = 10
    · subst e2; rw [mset_s, mset_s]
    · rw [mset_n e2, mset_n e2, mset_n e2]
  · rw [mset_o e, mset_o e, mset_o e, mset_o e, mset_o e]
theorem ms9_o {u : Mm} {a b : Int32} {c : Nat} (h : c ≠ 9) : ms9 u a b c = u c := by
  unfold ms9; rw [mset_o h, mset_o h]
theorem ms9_n {u : Mm} {a b : Int32} {i : Nat} (h : i ≠ 9) (h2 : i ≠ 10) : ms9 u a b 9 i = u 9 i := by
  unfold ms9; rw [mset_n h2, mset_n h]
theorem ms9_a {u : Mm} {a b : Int32} : ms9 u a b 9 9 = a := by
  unfold ms9; rw [mset_n (by decide), mset_s]
theorem ms9_b {u : Mm} {a b : Int32} : ms9 u a b 9 10 = b := by
  unfold ms9; rw [mset_s]
def lnC (le : Nat → Int32) (m n : Nat) : Int32 := sm (fun k => if m.testBit k = true then le k else 0) n
theorem lnC_S (le : Nat → Int32) (m n : Nat) : lnC le m (n + 1) = lnC le m n + (if m.testBit n = true then le n else 0) := rfl
section
variable {F : Nat → Nat → Bool} {R N : Nat} {B inv : Nat → Nat} {P : Nat → Nat → Bool} {sz : Nat → Nat}
theorem x_weigh (hs : szH F R P sz) (hp : prH N B inv P) (hR : R ≤ 16) (hN : N ≤ 12) {u : Mm} {wn le ki : Nat → Int32} (u7 : u 9 7 = nI N) (uk : ∀ k, k < N → u 57 k = wn k ∧ u 58 k = le k ∧ u 59 k = ki k) (hwn : ∀ k, k < N → ∀ r, r < 32 → (tb (wn k) r = true ↔ r < R ∧ F (B k) r = true)) {m : Nat} (hm : m < 4096) (h60 : ∀ m', m' < m → u 60 m' = nI (sz m')) : vs_Serving_weigh u (nI m) = some (mset (ms9 u (lnC le m N) (orC (fun k => m.testBit k) ki N)) 60 m (nI (sz m))) := by
  unfold vs_Serving_weigh
  rw [mst_s, mst_s]
  obtain ⟨e, h1, h2⟩ := miter_cnt (f := fun q : Int32 × Int32 × Int32 × Mm => vs_Serving_weigh_b18 q.2.2.2 (nI m) q.1 q.2.1 q.2.2.1) (fun i (a : Int32 × Nat) => (a.1, nI a.2, nI i, ms9 u (lnC le m i) (orC (fun k => m.testBit k) ki i))) N (fun i a => a.2 ≤ 16 ∧ (∀ k, k < i → m.testBit k = true → a.2 ≤ sz (clN m k) + 1) ∧ (a.2 = 16 ∨ ∃ k, k < i ∧ m.testBit k = true ∧ a.2 = sz (clN m k) + 1) ∧ ∀ r, r < 32 → (tb a.1 r = true ↔ ∃ k, k < i ∧ m.testBit k = true ∧ tb (wn k) r = true)) (fun e => ∃ all L, e = (all, nI L, ms9 u (lnC le m N) (orC (fun k => m.testBit k) ki N)) ∧ L ≤ 16 ∧ (∀ k, k < N → m.testBit k = true → L ≤ sz (clN m k) + 1) ∧ (L = 16 ∨ ∃ k, k < N ∧ m.testBit k = true ∧ L = sz (clN m k) + 1) ∧ ∀ r, r < 32 → (tb all r = true ↔ ∃ k, k < N ∧ m.testBit k = true ∧ tb (wn k) r = true)) (fun i a hi hI => by
      obtain ⟨i1, i2, i3, i4⟩ := hI
      left
      have goal : ∃ a' : Int32 × Nat, vs_Serving_weigh_b18 (ms9 u (lnC le m i) (orC (fun k => m.testBit k) ki i)) (nI m) a.1 (nI a.2) (nI i) = some (.inl (a'.1, nI a'.2, nI (i + 1), ms9 u (lnC le m (i + 1)) (orC (fun k => m.testBit k) ki (i + 1)))) ∧ a'.2 ≤ 16 ∧ (∀ k, k < i + 1 → m.testBit k = true → a'.2 ≤ sz (clN m k) + 1) ∧ (a'.2 = 16 ∨ ∃ k, k < i + 1 ∧ m.testBit k = true ∧ a'.2 = sz (clN m k) + 1) ∧ ∀ r, r < 32 → (tb a'.1 r = true ↔ ∃ k, k < i + 1 ∧ m.testBit k = true ∧ tb (wn k) r = true) := by
        unfold vs_Serving_weigh_b18
        rw [ms9_n (by decide) (by decide), u7, if_neg (nI_ge hi (by omega)), hasBit_eq _ (by omega), mbv_s, tb_nI (by omega), lnC_S, orC_S]
        by_cases c : m.testBit i = true
        · obtain ⟨k1, k2, k3⟩ := uk i hi
          have hlt := clN_lt c
          have hsz := sz_le hs (clN m i)
          have q57 : ∀ x y, ms9 u x y 57 i = wn i := fun x y => by rw [ms9_o (by decide)]; exact k1
          have q58 : ∀ x y, ms9 u x y 58 i = le i := fun x y => by rw [ms9_o (by decide)]; exact k2
          have q59 : ∀ x y, ms9 u x y 59 i = ki i := fun x y => by rw [ms9_o (by decide)]; exact k3
          have q60 : ∀ x y, ms9 u x y 60 (clN m i) = nI (sz (clN m i)) := fun x y => by rw [ms9_o (by decide)]; exact h60 _ hlt
          rw [ifb_t c, if_pos c, if_pos c, mrd_nI (by omega) (by decide), q57, clN_I (by omega) (by omega), mrd_nI (by omega) (by decide), q60, mrd_nI (by omega) (by decide), q58, mst_s, ms9_a, ms9_9, mrd_nI (by omega) (by decide), q59, mst_s, ms9_b, ms9_10, nI_1, nI_1, jmin_nI (by omega) (by omega)]
          refine ⟨(a.1 ||| wn i, min a.2 (sz (clN m i) + 1)), rfl, ?_, fun k hk hb => ?_, ?_, fun r hr => ?_⟩
          · show min a.2 (sz (clN m i) + 1) ≤ 16
            omega
          · show min a.2 (sz (clN m i) + 1) ≤ _
            by_cases e : k = i
            · subst e; omega
            · have := i2 k (by omega) hb
              omega
          · show min a.2 (sz (clN m i) + 1) = 16 ∨ ∃ k, k < i + 1 ∧ m.testBit k = true ∧ min a.2 (sz (clN m i) + 1) = sz (clN m k) + 1
            by_cases e : a.2 ≤ sz (clN m i) + 1
            · rw [Nat.min_eq_left e]
              rcases i3 with i3 | ⟨k, q1, q2, q3⟩
              · exact Or.inl i3
              · exact Or.inr ⟨k, by omega, q2, q3⟩
            · rw [Nat.min_eq_right (by omega)]
              exact Or.inr ⟨i, by omega, c, rfl⟩
          · show tb (a.1 ||| wn i) r = true ↔ _
            rw [tb_or, Bool.or_eq_true, i4 r hr]
            constructor
            · rintro (⟨k, q1, q2, q3⟩ | h)
              · exact ⟨k, by omega, q2, q3⟩
              · exact ⟨i, by omega, c, h⟩
            · rintro ⟨k, q1, q2, q3⟩
              by_cases e : k = i
              · subst e; exact Or.inr q3
              · exact Or.inl ⟨k, by omega, q2, q3⟩
        · rw [ifb_f c, if_neg c, if_neg c, add0, nI_1]
          refine ⟨a, rfl, i1, fun k hk hb => ?_, ?_, fun r hr => ?_⟩
          · have : k ≠ i := fun e => c (by rw [← e]; exact hb)
            exact i2 k (by omega) hb
          · rcases i3 with i3 | ⟨k, q1, q2, q3⟩
            · exact Or.inl i3
            · exact Or.inr ⟨k, by omega, q2, q3⟩
          · rw [i4 r hr]
            constructor
            · rintro ⟨k, q1, q2, q3⟩
              exact ⟨k, by omega, q2, q3⟩
            · rintro ⟨k, q1, q2, q3⟩
              have : k ≠ i := fun e => c (by rw [← e]; exact q2)
              exact ⟨k, by omega, q2, q3⟩
      exact goal) (fun a hI => by
      refine ⟨(a.1, nI a.2, ms9 u (lnC le m N) (orC (fun k => m.testBit k) ki N)), ?_, a.1, a.2, rfl, hI⟩
      show vs_Serving_weigh_b18 (ms9 u (lnC le m N) (orC (fun k => m.testBit k) ki N)) (nI m) a.1 (nI a.2) (nI N) = _
      unfold vs_Serving_weigh_b18
      rw [ms9_n (by decide) (by decide), u7, if_pos (nI_le (Nat.le_refl _) (by omega))]) FU 0 (0, 16) (by omega) (by unfold FU; omega) ⟨Nat.le_refl _, fun k hk => absurd hk (Nat.not_lt_zero k), Or.inl rfl, fun r _ => by
        show tb 0 r = true ↔ _
        rw [tb_zero]
        exact ⟨fun h => absurd h (by decide), fun ⟨k, hk, _⟩ => absurd hk (Nat.not_lt_zero k)⟩⟩
  obtain ⟨all, L, he, l1, l2, l3, l4⟩ := h2
  subst he
  have h1' : vs_Serving_weigh_l18 (mset (mset u 9 9 0) 9 10 0) (nI m) 0 16 0 = some (all, nI L, ms9 u (lnC le m N) (orC (fun k => m.testBit k) ki N)) := h1
  rw [h1', mbv_s]
  show (mbv (vs_Integer_bitCount_0f7a4 all) fun x15 => mwr (ms9 u (lnC le m N) (orC (fun k => m.testBit k) ki N)) 60 4096 (nI m) (jmin (nI L) x15) fun μ16 => some μ16) = _
  have hbc : bc all = cn (fun j => tb all j) 32 := bcn_cn all 32
  have hb32 := cn_le (fun j => tb all j) 32
  rw [bitCount_eq, mbv_s, mwr_nI (by omega) (by decide), jmin_nI (by omega) (by omega)]
  have hW : ∀ r, r < 32 → (tb all r = true ↔ r < R ∧ ∃ k, k < N ∧ m.testBit k = true ∧ F (B k) r = true) := by
    intro r hr
    rw [l4 r hr]
    constructor
    · rintro ⟨k, q1, q2, q3⟩
      obtain ⟨z1, z2⟩ := (hwn k q1 r hr).mp q3
      exact ⟨z1, k, q1, q2, z2⟩
    · rintro ⟨z1, k, q1, q2, q3⟩
      exact ⟨k, q1, q2, (hwn k q1 r hr).mpr ⟨z1, q3⟩⟩
  have fin : min L (bc all) = sz m := by
    rw [hbc]
    have a1 := sz_le hs m
    have a2 := sz_all (W := fun j => tb all j) hs hp m (by omega) hW
    have a3 : sz m ≤ L := by
      rcases l3 with l3 | ⟨k, q1, q2, q3⟩
      · omega
      · have := sz_drop hs hp m q1
        omega
    rcases sz_ex (W := fun j => tb all j) hs hp m hW with ⟨k, q1, q2, q3⟩ | q
    · have := l2 k q1 q2
      omega
    · omega
  rw [fin]
end
