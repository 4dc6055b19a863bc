/-! the best load -/
theorem sm_pick (p : Nat → Bool) {S N : Nat} (hN : N ≤ cn p S) {q t : Nat → Bool} (ht : ∀ b, b < S → (t b = true ↔ ∃ k, k < N ∧ q k = true ∧ psn p S k = b)) (g : Nat → Int32) : ∀ n, n ≤ S → sm (fun b => if t b = true then g b else 0) n = sm (fun k => if q k = true then g (psn p S k) else 0) (min (cn p n) N)
  | 0, _ => by
    rw [show min (cn p 0) N = 0 from Nat.zero_min N]
    rfl
  | n + 1, hn => by
    have ih := sm_pick p hN ht g n (by omega)
    have hcn : cn p (n + 1) = cn p n + (p n).toNat := rfl
    have hS : sm (fun b => if t b = true then g b else 0) (n + 1) = sm (fun b => if t b = true then g b else 0) n + (if t n = true then g n else 0) := rfl
    rw [hS, ih]
    by_cases c : p n = true
    · rw [c, Bool.toNat_true] at hcn
      by_cases d : cn p n < N
      · have e1 : min (cn p (n + 1)) N = cn p n + 1 := by omega
        have e2 : min (cn p n) N = cn p n := by omega
        rw [e1, e2]
        have hat : psn p S (cn p n) = n := psn_at (by omega) c
        have hT : t n = true ↔ q (cn p n) = true := by
          rw [ht n (by omega)]
          constructor
          · rintro ⟨k, k1, k2, k3⟩
            have := (psn_ok (show k < cn p S by omega)).2.2
            rw [k3] at this
            rw [this]; exact k2
          · intro h
            exact ⟨cn p n, d, h, hat⟩
        show _ = sm (fun k => if q k = true then g (psn p S k) else 0) (cn p n) + (if q (cn p n) = true then g (psn p S (cn p n)) else 0)
        rw [hat]
        by_cases z : q (cn p n) = true
        · rw [if_pos z, if_pos (hT.mpr z)]
        · rw [if_neg z, if_neg (fun y => z (hT.mp y))]
      · have e1 : min (cn p (n + 1)) N = N := by omega
        have e2 : min (cn p n) N = N := by omega
        have hT : ¬ t n = true := fun y => by
          obtain ⟨k, k1, k2, k3⟩ := (ht n (by omega)).mp y
          have := (psn_ok (show k < cn p S by omega)).2.2
          rw [k3] at this
          omega
        rw [e1, e2, if_neg hT, add0]
    · have c' : p n = false := by simpa using c
      rw [c', Bool.toNat_false] at hcn
      have hT : ¬ t n = true := fun y => by
        obtain ⟨k, k1, k2, k3⟩ := (ht n (by omega)).mp y
        have := (psn_ok (show k < cn p S by omega)).2.1
        rw [k3] at this
        exact c this
      rw [hcn, if_neg hT, add0, Nat.add_zero]
theorem brd_abs {ν ν' : Mm} (h : absM ν' = absM ν) (v d : Nat) : ∀ n, brd ν' v d n = brd ν v d n
  | 0 => rfl
  | n + 1 => by
    have e1 : visB ν' v (ν' 15 n).toNatClampNeg d = visB ν v (ν 15 n).toNatClampNeg d := by
      have : visB (absM ν') v (absM ν' 15 n).toNatClampNeg d = visB (absM ν) v (absM ν 15 n).toNatClampNeg d := by rw [h]
      exact this
    have e2 : askS ν' n d = askS ν n d := by
      have : askS (absM ν') n d = askS (absM ν) n d := by rw [h]
      exact this
    show (if visB ν' v (ν' 15 n).toNatClampNeg d = true then brd ν' v d n ||| askS ν' n d else brd ν' v d n) = _
    rw [e1, e2, brd_abs h v d n]
    rfl
theorem m_pick {ν : Mm} {N : Nat} (hN : N ≤ 12) {B : Nat → Nat} (hB : ∀ k, k < N → ν 55 k = nI (B k) ∧ B k < 32) {m : Nat} (hm : m < 4096) (a1 a3 a4 a8 a9 : Int32) (a10 : Int64) (a12 a13 : Int32) : md_load_l246 ν a1 a3 a4 (nI N) a8 a9 a10 a12 a13 (nI m) 0 0 0 = some (asL (orC (fun k => m.testBit k) (fun k => nI (B k)) N), orC (fun k => m.testBit k) (fun k => ν 1 (B k)) N) := by
  unfold md_load_l246
  obtain ⟨e, h1, h2⟩ := miter_cnt (f := fun q : Int64 × Int32 × Int32 => md_load_b246 ν a1 a3 a4 (nI N) a8 a9 a10 a12 a13 (nI m) q.1 q.2.1 q.2.2) (fun i (_ : Unit) => (asL (orC (fun k => m.testBit k) (fun k => nI (B k)) i), orC (fun k => m.testBit k) (fun k => ν 1 (B k)) i, nI i)) N (fun _ _ => True) (fun e => e = (asL (orC (fun k => m.testBit k) (fun k => nI (B k)) N), orC (fun k => m.testBit k) (fun k => ν 1 (B k)) N)) (fun i a hi _ => by
      left
      refine ⟨(), ?_, trivial⟩
      show md_load_b246 ν a1 a3 a4 (nI N) a8 a9 a10 a12 a13 (nI m) (asL (orC (fun k => m.testBit k) (fun k => nI (B k)) i)) (orC (fun k => m.testBit k) (fun k => ν 1 (B k)) i) (nI i) = _
      unfold md_load_b246
      rw [if_neg (nI_ge hi (by omega)), orC_S, orC_S]
      by_cases c : m.testBit i = true
      · obtain ⟨b1, b2⟩ := hB i hi
        rw [if_neg (fun z => by rw [tb_sshr0 _ (by omega), tb_nI (by omega), c] at z; exact absurd z (by decide)), if_pos c, if_pos c, mrd_nI (by omega) (by decide), mrd_nI (by omega) (by decide), b1, mrd_nI b2 (by decide), asL_or, asL_bit _ b2, nI_1]
      · rw [if_pos (by rw [tb_sshr0 _ (by omega), tb_nI (by omega)]; simpa using c), if_neg c, if_neg c, nI_1]) (fun a _ => by
      refine ⟨_, ?_, rfl⟩
      show md_load_b246 ν a1 a3 a4 (nI N) a8 a9 a10 a12 a13 (nI m) (asL (orC (fun k => m.testBit k) (fun k => nI (B k)) N)) (orC (fun k => m.testBit k) (fun k => ν 1 (B k)) N) (nI N) = _
      unfold md_load_b246
      rw [if_pos (nI_le (Nat.le_refl _) (by omega))]) FU 0 () (by omega) (by unfold FU; omega) trivial
  have z0 : asL (orC (fun k => m.testBit k) (fun k => nI (B k)) 0) = 0 := asL_0
  have h1' : miter (fun q : Int64 × Int32 × Int32 => md_load_b246 ν a1 a3 a4 (nI N) a8 a9 a10 a12 a13 (nI m) q.1 q.2.1 q.2.2) FU (asL (orC (fun k => m.testBit k) (fun k => nI (B k)) 0), 0, 0) = some e := h1
  rw [z0] at h1'
  rw [← h2]
  exact h1'
theorem x_kinds {u : Mm} {N : Nat} (hN : N ≤ 12) {ki : Nat → Int32} (u7 : u 9 7 = nI N) (uk : ∀ k, k < N → u 59 k = ki k) : vs_Serving_kindsOffered u = some (orK ki N) := by
  unfold vs_Serving_kindsOffered vs_Serving_kindsOffered_l4
  obtain ⟨e, h1, h2⟩ := miter_cnt (f := fun q : Int32 × Int32 => vs_Serving_kindsOffered_b4 u q.1 q.2) (fun i (_ : Unit) => (orK ki i, nI i)) N (fun _ _ => True) (fun e => e = orK ki N) (fun i a hi _ => by
      left
      refine ⟨(), ?_, trivial⟩
      show vs_Serving_kindsOffered_b4 u (orK ki i) (nI i) = _
      unfold vs_Serving_kindsOffered_b4
      rw [u7, if_neg (nI_ge hi (by omega)), mrd_nI (by omega) (by decide), uk i hi, nI_1]
      rfl) (fun a _ => by
      refine ⟨_, ?_, rfl⟩
      show vs_Serving_kindsOffered_b4 u (orK ki N) (nI N) = _
      unfold vs_Serving_kindsOffered_b4
      rw [u7, if_pos (nI_le (Nat.le_refl _) (by omega))]) FU 0 () (by omega) (by unfold FU; omega) trivial
  rw [h2] at h1
  have h1' : miter (fun q => vs_Serving_kindsOffered_b4 u q.1 q.2) FU (0, 0) = some (orK ki N) := h1
  rw [h1', mbv_s]
theorem x_bestBooks {u : Mm} {N : Nat} (hN : N ≤ 12) {B : Nat → Nat} {m : Nat} (hm : m < 4096) (u7 : u 9 7 = nI N) (u11 : u 9 11 = nI m) (uk : ∀ k, k < N → u 56 k = nI (B k)) : vs_Serving_bestBooks u = some (orC (fun k => m.testBit k) (fun k => nI (B k)) N) := by
  unfold vs_Serving_bestBooks vs_Serving_bestBooks_l4
  obtain ⟨e, h1, h2⟩ := miter_cnt (f := fun q : Int32 × Int32 => vs_Serving_bestBooks_b4 u q.1 q.2) (fun i (_ : Unit) => (orC (fun k => m.testBit k) (fun k => nI (B k)) i, nI i)) N (fun _ _ => True) (fun e => e = orC (fun k => m.testBit k) (fun k => nI (B k)) N) (fun i a hi _ => by
      left
      refine ⟨(), ?_, trivial⟩
      show vs_Serving_bestBooks_b4 u (orC (fun k => m.testBit k) (fun k => nI (B k)) i) (nI i) = _
      unfold vs_Serving_bestBooks_b4
      rw [u7, if_neg (nI_ge hi (by omega)), u11, hasBit_eq _ (by omega), mbv_s, tb_nI (by omega), orC_S]
      by_cases c : m.testBit i = true
      · rw [ifb_t c, if_pos c, mrd_nI (by omega) (by decide), uk i hi, nI_1]
      · rw [ifb_f c, if_neg c, nI_1]) (fun a _ => by
      refine ⟨_, ?_, rfl⟩
      show vs_Serving_bestBooks_b4 u (orC (fun k => m.testBit k) (fun k => nI (B k)) N) (nI N) = _
      unfold vs_Serving_bestBooks_b4
      rw [u7, if_pos (nI_le (Nat.le_refl _) (by omega))]) FU 0 () (by omega) (by unfold FU; omega) trivial
  rw [h2] at h1
  have h1' : miter (fun q => vs_Serving_bestBooks_b4 u q.1 q.2) FU (0, 0) = some (orC (fun k => m.testBit k) (fun k => nI (B k)) N) := h1
  rw [h1', mbv_s]
/-- what the best choice so far is -/
def bsX (sz : Nat → Nat) (ln : Nat → Int32) (i : Nat) (o : Option Nat) (u : Mm) : Prop := match o with
  | none => u 9 11 = -1
  | some b => b < i ∧ u 9 11 = nI b ∧ u 9 12 = nI (sz b) ∧ u 9 13 = ln b
def bL (S : Nat → Int32) (o : Option Nat) : Int64 := match o with
  | none => -2
  | some b => asL (S b)
def sL (sz : Nat → Nat) (o : Option Nat) : Int32 := match o with
  | none => 0
  | some b => nI (sz b)
def lL (ln : Nat → Int32) (o : Option Nat) : Int32 := match o with
  | none => 0
  | some b => ln b
theorem sL_s {sz : Nat → Nat} {b : Nat} : sL sz (some b) = nI (sz b) := rfl
theorem lL_s {ln : Nat → Int32} {b : Nat} : lL ln (some b) = ln b := rfl
theorem un2_p {A1 A2 C : Type} {f : A1 → A2 → C} {a : A1} {b : A2} : un2 f (a, b) = f a b := rfl
theorem un4_p {A1 A2 A3 A4 C : Type} {f : A1 → A2 → A3 → A4 → C} {a : A1} {b : A2} {c : A3} {d : A4} : un4 f (a, b, c, d) = f a b c d := rfl
def btr (sz : Nat → Nat) (ln : Nat → Int32) (o : Option Nat) (m : Nat) : Prop := match o with
  | none => True
  | some b => sz b < sz m ∨ (sz m = sz b ∧ ln m < ln b)
theorem x_better {sz : Nat → Nat} {ln : Nat → Int32} (hz : ∀ m, sz m ≤ 16) {i m : Nat} {o : Option Nat} {u : Mm} (h : bsX sz ln i o u) (hi : i ≤ 4096) (h9 : u 9 9 = ln m) : (btr sz ln o m → vs_Serving_isBetter u (nI (sz m)) = some true) ∧ (¬ btr sz ln o m → vs_Serving_isBetter u (nI (sz m)) = some false) := by
  unfold vs_Serving_isBetter
  cases o with
  | none =>
    have h : u 9 11 = -1 := h
    rw [if_pos h]
    exact ⟨fun _ => rfl, fun z => absurd trivial z⟩
  | some b =>
    obtain ⟨b0, b1, b2, b3⟩ := h
    have hb := hz b
    have hm := hz m
    rw [b1, if_neg (nI_m1 (by omega)), b2, h9, b3]
    constructor
    · rintro (z | ⟨z1, z2⟩)
      · rw [if_pos ((nI_ltI (by omega) (by omega)).mpr z)]
      · rw [if_neg (fun y => by rw [nI_ltI (by omega) (by omega)] at y; omega), if_pos (by rw [z1]), if_neg (i32_nle.mpr z2)]
    · intro z
      have z1 : ¬ (sz b < sz m) := fun y => z (Or.inl y)
      rw [if_neg (fun y => z1 ((nI_ltI (by omega) (by omega)).mp y))]
      by_cases c : sz m = sz b
      · rw [if_pos (by rw [c]), if_pos (i32_nlt.mp (fun y => z (Or.inr ⟨c, y⟩)))]
      · rw [if_neg (fun y => c ((nI_eq (by omega) (by omega)).mp y))]
section
variable {F : Nat → Nat → Bool} {R N : Nat} {B inv : Nat → Nat} {P : Nat → Nat → Bool} {sz : Nat → Nat}
def u5 (u : Mm) (le ki : Nat → Int32) (sz : Nat → Nat) (N m : Nat) : Mm := mset (ms9 u (lnC le m N) (orC (fun k => m.testBit k) ki N)) 60 m (nI (sz m))
def u6 (u : Mm) (le ki : Nat → Int32) (sz : Nat → Nat) (N m : Nat) : Mm := mset (mset (mset (u5 u le ki sz N m) 9 11 (nI m)) 9 12 (nI (sz m))) 9 13 (lnC le m N)
def fitC (le ki : Nat → Int32) (must shelf need : Int32) (N m : Nat) : Prop := ¬ (shelf < lnC le m N) ∧ (nI m &&& must) = must ∧ (orC (fun k => m.testBit k) ki N &&& need) = need
theorem x_step (hs : szH F R P sz) (hp : prH N B inv P) (hR : R ≤ 16) (hN : N ≤ 12) {u : Mm} {wn le ki : Nat → Int32} {must shelf need : Int32} (u7 : u 9 7 = nI N) (u8 : u 9 8 = must) (uk : ∀ k, k < N → u 57 k = wn k ∧ u 58 k = le k ∧ u 59 k = ki k) (hwn : ∀ k, k < N → ∀ r, r < 32 → (tb (wn k) r = true ↔ r < R ∧ F (B k) r = true)) {m : Nat} (hm : m < 2 ^ N) (h60 : ∀ m', m' < m → u 60 m' = nI (sz m')) {o : Option Nat} (ho : bsX sz (fun m => lnC le m N) m o u) : (fitC le ki must shelf need N m ∧ btr sz (fun m => lnC le m N) o m → vs_Serving_choose_b25 u shelf (nI (2 ^ N - 1)) need (nI m) = some (.inl (nI (m + 1), u6 u le ki sz N m))) ∧ (¬ (fitC le ki must shelf need N m ∧ btr sz (fun m => lnC le m N) o m) → vs_Serving_choose_b25 u shelf (nI (2 ^ N - 1)) need (nI m) = some (.inl (nI (m + 1), u5 u le ki sz N m))) := by
  have h12 := (p2_12 N hN).2.2
  have hz : ∀ m, sz m ≤ 16 := fun m => Nat.le_trans (sz_le hs m) hR
  have w := x_weigh hs hp hR hN u7 uk hwn (m := m) (by omega) h60
  have e9 : u5 u le ki sz N m 9 9 = lnC le m N := by unfold u5; rw [mset_oo (by decide), ms9_a]
  have e10 : u5 u le ki sz N m 9 10 = orC (fun k => m.testBit k) ki N := by unfold u5; rw [mset_oo (by decide), ms9_b]
  have e8 : u5 u le ki sz N m 9 8 = must := by unfold u5; rw [mset_oo (by decide), ms9_n (by decide) (by decide), u8]
  have e60 : u5 u le ki sz N m 60 m = nI (sz m) := by unfold u5; rw [mset_s]
  have hb : bsX sz (fun m => lnC le m N) m o (u5 u le ki sz N m) := by
    have f : ∀ j, j ≠ 9 → j ≠ 10 → u5 u le ki sz N m 9 j = u 9 j := fun j j1 j2 => by unfold u5; rw [mset_oo (by decide), ms9_n j1 j2]
    cases o with
    | none => exact (f 11 (by decide) (by decide)).trans ho
    | some b => exact ⟨ho.1, (f 11 (by decide) (by decide)).trans ho.2.1, (f 12 (by decide) (by decide)).trans ho.2.2.1, (f 13 (by decide) (by decide)).trans ho.2.2.2⟩
  have hbt := x_better hz (m := m) hb (by omega) e9
  have w' : vs_Serving_weigh u (nI m) = some (u5 u le ki sz N m) := w
  have no : ∀ x : Int32, vs_Serving_choose_j75 (u5 u le ki sz N m) x (nI (2 ^ N - 1)) need (nI m) = some (.inl (nI (m + 1), u5 u le ki sz N m)) := by
    intro x
    unfold vs_Serving_choose_j75 vs_Serving_choose_j76
    rw [if_pos rfl, nI_1]
  unfold vs_Serving_choose_b25
  rw [if_neg (nI_nlt (by omega) (by omega)), w', mbv_s, e9, e8, e10]
  by_cases c1 : shelf < lnC le m N
  · rw [if_pos c1, no]
    exact ⟨fun z => absurd c1 z.1.1, fun _ => rfl⟩
  rw [if_neg c1]
  by_cases c2 : (nI m &&& must) = must
  · rw [if_pos c2]
    by_cases c3 : (orC (fun k => m.testBit k) ki N &&& need) = need
    · rw [if_pos c3]
      unfold vs_Serving_choose_j76
      rw [if_neg (by decide), mrd_nI (by omega) (by decide), e60]
      constructor
      · rintro ⟨_, z⟩
        rw [hbt.1 z, mbv_s, ifb_t', mst_s, mrd_nI (by omega) (by decide), mset_oo (by decide), e60, mst_s, mst_s, mset_n (by decide), mset_n (by decide), e9, nI_1]
        rfl
      · intro z
        rw [hbt.2 (fun y => z ⟨⟨c1, c2, c3⟩, y⟩), mbv_s, ifb_f', nI_1]
    · rw [if_neg c3, no]
      exact ⟨fun z => absurd z.1.2.2 c3, fun _ => rfl⟩
  · rw [if_neg c2, no]
    exact ⟨fun z => absurd z.1.2.1 c2, fun _ => rfl⟩
theorem m_step (hs : szH F R P sz) (hp : prH N B inv P) (hR : R ≤ 16) (hN : N ≤ 12) {n : Mm} {le ki : Nat → Int32} {must there shelf : Int32} {v : Nat} (hv : v < 3) (a3 a4 : Int32) (g : Good n) (hF : F = wF n) (hRn : R = nR n) (hB : ∀ k, k < N → n 55 k = nI (B k) ∧ B k < 32) (hki : ∀ k, k < N → n 1 (B k) = ki k) (hln : ∀ m, lenS n (orC (fun k => m.testBit k) (fun k => nI (B k)) N) = lnC le m N) (h9 : n 9 v = shelf) (hP : ∀ m, P m = fun z => decide (z < nB n) && tb (orC (fun k => m.testBit k) (fun k => nI (B k)) N) z) {m : Nat} (hm : m < 2 ^ N) (o : Option Nat) : ∃ h a f q, (fitC le ki must shelf (a3 &&& there) N m ∧ btr sz (fun m => lnC le m N) o m → md_load_b215 n (nI v) a3 a4 (nI N) must there (bL (fun m => orC (fun k => m.testBit k) (fun k => nI (B k)) N) o) (sL sz o) (lL (fun m => lnC le m N) o) (nI m) = some (.inl (asL (orC (fun k => m.testBit k) (fun k => nI (B k)) N), nI (sz m), lnC le m N, nI (m + 1), mq n h a f q))) ∧ (¬ (fitC le ki must shelf (a3 &&& there) N m ∧ btr sz (fun m => lnC le m N) o m) → md_load_b215 n (nI v) a3 a4 (nI N) must there (bL (fun m => orC (fun k => m.testBit k) (fun k => nI (B k)) N) o) (sL sz o) (lL (fun m => lnC le m N) o) (nI m) = some (.inl (bL (fun m => orC (fun k => m.testBit k) (fun k => nI (B k)) N) o, sL sz o, lL (fun m => lnC le m N) o, nI (m + 1), mq n h a f q))) := by
  have h12 := p2_12 N hN
  have hz : ∀ m, sz m ≤ 16 := fun m => Nat.le_trans (sz_le hs m) hR
  have eki : orC (fun k => m.testBit k) (fun k => n 1 (B k)) N = orC (fun k => m.testBit k) ki N := orC_cong hki
  unfold md_load_b215
  rw [h12.1, if_neg (nI_ge hm (by omega)), nI_1]
  by_cases c2 : ¬ ((nI m &&& must) = must)
  · rw [if_neg (fun z => c2 (sub_iff.mpr z))]
    refine ⟨n 51, n 52, n 53, n 54, fun z => absurd z.1.2.1 c2, fun _ => ?_⟩
    rw [mq_self]
  rw [Classical.not_not] at c2
  rw [if_pos (sub_iff.mp c2), m_pick hN hB (by omega), mbv_s, un2_p, m_lengthOf g, mbv_s, hln m, mrd_nI hv (by decide), h9, eki]
  by_cases c1 : shelf < lnC le m N
  · rw [if_pos c1]
    refine ⟨n 51, n 52, n 53, n 54, fun z => absurd c1 z.1.1, fun _ => ?_⟩
    rw [mq_self]
  rw [if_neg c1]
  by_cases c3 : ¬ ((orC (fun k => m.testBit k) ki N &&& (a3 &&& there)) = (a3 &&& there))
  · rw [if_neg (fun z => c3 (sub_iff.mpr z))]
    refine ⟨n 51, n 52, n 53, n 54, fun z => absurd z.1.2.2 c3, fun _ => ?_⟩
    rw [mq_self]
  rw [Classical.not_not] at c3
  rw [if_pos (sub_iff.mp c3)]
  have hfit : fitC le ki must shelf (a3 &&& there) N m := ⟨c1, c2, c3⟩
  obtain ⟨c, T, h, a, f, q, p1, p2⟩ := m_paired g (orC (fun k => m.testBit k) (fun k => nI (B k)) N)
  have hsz : mSz c (nR n) = sz m := by
    obtain ⟨c', T', q1, q2⟩ := hs m
    rw [hP m, hF, hRn] at q1
    rw [q2, hRn]
    exact m_uniq p2 q1
  rw [hsz] at p1
  have hzm := hz m
  cases o with
  | none =>
    have e : lg_cmp (bL (fun m => orC (fun k => m.testBit k) (fun k => nI (B k)) N) none) (-2) = 0 := lgc0.mpr rfl
    rw [if_pos e]
    unfold md_load_j361
    rw [p1, mbm_s, if_pos e]
    exact ⟨h, a, f, q, fun _ => by rw [nI_1], fun z => absurd ⟨hfit, trivial⟩ z⟩
  | some b =>
    have hzb := hz b
    have e : ¬ (lg_cmp (bL (fun m => orC (fun k => m.testBit k) (fun k => nI (B k)) N) (some b)) (-2) = 0) := fun z => asL_m2 _ (lgc0.mp z)
    rw [if_neg e, m_bits (by omega), mbv_s]
    have hbits := sz_bits hs hp m (n := 16) (by omega)
    have hb16 := cn_le (fun k => m.testBit k) 16
    rw [sL_s, lL_s]
    by_cases c4 : sz b ≤ cn (fun k => m.testBit k) 16
    · rw [if_pos ((nI_leI (by omega) (by omega)).mpr c4)]
      unfold md_load_j361
      rw [p1, mbm_s, if_neg e]
      refine ⟨h, a, f, q, ?_, ?_⟩
      · rintro ⟨_, z | ⟨z1, z2⟩⟩
        · rw [if_neg (show ¬ (nI (sz m) < nI (sz b)) from fun y => by rw [nI_ltI (by omega) (by omega)] at y; omega), if_neg (show ¬ (nI (sz m) = nI (sz b)) from fun y => by rw [nI_eq (by omega) (by omega)] at y; omega), nI_1]
        · rw [if_neg (show ¬ (nI (sz m) < nI (sz b)) from fun y => by rw [nI_ltI (by omega) (by omega)] at y; omega), if_pos (show nI (sz m) = nI (sz b) by rw [z1]), if_pos (show lnC le m N < lnC le b N from z2), nI_1]
      · intro z
        have z1 : ¬ (sz b < sz m) := fun y => z ⟨hfit, Or.inl y⟩
        by_cases c5 : sz m < sz b
        · rw [if_pos (show nI (sz m) < nI (sz b) from (nI_ltI (by omega) (by omega)).mpr c5), nI_1]
        · have c6 : sz m = sz b := by omega
          rw [if_neg (show ¬ (nI (sz m) < nI (sz b)) from fun y => by rw [nI_ltI (by omega) (by omega)] at y; omega), if_pos (show nI (sz m) = nI (sz b) by rw [c6]), if_neg (show ¬ (lnC le m N < lnC le b N) from fun y => z ⟨hfit, Or.inr ⟨c6, y⟩⟩), nI_1]
    · rw [if_neg (show ¬ (nI (sz b) ≤ nI (cn (fun k => m.testBit k) 16)) from fun y => c4 ((nI_leI (by omega) (by omega)).mp y))]
      refine ⟨n 51, n 52, n 53, n 54, ?_, fun _ => by rw [mq_self]⟩
      rintro ⟨_, z | ⟨z1, z2⟩⟩
      · omega
      · omega
end
