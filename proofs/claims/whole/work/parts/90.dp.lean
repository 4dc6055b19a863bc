/-! shortest rounds: the numbers alone -/
def upB (o : Option (Nat × Nat)) (n v : Nat) : Option (Nat × Nat) := match o with
  | none => some (n, v)
  | some q => if v < q.2 then some (n, v) else some q
def bst (f : Nat → Nat) (p : Nat → Bool) : Nat → Option (Nat × Nat)
  | 0 => none
  | n + 1 => if p n = true then upB (bst f p n) n (f n) else bst f p n
theorem bst_S (f : Nat → Nat) (p : Nat → Bool) (n : Nat) : bst f p (n + 1) = if p n = true then upB (bst f p n) n (f n) else bst f p n := rfl
theorem bst_cong {f g : Nat → Nat} {p : Nat → Bool} : ∀ {n : Nat}, (∀ b, b < n → p b = true → f b = g b) → bst f p n = bst g p n
  | 0, _ => rfl
  | n + 1, h => by
    rw [bst_S, bst_S, bst_cong (fun b hb hp => h b (by omega) hp)]
    by_cases c : p n = true
    · rw [if_pos c, if_pos c, h n (by omega) c]
    · rw [if_neg c, if_neg c]
theorem bst_in {f : Nat → Nat} {p : Nat → Bool} : ∀ {n : Nat} {q : Nat × Nat}, bst f p n = some q → q.1 < n ∧ p q.1 = true ∧ q.2 = f q.1
  | 0, _, h => (nomatch h)
  | n + 1, q, h => by
    rw [bst_S] at h
    by_cases c : p n = true
    · rw [if_pos c] at h
      cases e : bst f p n with
      | none =>
        rw [e] at h
        have h' : q = (n, f n) := (Option.some.inj h).symm
        subst h'
        exact ⟨by show n < n + 1; omega, c, rfl⟩
      | some q' =>
        rw [e] at h
        have h2 : (if f n < q'.2 then some (n, f n) else some q') = some q := h
        by_cases c2 : f n < q'.2
        · rw [if_pos c2] at h2
          have h' : q = (n, f n) := (Option.some.inj h2).symm
          subst h'
          exact ⟨by show n < n + 1; omega, c, rfl⟩
        · rw [if_neg c2] at h2
          have h' : q' = q := Option.some.inj h2
          subst h'
          obtain ⟨a, b, d⟩ := bst_in e
          exact ⟨by omega, b, d⟩
    · rw [if_neg c] at h
      obtain ⟨a, b, d⟩ := bst_in h
      exact ⟨by omega, b, d⟩
theorem bst_ex {f : Nat → Nat} {p : Nat → Bool} : ∀ {n : Nat}, (∃ b, b < n ∧ p b = true) → ∃ q, bst f p n = some q
  | 0, ⟨b, h, _⟩ => absurd h (Nat.not_lt_zero b)
  | n + 1, ⟨b, h1, h2⟩ => by
    rw [bst_S]
    by_cases c : p n = true
    · rw [if_pos c]
      cases bst f p n with
      | none => exact ⟨_, rfl⟩
      | some q =>
        show ∃ q', (if f n < q.2 then some (n, f n) else some q) = some q'
        by_cases c2 : f n < q.2
        · rw [if_pos c2]; exact ⟨_, rfl⟩
        · rw [if_neg c2]; exact ⟨_, rfl⟩
    · rw [if_neg c]
      refine bst_ex ⟨b, ?_, h2⟩
      rcases Nat.lt_or_ge b n with d | d
      · exact d
      · have : b = n := by omega
        subst this
        exact absurd h2 c
def clr (m b : Nat) : Nat := if m.testBit b = true then m - 2 ^ b else m
theorem clr_f : ∀ m, m < 256 → ∀ b, b < 8 → (nI m &&& (((1 : Int32) <<< (nI b &&& 31)) ^^^ (-1))) = nI (clr m b) ∧ clr m b ≤ m ∧ (m.testBit b = true → clr m b < m) ∧ (clr m b).testBit b = false := by decide +kernel
theorem clr_b : ∀ m, m < 256 → ∀ b, b < 8 → ∀ c, c < 8 → (clr m b).testBit c = (m.testBit c && !decide (c = b)) := by decide +kernel
theorem all_f : ∀ k, k ≤ 8 → ((1 : Int32) <<< (nI k &&& 31)) - 1 = nI (2 ^ k - 1) ∧ 2 ^ k - 1 < 256 ∧ ∀ b, b < k → (2 ^ k - 1).testBit b = true := by decide +kernel
theorem bit_ex : ∀ k, k ≤ 8 → ∀ m, m < 2 ^ k → m ≠ 0 → ∃ b, b < k ∧ m.testBit b = true := by decide +kernel
theorem tb_nI {m : Nat} (h : m < 2 ^ 31) (b : Nat) : tb (nI m) b = m.testBit b := by
  rw [tb_nat]
  congr 1
  show (Int32.ofNat m).toBitVec.toNat = m
  have : (Int32.ofNat m).toBitVec = BitVec.ofNat 32 m := rfl
  rw [this, BitVec.toNat_ofNat]
  exact Nat.mod_eq_of_lt (by omega)
def Hf (w : Nat → Nat → Nat) (k : Nat) : Nat → Nat → Nat → Nat
  | 0, _, _ => 0
  | n + 1, m, a => if m = 0 then w a k else ((bst (fun b => w a b + Hf w k n (clr m b) b) (fun b => m.testBit b) k).getD (0, 0)).2
def HH (w : Nat → Nat → Nat) (k m a : Nat) : Nat := Hf w k (m + 1) m a
theorem Hf_fuel {w : Nat → Nat → Nat} {k : Nat} (hk : k ≤ 8) : ∀ {m : Nat}, m < 256 → ∀ {n a : Nat}, m < n → Hf w k n m a = HH w k m a := by
  intro m
  induction m using Nat.strongRecOn with
  | ind m ih =>
    intro hm n a hn
    obtain ⟨n', rfl⟩ : ∃ n', n = n' + 1 := ⟨n - 1, by omega⟩
    unfold HH
    show (if m = 0 then w a k else ((bst (fun b => w a b + Hf w k n' (clr m b) b) (fun b => m.testBit b) k).getD (0, 0)).2) = if m = 0 then w a k else ((bst (fun b => w a b + Hf w k m (clr m b) b) (fun b => m.testBit b) k).getD (0, 0)).2
    by_cases c : m = 0
    · rw [if_pos c, if_pos c]
    · rw [if_neg c, if_neg c]
      congr 2
      refine bst_cong (fun b hb hp => ?_)
      have hc := (clr_f m hm b (by omega)).2.2.1 hp
      rw [ih (clr m b) hc (by omega) (n := n') (by omega), ih (clr m b) hc (by omega) (n := m) (by omega)]
def fH (w : Nat → Nat → Nat) (k m a b : Nat) : Nat := w a b + HH w k (clr m b) b
def bH (w : Nat → Nat → Nat) (k m a : Nat) : Option (Nat × Nat) := bst (fH w k m a) (fun b => m.testBit b) k
def nx (w : Nat → Nat → Nat) (k m a : Nat) : Nat := ((bH w k m a).getD (0, 0)).1
section
variable {w : Nat → Nat → Nat} {k : Nat}
theorem HH_0 (a : Nat) : HH w k 0 a = w a k := rfl
theorem HH_n (hk : k ≤ 8) {m a : Nat} (hm : m < 256) (h0 : m ≠ 0) : HH w k m a = ((bH w k m a).getD (0, 0)).2 := by
  show (if m = 0 then w a k else ((bst (fun b => w a b + Hf w k m (clr m b) b) (fun b => m.testBit b) k).getD (0, 0)).2) = _
  rw [if_neg h0]
  unfold bH fH
  congr 2
  refine bst_cong (fun b hb hp => ?_)
  have hc := (clr_f m hm b (by omega)).2.2.1 hp
  rw [Hf_fuel hk (m := clr m b) (by omega) (n := m) hc]
theorem bH_s (hk : k ≤ 8) {m a : Nat} (hm : m < 2 ^ k) (h0 : m ≠ 0) : bH w k m a = some (nx w k m a, fH w k m a (nx w k m a)) ∧ nx w k m a < k ∧ m.testBit (nx w k m a) = true := by
  obtain ⟨q, hq⟩ := bst_ex (f := fH w k m a) (p := fun b => m.testBit b) (bit_ex k hk m hm h0)
  have hq' : bH w k m a = some q := hq
  obtain ⟨h1, h2, h3⟩ := bst_in hq
  unfold nx
  rw [hq']
  refine ⟨?_, h1, h2⟩
  show some q = some (q.1, fH w k m a q.1)
  rw [← h3]
theorem HH_s (hk : k ≤ 8) {m a : Nat} (hm : m < 2 ^ k) (h0 : m ≠ 0) : HH w k m a = fH w k m a (nx w k m a) := by
  have h2k : 2 ^ k ≤ 256 := Nat.pow_le_pow_right (by decide) hk
  rw [HH_n hk (by omega) h0, (bH_s hk hm h0).1]
  rfl
theorem HH_le (hk : k ≤ 8) (hw : ∀ a b, w a b ≤ 198) : ∀ {m : Nat}, m < 2 ^ k → ∀ a, HH w k m a ≤ 198 * (m + 1) := by
  intro m
  induction m using Nat.strongRecOn with
  | ind m ih =>
    intro hm a
    have h2k : 2 ^ k ≤ 256 := Nat.pow_le_pow_right (by decide) hk
    by_cases c : m = 0
    · subst c; rw [HH_0]; have := hw a k; omega
    · rw [HH_s hk hm c]
      obtain ⟨_, n1, n2⟩ := bH_s (w := w) (a := a) hk hm c
      have hc := (clr_f m (by omega) (nx w k m a) (by omega)).2.2.1 n2
      have := ih (clr m (nx w k m a)) hc (by omega) (nx w k m a)
      have := hw a (nx w k m a)
      unfold fH
      omega
theorem fH_le (hk : k ≤ 8) (hw : ∀ a b, w a b ≤ 198) {m a b : Nat} (hm : m < 2 ^ k) (hb : b < k) : fH w k m a b < 100000 := by
  have h2k : 2 ^ k ≤ 256 := Nat.pow_le_pow_right (by decide) hk
  have hc := (clr_f m (by omega) b (by omega)).2.1
  have := HH_le hk hw (m := clr m b) (by omega) b
  have := hw a b
  unfold fH
  omega
theorem bH_le (hk : k ≤ 8) (hw : ∀ a b, w a b ≤ 198) {m a : Nat} (hm : m < 2 ^ k) : ∀ n, n ≤ k → ∀ q, bst (fH w k m a) (fun b => m.testBit b) n = some q → q.1 < n ∧ q.2 < 100000 := by
  intro n hn q hq
  obtain ⟨h1, h2, h3⟩ := bst_in hq
  exact ⟨h1, by rw [h3]; exact fH_le hk hw hm (by omega)⟩
end
/-! which stops, in their order -/
def psn (p : Nat → Bool) (S a : Nat) : Nat := (lf (fun s => p s && decide (cn p s = a)) S 0).getD 0
theorem cn_le2 {p : Nat → Bool} {a b : Nat} (h : a ≤ b) : cn p a ≤ cn p b := by
  induction b with
  | zero => have : a = 0 := by omega
            subst this; exact Nat.le_refl _
  | succ b ih =>
    by_cases e : a = b + 1
    · subst e; exact Nat.le_refl _
    · have := ih (by omega)
      simp only [cn]
      omega
theorem cn_lt2 {p : Nat → Bool} {a b : Nat} (h : a < b) (ha : p a = true) : cn p a < cn p b := by
  have h1 : cn p (a + 1) = cn p a + 1 := by simp only [cn]; rw [ha]; rfl
  have := cn_le2 (p := p) (show a + 1 ≤ b from h)
  omega
theorem psn_at {p : Nat → Bool} {S s : Nat} (hs : s < S) (h : p s = true) : psn p S (cn p s) = s := by
  unfold psn
  rw [lf_eq (k := s) (Nat.zero_le _) (by omega) (by simp [h]) (fun j _ hj => ?_)]
  · rfl
  · cases c : p j
    · rfl
    · have := cn_lt2 hj c
      have : ¬ (cn p j = cn p s) := by omega
      simp [this]
theorem psn_ex {p : Nat → Bool} : ∀ {S a : Nat}, a < cn p S → ∃ s, s < S ∧ p s = true ∧ cn p s = a
  | 0, a, h => absurd h (Nat.not_lt_zero a)
  | S + 1, a, h => by
    by_cases c : a < cn p S
    · obtain ⟨s, h1, h2, h3⟩ := psn_ex c
      exact ⟨s, by omega, h2, h3⟩
    · simp only [cn] at h
      cases e : p S
      · rw [e] at h
        have : (false : Bool).toNat = 0 := rfl
        omega
      · rw [e] at h
        have : (true : Bool).toNat = 1 := rfl
        exact ⟨S, by omega, e, by omega⟩
theorem psn_ok {p : Nat → Bool} {S a : Nat} (h : a < cn p S) : psn p S a < S ∧ p (psn p S a) = true ∧ cn p (psn p S a) = a := by
  obtain ⟨s, h1, h2, h3⟩ := psn_ex h
  rw [← h3, psn_at h1 h2]
  exact ⟨h1, h2, rfl⟩
theorem sm_psn (p : Nat → Bool) (S : Nat) (g : Nat → Int32) : ∀ n, n ≤ S → sm (fun j => g (psn p S j)) (cn p n) = sm (fun s => if p s = true then g s else 0) n
  | 0, _ => rfl
  | n + 1, hn => by
    have ih := sm_psn p S g n (by omega)
    simp only [cn, sm]
    cases c : p n
    · rw [Bool.toNat_false, Nat.add_zero, ih, if_neg (by decide), add0]
    · rw [Bool.toNat_true, if_pos rfl]
      simp only [sm]
      rw [ih, psn_at (by omega) c]
def abd (x y : Nat) : Nat := (x - y) + (y - x)
def cxN (ν : Mm) (c : Nat) (p : Nat → Bool) (a : Nat) : Nat := if a < cn p (nS ν) then min (ν c (psn p (nS ν) a)).toNatClampNeg 99 else 0
def wyR (ν : Mm) (p : Nat → Bool) (a b : Nat) : Nat := abd (cxN ν 10 p a) (cxN ν 10 p b) + abd (cxN ν 11 p a) (cxN ν 11 p b)
theorem cxN_le (ν : Mm) (c : Nat) (p : Nat → Bool) (a : Nat) : cxN ν c p a ≤ 99 := by
  unfold cxN
  split
  · exact Nat.min_le_right _ _
  · omega
theorem wyR_le (ν : Mm) (p : Nat → Bool) (a b : Nat) : wyR ν p a b ≤ 198 := by
  have h1 := cxN_le ν 10 p a
  have h2 := cxN_le ν 10 p b
  have h3 := cxN_le ν 11 p a
  have h4 := cxN_le ν 11 p b
  unfold wyR abd
  omega
theorem jabs_f {x y : Nat} (hx : x ≤ 99) (hy : y ≤ 99) : jabs (nI x - nI y) = nI (abd x y) := by
  unfold jabs abd
  rcases Nat.lt_or_ge x y with c | c
  · have e : ¬ ((0 : Int32) ≤ nI x - nI y) := by
      rw [Int32.le_iff_toInt_le]
      have := pk_sub_toInt (a := x) (b := y) (by omega) (by omega)
      rw [this]
      have e0 : (0 : Int32).toInt = 0 := rfl
      omega
    rw [if_neg e, show x - y = 0 by omega, Nat.zero_add, ← pk_sub (by omega)]
    apply Int32.toBitVec_inj.mp
    simp only [Int32.toBitVec_sub]
    generalize (nI x).toBitVec = u
    generalize (nI y).toBitVec = v
    rw [show (0 : Int32).toBitVec = 0#32 from rfl, BitVec.zero_sub, BitVec.neg_sub, BitVec.sub_eq_add_neg, BitVec.add_comm]
  · rw [pk_sub c, if_pos (show (0 : Int32) ≤ nI (x - y) from nI_le (a := 0) (Nat.zero_le _) (by omega)), show y - x = 0 by omega, Nat.add_zero]
