/-! the relation of the two memories -/
def pMf (i : Nat) : Bool := i == 0 || i == 1 || i == 2 || i == 3 || i == 4 || i == 5 || i == 35 || i == 36 || i == 38 || i == 58 || i == 61
def pM (c i : Nat) : Bool := match c with
  | 0 => pMf i
  | n + 1 => decide (n + 1 ≤ 30) || (decide (37 ≤ n + 1) && decide (n + 1 ≤ 41)) || (decide (44 ≤ n + 1) && decide (n + 1 ≤ 47))
/-- what of the reference's memory lasts from call to call -/
def absM (ν : Mm) : Mm := fun c i => if pM c i then ν c i else 0
def pX (c i : Nat) : Bool := if c = 0 then i == 12 else if c = 1 then i == 1 else if c = 2 then i == 10 else if c = 3 then i == 7 else if c = 4 then (i == 12 || i == 13) else if c = 5 then i == 4 else if c = 6 then (i == 4 || i == 5) else if c = 8 then i == 5 else if c = 10 then i == 8 else (decide (12 ≤ c) && decide (c ≤ 44)) || (decide (48 ≤ c) && decide (c ≤ 51)) || (decide (63 ≤ c) && decide (c ≤ 68))
/-- what of the class's memory lasts from call to call -/
def absX (μ : Mm) : Mm := fun c i => if pX c i then μ c i else 0
def sm (f : Nat → Int32) : Nat → Int32
  | 0 => 0
  | n + 1 => sm f n + f n
def cn (p : Nat → Bool) : Nat → Nat
  | 0 => 0
  | n + 1 => cn p n + (p n).toNat
def gI (x : Int32) (n : Nat) : Prop := ∃ k : Nat, k ≤ n ∧ x = nI k
def gO (x : Int32) (n : Nat) : Prop := x = -1 ∨ gI x n
def nT (ν : Mm) : Nat := (ν 0 0).toNatClampNeg
def nB (ν : Mm) : Nat := (ν 0 1).toNatClampNeg
def nS (ν : Mm) : Nat := (ν 0 2).toNatClampNeg
def nR (ν : Mm) : Nat := (ν 0 3).toNatClampNeg
def gNum (t bk so re la ta ac : Int32) : Prop := gI t 199 ∧ gI bk 32 ∧ gI so 10 ∧ gI re 16 ∧ gI la 20 ∧ gI ta 400 ∧ gI ac 200
def gPlace (x : Int32) (R : Nat) : Prop := gI x 3 ∨ (∃ r : Nat, r < R ∧ x = nI (10 + r)) ∨ x = nI 40
def gBook (B R : Nat) (ki le fo pr pl du len : Nat → Int32) : Prop := (∀ b, b < B → gI (ki b) 7 ∧ (gI (le b) 9 ∧ le b ≠ 0) ∧ gI (fo b) 2 ∧ gI (pr b) 1000 ∧ gPlace (pl b) R ∧ gO (du b) 300 ∧ ((∃ r : Nat, pl b = nI (10 + r) ∧ r < 16) → gI (du b) 300)) ∧ ∀ b, B ≤ b → len b = 0 ∧ pl b = 0
def gShelf (sh : Nat → Int32) : Prop := ∀ v, v < 3 → gI (sh v) 99
def gStop (S : Nat) (xs ys ha vv vd pd pv : Nat → Int32) : Prop := (∀ s, S ≤ s → vd s = 0) ∧ ∀ s, s < S → gI (xs s) 99 ∧ gI (ys s) 99 ∧ gI (ha s) 200 ∧ gO (vv s) 2 ∧ gI (vd s) 13 ∧ gO (pd s) 199 ∧ (pd s ≠ -1 → gI (pv s) 2)
def gRead (R S : Nat) (so ne lo : Nat → Int32) : Prop := (∀ r, r < R → (∃ s : Nat, s < S ∧ so r = nI s) ∧ gI (ne r) 2) ∧ ∀ r, R ≤ r → lo r = 0
def gAsk (R B : Nat) (ad : Nat → Int32) : Prop := ∀ r, r < R → ∀ b, b < 32 → gO (ad (32 * r + b)) 199 ∧ (B ≤ b → ad (32 * r + b) = -1)
def gHad (R B : Nat) (hh : Nat → Int32) : Prop := ∀ r, r < 16 → ∀ b, b < 32 → (hh (32 * r + b) = 0 ∨ hh (32 * r + b) = 1) ∧ (R ≤ r ∨ B ≤ b → hh (32 * r + b) = 0)
def gLost (il : Nat → Int32) : Prop := ∀ v, v < 3 → ∀ d, d < 200 → il (200 * v + d) = 0 ∨ il (200 * v + d) = 1
def gPut (S : Nat) (ip : Nat → Int32) : Prop := ∀ v, v < 3 → ∀ d, d < 200 → ∀ s, s < 10 → (ip (2000 * v + 10 * d + s) = 0 ∨ ip (2000 * v + 10 * d + s) = 1) ∧ (S ≤ s → ip (2000 * v + 10 * d + s) = 0)
def gLoan (R B : Nat) (so lo bs ki len bk bv : Nat → Int32) (al : Int32) : Prop := (∀ s, s < 10 → bs s = sm (fun r => if so r = nI s then lo r else 0) R) ∧ (∀ k, k < 8 → bk k = sm (fun b => if ki b = nI k then len b else 0) B) ∧ al = bv 0 + bv 1 + bv 2
/-- what always holds of the reference's memory -/
def Good (ν : Mm) : Prop :=
  gNum (ν 0 0) (ν 0 1) (ν 0 2) (ν 0 3) (ν 0 5) (ν 0 38) (ν 0 61) ∧ gBook (nB ν) (nR ν) (ν 1) (ν 2) (ν 3) (ν 4) (ν 5) (ν 6) (ν 7) ∧ gShelf (ν 9) ∧ gStop (nS ν) (ν 10) (ν 11) (ν 12) (ν 13) (ν 14) (ν 24) (ν 25) ∧ gRead (nR ν) (nS ν) (ν 15) (ν 16) (ν 19) ∧ gAsk (nR ν) (nB ν) (ν 20) ∧ gHad (nR ν) (nB ν) (ν 21) ∧ gLost (ν 22) ∧ gPut (nS ν) (ν 23) ∧ gLoan (nR ν) (nB ν) (ν 15) (ν 19) (ν 26) (ν 1) (ν 7) (ν 27) (ν 28) (ν 0 35)
def rNum (μ ν : Mm) : Prop := μ 0 12 = ν 0 0 ∧ μ 2 10 = ν 0 1 ∧ μ 4 12 = ν 0 2 ∧ μ 3 7 = ν 0 3 ∧ μ 8 5 = ν 0 4 ∧ μ 6 5 = ν 0 5 ∧ μ 4 13 = ν 0 36 ∧ μ 1 1 = ν 0 38 ∧ μ 6 4 = ν 0 61
def rBook (μ ν : Mm) : Prop := μ 15 = ν 1 ∧ μ 16 = ν 2 ∧ μ 17 = ν 3 ∧ μ 18 = ν 4 ∧ μ 19 = ν 5 ∧ μ 20 = ν 6 ∧ μ 21 = ν 7 ∧ μ 22 = ν 8
def rStop (μ ν : Mm) : Prop := μ 32 = ν 10 ∧ μ 33 = ν 11 ∧ μ 34 = ν 12 ∧ μ 35 = ν 13 ∧ μ 36 = ν 14 ∧ μ 37 = ν 24 ∧ μ 40 = ν 29
def rRead (μ ν : Mm) : Prop := μ 25 = ν 15 ∧ μ 26 = ν 16 ∧ μ 27 = ν 17 ∧ μ 30 = ν 19 ∧ μ 31 = ν 18
def rVan (μ ν : Mm) : Prop := (∀ v, v < 3 → μ 12 v = ν 9 v) ∧ μ 13 = ν 28
def rAct (μ ν : Mm) : Prop := μ 48 = ν 44 ∧ μ 49 = ν 47 ∧ μ 50 = ν 45 ∧ μ 51 = ν 46
def dPV (S : Nat) (pvX pvM pd : Nat → Int32) : Prop := ∀ s, s < S → (pd s ≠ -1 → pvX s = pvM s) ∧ (pd s = -1 → pvX s = -1)
def dHad (hb hk hh : Nat → Int32) : Prop := (∀ b, b < 32 → ∀ r, r < 32 → tb (hb b) r = (decide (r < 16) && decide (hh (32 * r + b) ≠ 0))) ∧ ∀ r, r < 16 → ∀ b, b < 32 → tb (hk r) b = decide (hh (32 * r + b) ≠ 0)
def dKind (B : Nat) (ok ki : Nat → Int32) : Prop := ∀ k, k < 8 → ∀ b, b < 32 → tb (ok k) b = (decide (b < B) && decide (ki b = nI k))
def dOut (B : Nat) (ou pl : Nat → Int32) : Prop := ∀ r, r < 16 → ou r = nI (cn (fun b => decide (pl b = nI (10 + r))) B)
def dRd (R : Nat) (rs so : Nat → Int32) : Prop := ∀ s, s < 10 → ∀ r, r < 32 → tb (rs s) r = (decide (r < R) && decide (so r = nI s))
def dTold (S : Nat) (to vv vd : Nat → Int32) : Prop := ∀ v, v < 3 → ∀ d, d < 14 → ∀ s, s < 32 → tb (to (14 * v + d)) s = (decide (s < S) && decide (vv s = nI v) && decide (vd s = nI d))
def dPut (pt ip : Nat → Int32) : Prop := ∀ v, v < 3 → ∀ d, d < 200 → ∀ s, s < 32 → tb (pt (200 * v + d)) s = (decide (s < 10) && decide (ip (2000 * v + 10 * d + s) ≠ 0))
def dLost (lt il : Nat → Int32) : Prop := ∀ v, v < 3 → ∀ d, d < 200 → (lt (200 * v + d) = 0 ↔ il (200 * v + d) = 0)
def dAsk (R : Nat) (dy ad : Nat → Int32) (sz : Int32) : Prop := (∀ r, r < 16 → ∀ b, b < 32 → dy (32 * r + b) = if r < R then ad (32 * r + b) else -1) ∧ sz = sm (fun r => nI (cn (fun b => decide (ad (32 * r + b) ≠ -1)) 32)) R
def dTape (tX tM : Nat → Int32) (n : Int32) : Prop := ∀ i : Nat, i < n.toNatClampNeg → tX i = tM i &&& 255
def RX (μ ν : Mm) : Prop :=
  rNum μ ν ∧ rBook μ ν ∧ rStop μ ν ∧ rRead μ ν ∧ rVan μ ν ∧ rAct μ ν ∧ dPV (nS ν) (μ 38) (ν 25) (ν 24) ∧ dHad (μ 23) (μ 28) (ν 21) ∧ dKind (nB ν) (μ 24) (ν 1) ∧ dOut (nB ν) (μ 29) (ν 5) ∧ dRd (nR ν) (μ 39) (ν 15) ∧ dTold (nS ν) (μ 41) (ν 13) (ν 14) ∧ dPut (μ 42) (ν 23) ∧ dLost (μ 43) (ν 22) ∧ dAsk (nR ν) (μ 44) (ν 20) (μ 5 4) ∧ dTape (μ 14) (ν 30) (ν 0 38) ∧ pLaw (μ 10 8) (μ 63) (μ 64) (μ 65) (μ 66) (μ 67) (μ 68) (ν 0 58) (ν 37) (ν 38) (ν 39) (ν 40) (ν 41)
def Rel (μ ν : Mm) : Prop := RX μ ν ∧ Good ν
theorem Good_abs {ν ν' : Mm} (h : absM ν' = absM ν) (g : Good ν) : Good ν' := by
  have g2 : Good (absM ν) := g
  rw [← h] at g2
  exact g2
theorem RX_abs {μ ν ν' : Mm} (h : absM ν' = absM ν) (g : RX μ ν) : RX μ ν' := by
  have g2 : RX μ (absM ν) := g
  rw [← h] at g2
  exact g2
theorem RX_absX {μ μ' ν : Mm} (h : absX μ' = absX μ) (g : RX μ ν) : RX μ' ν := by
  have g2 : RX (absX μ) ν := g
  rw [← h] at g2
  exact g2
theorem Rel_abs {μ μ' ν ν' : Mm} (hx : absX μ' = absX μ) (hm : absM ν' = absM ν) (g : Rel μ ν) : Rel μ' ν' := ⟨RX_absX hx (RX_abs hm g.1), Good_abs hm g.2⟩
theorem absM_s {ν : Mm} {c i : Nat} {v : Int32} (h : pM c i = false) : absM (mset ν c i v) = absM ν := by
  funext q j
  unfold absM
  by_cases e : q = c
  · subst e
    by_cases e2 : j = i
    · subst e2; simp [h]
    · rw [mset_n e2]
  · rw [mset_o e]
theorem absX_s {ν : Mm} {c i : Nat} {v : Int32} (h : pX c i = false) : absX (mset ν c i v) = absX ν := by
  funext q j
  unfold absX
  by_cases e : q = c
  · subst e
    by_cases e2 : j = i
    · subst e2; simp [h]
    · rw [mset_n e2]
  · rw [mset_o e]
