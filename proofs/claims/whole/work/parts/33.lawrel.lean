/-! what ties the two laws' codes -/
def lbin (op : Nat) (x y : Int32) : Int32 := if op = 2 then x + y else if op = 3 then x - y else if op = 4 then x * y else if op = 5 then x / y else if op = 6 then x - x / y * y else if op = 7 then (if x < y then 1 else 0) else if op = 8 then (if y < x then 1 else 0) else (if x = y then 1 else 0)
/-- a run of a code od from k to e on a stack, fc the facts: none: it goes wrong; some none: no value; else the stack -/
def lev (od : Nat → Nat × Nat) (fc : Nat → Int32) : Nat → Nat → Nat → List Int32 → Option (Option (List Int32))
  | 0, _, _, _ => none
  | n + 1, k, e, st =>
    if e ≤ k then some (some st) else
    if 64 ≤ st.length then none else
    if (od k).1 = 0 then lev od fc n (k + 1) e (nI (od k).2 :: st) else
    if (od k).1 = 1 then lev od fc n (k + 1) e (fc (od k).2 :: st) else
    if (od k).1 = 10 then (match st with
      | x :: r => lev od fc n (k + 1) e ((1 - x) :: r)
      | [] => none) else
    if (od k).1 = 11 then (match st with
      | x :: r => if x = 0 then lev od fc n (od k).2 e (x :: r) else if x = 1 then lev od fc n (k + 1) e r else none
      | [] => none) else
    if (od k).1 = 12 then (match st with
      | x :: r => if x = 1 then lev od fc n (od k).2 e (x :: r) else if x = 0 then lev od fc n (k + 1) e r else none
      | [] => none) else
    (match st with
      | y :: x :: r => if ((od k).1 = 5 ∨ (od k).1 = 6) ∧ y = 0 then some none else lev od fc n (k + 1) e (lbin (od k).1 x y :: r)
      | _ => none)
/-- the letter of a fact -/
def lch (w : Nat) : Nat := if w = 0 then 116 else if w = 1 then 107 else if w = 2 then 108 else if w = 3 then 102 else if w = 4 then 112 else if w = 5 then 110 else if w = 6 then 104 else if w = 7 then 115 else if w = 8 then 98 else if w = 9 then 121 else if w = 10 then 120 else 114
/-- the class's step, its value, the reference's code and the pure one at k -/
def opOk (k : Nat) (s v c : Int32) (o : Nat × Nat) : Prop := c = nI (1048576 * o.1 + o.2) ∧ o.2 < 1048576 ∧ ((o.1 = 0 ∧ s = 0 ∧ v = nI o.2) ∨ (o.1 = 1 ∧ s = 1 ∧ v = nI (lch o.2) ∧ o.2 < 12) ∨ (o.1 = 2 ∧ s = 43) ∨ (o.1 = 3 ∧ s = 45) ∨ (o.1 = 4 ∧ s = 42) ∨ (o.1 = 5 ∧ s = 47) ∨ (o.1 = 6 ∧ s = 37) ∨ (o.1 = 7 ∧ s = 60) ∨ (o.1 = 8 ∧ s = 62) ∨ (o.1 = 9 ∧ s = 61) ∨ (o.1 = 10 ∧ s = 2) ∨ (o.1 = 11 ∧ s = 3 ∧ v = nI o.2 ∧ k < o.2 ∧ o.2 ≤ 200) ∨ (o.1 = 12 ∧ s = 4 ∧ v = nI o.2 ∧ k < o.2 ∧ o.2 ≤ 200))
/-- a code that leaves one value, or none -/
def wfE (od : Nat → Nat × Nat) (a b : Nat) : Prop := ∀ fc : Nat → Int32, lev od fc (b - a + 1) a b [] = some none ∨ ∃ v, lev od fc (b - a + 1) a b [] = some (some [v])
def wfC (od : Nat → Nat × Nat) (a b : Nat) : Prop := ∀ fc : Nat → Int32, lev od fc (b - a + 1) a b [] = some none ∨ ∃ v, (v = 0 ∨ v = 1) ∧ lev od fc (b - a + 1) a b [] = some (some [v])
def odOf (cd : Nat → Int32) (k : Nat) : Nat × Nat := ((cd k).toNatClampNeg / 1048576, (cd k).toNatClampNeg % 1048576)
def pLaw (clX : Int32) (st va le su te en : Nat → Int32) (clM : Int32) (cd leM fr ha to : Nat → Int32) : Prop :=
  clX = clM ∧ ∃ n : Nat, n ≤ 14 ∧ clM = nI n ∧ ∀ q, q < n → le q = leM q ∧ su q = fr q ∧ te q = ha q ∧ en q = to q ∧ ∃ a b c, fr q = nI a ∧ ha q = nI b ∧ to q = nI c ∧ a ≤ b ∧ b ≤ c ∧ c ≤ 200 ∧ wfE (odOf cd) a b ∧ wfC (odOf cd) b c ∧ ∀ k, a ≤ k → k < c → opOk k (st k) (va k) (cd k) (odOf cd k)
