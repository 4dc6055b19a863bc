/-! what ties the two laws' codes: provisional form, refined in its own module -/
/-- a run of a code from k to 'to' on a stack: none: it goes wrong; some none: refused; else the stack -/
def lopn (cd : Nat → Int32) (k : Nat) : Int32 := cd k / 1048576
def lval (cd : Nat → Int32) (k : Nat) : Int32 := cd k - cd k / 1048576 * 1048576
def lbin (op x y : Int32) : Int32 := if op = 2 then x + y else if op = 3 then x - y else if op = 4 then x * y else if op = 5 then x / y else if op = 6 then x - x / y * y else if op = 7 then (if x < y then 1 else 0) else if op = 8 then (if y < x then 1 else 0) else (if x = y then 1 else 0)
def lev (cd fc : Nat → Int32) : Nat → Nat → Nat → List Int32 → Option (Option (List Int32))
  | 0, _, _, _ => none
  | n + 1, k, e, st =>
    if e ≤ k then some (some st) else
    if 64 ≤ st.length then none else
    if lopn cd k = 0 then lev cd fc n (k + 1) e (lval cd k :: st) else
    if lopn cd k = 1 then lev cd fc n (k + 1) e (fc (lval cd k).toNatClampNeg :: st) else
    if lopn cd k = 10 then (match st with
      | x :: r => lev cd fc n (k + 1) e ((1 - x) :: r)
      | [] => none) else
    if lopn cd k = 11 ∨ lopn cd k = 12 then (match st with
      | x :: r => if x = (if lopn cd k = 12 then 1 else 0) then lev cd fc n (lval cd k).toNatClampNeg e (x :: r) else lev cd fc n (k + 1) e r
      | [] => none) else
    (match st with
      | y :: x :: r => if (lopn cd k = 5 ∨ lopn cd k = 6) ∧ y = 0 then some none else lev cd fc n (k + 1) e (lbin (lopn cd k) x y :: r)
      | _ => none)
/-- a letter's number -/
def lfac (c : Int32) : Int32 := if c = 116 then 0 else if c = 107 then 1 else if c = 108 then 2 else if c = 102 then 3 else if c = 112 then 4 else if c = 110 then 5 else if c = 104 then 6 else if c = 115 then 7 else if c = 98 then 8 else if c = 121 then 9 else if c = 120 then 10 else if c = 114 then 11 else -1
/-- a step of the class's law and a code of the reference's -/
def opRel (s v c : Int32) : Prop := ∃ op w : Nat, c = nI (1048576 * op + w) ∧ w < 1048576 ∧ op < 13 ∧ ((op = 0 ∧ s = 0 ∧ v = nI w) ∨ (op = 1 ∧ s = 1 ∧ lfac v = nI w ∧ w < 12) ∨ (op = 2 ∧ s = 43) ∨ (op = 3 ∧ s = 45) ∨ (op = 4 ∧ s = 42) ∨ (op = 5 ∧ s = 47) ∨ (op = 6 ∧ s = 37) ∨ (op = 7 ∧ s = 60) ∨ (op = 8 ∧ s = 62) ∨ (op = 9 ∧ s = 61) ∨ (op = 10 ∧ s = 2) ∨ (op = 11 ∧ s = 3 ∧ v = nI w) ∨ (op = 12 ∧ s = 4 ∧ v = nI w))
/-- a code that leaves one value, whatever stands below, or is refused -/
def wfE (cd : Nat → Int32) (a b d : Nat) : Prop := ∀ (fc : Nat → Int32) (st : List Int32), st.length + d ≤ 64 → lev cd fc (b - a + 1) a b st = some none ∨ ∃ v, lev cd fc (b - a + 1) a b st = some (some (v :: st))
def wfC (cd : Nat → Int32) (a b d : Nat) : Prop := ∀ (fc : Nat → Int32) (st : List Int32), st.length + d ≤ 64 → lev cd fc (b - a + 1) a b st = some none ∨ ∃ v, (v = 0 ∨ v = 1) ∧ lev cd fc (b - a + 1) a b st = some (some (v :: st))
def pLaw (clX : Int32) (st va le su te en : Nat → Int32) (clM : Int32) (cd leM fr ha to : Nat → Int32) : Prop :=
  clX = clM ∧ ∃ n, n ≤ 14 ∧ clM = nI n ∧ ∀ q, q < n → le q = leM q ∧ su q = fr q ∧ te q = ha q ∧ en q = to q ∧ ∃ a b c, fr q = nI a ∧ ha q = nI b ∧ to q = nI c ∧ a ≤ b ∧ b ≤ c ∧ c ≤ 200 ∧ wfE cd a b 40 ∧ wfC cd b c 40 ∧ ∀ k, a ≤ k → k < c → opRel (st k) (va k) (cd k)
