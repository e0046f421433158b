/-! the law in force: lines, each a question (none: it holds) and a sum; a sum is a row of signs: a number, a word (-1 - w), a join (minus its letter) -/
def jn (c x y : Int32) : Int32 :=
  if c = nI 124 then (if x = nI 0 ∧ y = nI 0 then nI 0 else nI 1)
  else if c = nI 38 then (if x = nI 0 ∨ y = nI 0 then nI 0 else nI 1)
  else if c = nI 60 then (if x < y then nI 1 else nI 0)
  else if c = nI 61 then (if x = y then nI 1 else nI 0)
  else if c = nI 62 then (if y < x then nI 1 else nI 0)
  else if c = nI 43 then x + y
  else if c = nI 45 then x - y
  else if c = nI 42 then x * y
  else if c = nI 47 then (if y = nI 0 then nI 0 else x / y)
  else if c = nI 37 then (if y = nI 0 then nI 0 else x - x / y * y)
  else nI 0
/-- is it an operand -/
def opd (t : Int32) : Bool := !decide (t < -6)
/-- one sign at work over a row of kept numbers, the last first -/
def ev1 (w : Nat → Int32) (t : Int32) (st : List Int32) : List Int32 :=
  if opd t then (if nI 0 ≤ t then t else w (-1 - t).toNatClampNeg) :: st
  else match st with
    | [] => []
    | x :: r => if t = -126 then -x :: r else if t = -33 then (if x = nI 0 then nI 1 else nI 0) :: r else match r with
      | [] => [x]
      | y :: r' => jn (-t) y x :: r'
def evs (w : Nat → Int32) : List Int32 → List Int32 → List Int32
  | [], st => st
  | t :: ts, st => evs w ts (ev1 w t st)
/-- how many are kept behind a sign; none: too few or too many -/
def dp1 (h : Nat) (t : Int32) (d : Nat) : Option Nat :=
  if opd t then (if d < h then some (d + 1) else none)
  else if t = -126 ∨ t = -33 then (if 1 ≤ d then some d else none)
  else if 2 ≤ d then some (d - 1) else none
def dps (h : Nat) : List Int32 → Nat → Option Nat
  | [], d => some d
  | t :: ts, d => (dp1 h t d).bind (dps h ts)
/-- a sign that may stand in a sum -/
def sgn (t : Int32) : Prop := (∃ v, v < 10000 ∧ t = nI v) ∨ (∃ w, w < 6 ∧ t = -1 - nI w) ∨ t = -126 ∨ t = -33 ∨ t = -124 ∨ t = -38 ∨ t = -60 ∨ t = -61 ∨ t = -62 ∨ t = -43 ∨ t = -45 ∨ t = -42 ∨ t = -47 ∨ t = -37
def EX (ts : List Int32) : Prop := dps 36 ts 0 = some 1 ∧ ∀ t ∈ ts, sgn t
abbrev mLaw : Type := List (List Int32 × List Int32)
def wfL (La : mLaw) : Prop := ∀ l ∈ La, (l.1 = [] ∨ EX l.1) ∧ EX l.2
/-- the signs as the class keeps them -/
def flC : mLaw → List Int32
  | [] => []
  | l :: r => (if l.1 = [] then [] else l.1 ++ [-63]) ++ (l.2 ++ [-59]) ++ flC r
/-- the signs as the model keeps them, its lines' ends -/
def mtk (t : Int32) : Int32 := if opd t then t else t - nI 100
def LC (La : mLaw) (sz : Int32) (sg : Nat → Int32) : Prop := (flC La).length ≤ 161 ∧ sz = nI (flC La).length ∧ ∀ i, i < (flC La).length → sg i = (flC La).getD i 0
/-- what a law gives by its words -/
def lwV (w : Nat → Int32) : mLaw → Int32
  | [] => nI 0
  | l :: r => if l.1 = [] ∨ (evs w l.1 []).headD 0 ≠ nI 0 then (evs w l.2 []).headD 0 else lwV w r
def clp (v : Int32) : Int32 := if v < nI 0 then nI 0 else if nI 50 < v then nI 50 else v
def lwO (w : Nat → Int32) (La : mLaw) : Int32 := clp (if La = [] then nI 8 + w 3 - w 0 else lwV w La)
