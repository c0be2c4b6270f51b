/-! laws, as the class reads them: k brackets may still be opened -/
abbrev zLx : Type := zRd × List Int
def pdS (A : List zTk) (s : zRd) : Int := if sgS A 4 42 s = true then -8 else if sgS A 4 47 s = true then -9 else if sgS A 4 37 s = true then -10 else 0
def fcA (w : Int) : Int := if w = 8 then -1 else if w = 11 then -3 else if w = 12 then -4 else if w = 22 then -2 else if w = 23 then -5 else 0
/-- what an open bracket holds, if one more may be opened -/
def opA (A : List zTk) (inner : Option (zLx → zLx)) (more : zLx → zLx) (x : zLx) : zLx := match inner with
  | none => (flS 5 (tkI A x.1.1).2.1 x.1, x.2)
  | some g => more (g (advS x.1, x.2))
def chA (A : List zTk) (inner : Option (zLx → zLx)) (code : Int) (x : zLx) : zLx :=
  if sgS A 4 40 (advS x.1) = true then opA A inner (fun y => (fun (z : zLx) => (ndS A 4 41 z.1, putA z.2 code)) (match inner with | none => y | some g => g (ndS A 4 44 y.1, y.2))) (advS x.1, x.2)
  else (flS 1 (unf (tkI A (advS x.1).1)) (advS x.1), x.2)
def ptA (A : List zTk) (inner : Option (zLx → zLx)) (x : zLx) : zLx :=
  if kdS A x.1 = 3 then (advS x.1, putA x.2 (tkI A x.1.1).2.2.1)
  else if sgS A 2 24 x.1 = true ∨ sgS A 2 25 x.1 = true then chA A inner (if (tkI A x.1.1).2.2.1 = 24 then -11 else -12) x
  else if sgS A 4 40 x.1 = true then opA A inner (fun y => (ndS A 4 41 y.1, y.2)) x
  else if kdS A x.1 = 2 ∧ fcA (tkI A x.1.1).2.2.1 ≠ 0 then (advS x.1, putA x.2 (fcA (tkI A x.1.1).2.2.1))
  else (flS 1 (unf (tkI A x.1.1)) x.1, x.2)
/-- a loop: while a code comes, take it, read on, put it -/
def lpA (code : zRd → Int) (g : zLx → zLx) : Nat → zLx → zLx
  | 0, x => x
  | f + 1, x => if code x.1 = 0 then x else lpA code g f ((g (advS x.1, x.2)).1, putA (g (advS x.1, x.2)).2 (code x.1))
def smC (A : List zTk) (s : zRd) : Int := if sgS A 4 43 s = true then -6 else if sgS A 4 45 s = true then -7 else 0
def prA (A : List zTk) (inner : Option (zLx → zLx)) (x : zLx) : zLx := lpA (pdS A) (ptA A inner) 1600 (ptA A inner x)
def smmA (A : List zTk) (inner : Option (zLx → zLx)) (x : zLx) : zLx := lpA (smC A) (prA A inner) 1600 (prA A inner x)
def sumA (A : List zTk) : Nat → zLx → zLx
  | 0 => smmA A none
  | k + 1 => smmA A (some (sumA A k))
def ntA (A : List zTk) : Nat → Bool → zRd → Bool × zRd
  | 0, n, s => (n, s)
  | f + 1, n, s => if sgS A 2 20 s = true then ntA A f (!n) (advS s) else (n, s)
def cmC (A : List zTk) (s : zRd) : Int × zRd := if sgS A 4 60 s = true then (-13, advS s) else if sgS A 4 62 s = true then (-14, advS s) else if sgS A 4 61 s = true then (-15, advS s) else (0, advS (flS 1 (unf (tkI A s.1)) s))
def f1A (A : List zTk) (sum : zLx → zLx) (inner : Option (zLx → zLx)) (x : zLx) : zLx :=
  if sgS A 4 91 x.1 = true then opA A inner (fun y => (ndS A 4 93 y.1, y.2)) x
  else if sgS A 2 21 x.1 = true then (advS x.1, putA x.2 1)
  else (fun (y : zLx) => (fun (c : Int × zRd) => (fun (z : zLx) => (z.1, putA z.2 c.1)) (sum (c.2, y.2))) (cmC A y.1)) (sum x)
def ftA (A : List zTk) (sum : zLx → zLx) (inner : Option (zLx → zLx)) (x : zLx) : zLx :=
  (fun (n : Bool × zRd) => (fun (y : zLx) => (y.1, if n.1 = true then putA y.2 (-18) else y.2)) (f1A A sum inner (n.2, x.2))) (ntA A 1600 false x.1)
def boA (A : List zTk) (sum : zLx → zLx) (inner : Option (zLx → zLx)) (x : zLx) : zLx := lpA (fun s => if sgS A 2 19 s = true then -16 else 0) (ftA A sum inner) 1600 (ftA A sum inner x)
def tsA (A : List zTk) (sum : zLx → zLx) (inner : Option (zLx → zLx)) (x : zLx) : zLx := lpA (fun s => if sgS A 2 18 s = true then -17 else 0) (boA A sum inner) 1600 (boA A sum inner x)
def testA (A : List zTk) : Nat → zLx → zLx
  | 0 => tsA A (sumA A 0) none
  | k + 1 => tsA A (sumA A (k + 1)) (some (testA A k))
