/-! a roll, away from any heap -/
/-- what happens at one cell: kind (0 a stone bars, 1 a wall holds, 2 a wall goes, 3 a house comes to be a ruin, 4 it comes there), cell, speed, what the wall held or the house's worth or the stone that bars, steps ahead of it -/
abbrev zRec : Type := Int × Int × Int × Int × Int
abbrev zRo : Type := zH × List zRec × Int × Int
def come (st : zH) (s n : Int) : zH := zset (zset st 1 s n) 3 s (st 3 s + 1)
def zcons (r : zRec) (q : zRo) : zRo := (q.1, r :: q.2.1, q.2.2.1, q.2.2.2)
/-- the speed with which it goes on from a cell into which it has come; 0: it lies there -/
def contS (st : zH) (n sp : Int) : Int := if st 8 n = 1 then 0 else if 0 < sp - st 6 n then sp - st 6 n else 0
/-- at a cell without a stone: state, what happened, speed with which it goes on (0: not) -/
def stepB (σ st : zH) (s n sp m : Int) : zH × zRec × Int :=
  if 0 < st 5 n then
    if sp * σ 13 s ≤ st 5 n then (zset st 5 n (st 5 n - sp * σ 13 s), (1, n, sp, st 5 n, m), 0)
    else (come (zset st 5 n 0) s n, (2, n, sp, st 5 n, m), contS (come (zset st 5 n 0) s n) n (Int.tdiv (sp * σ 13 s - st 5 n) (σ 13 s)))
  else if σ 7 n ≠ -1 ∧ st 9 (σ 7 n) ≠ 1 then (come (zset st 9 (σ 7 n) 1) s n, (3, n, sp, σ 16 (σ 7 n), m), 0)
  else (come st s n, (4, n, sp, 0, m), contS (come st s n) n sp)
/-- from cell c on, at this speed -/
def rollA (σ : zH) : Nat → zH → Int → Int → Int → Int → zRo
  | 0, st, _, _, _, _ => (st, [], -1, 0)
  | f + 1, st, s, c, sp, m =>
    if σ 2 c = -1 then (st, [], -1, 0)
    else if sAt σ st (σ 2 c) = -1 then
      if (stepB σ st s (σ 2 c) (sp + σ 3 c) m).2.2 = 0 then ((stepB σ st s (σ 2 c) (sp + σ 3 c) m).1, [(stepB σ st s (σ 2 c) (sp + σ 3 c) m).2.1], -1, 0)
      else zcons (stepB σ st s (σ 2 c) (sp + σ 3 c) m).2.1 (rollA σ f (stepB σ st s (σ 2 c) (sp + σ 3 c) m).1 s (σ 2 c) (stepB σ st s (σ 2 c) (sp + σ 3 c) m).2.2 (m + 1))
    else (st, [(0, σ 2 c, sp + σ 3 c, sAt σ st (σ 2 c), m)], sAt σ st (σ 2 c), Int.tdiv ((sp + σ 3 c) * σ 13 s) (σ 13 (sAt σ st (σ 2 c))))
def startsA (σ st : zH) (s p : Int) : Prop := st 1 s ≠ -1 ∧ σ 2 (st 1 s) ≠ -1 ∧ σ 14 s < p + σ 3 (st 1 s)
/-- one roll of a stone -/
def rollS (σ st : zH) (s : Int) : zRo := rollA σ 60 (zset st 2 s (st 2 s + 1)) s (st 1 s) 0 0
/-- a trace: for each roll its stone, the cell from which it began, what happened -/
abbrev zTr : Type := List (Int × Int × List zRec)
noncomputable def driveA (σ : zH) : Nat → zH → Int → Int → zH × zTr
  | 0, st, _, _ => (st, [])
  | f + 1, st, s, p => @ite _ (s ≠ -1 ∧ startsA σ st s p) (Classical.propDecidable _) (
      let q := rollS σ st s
      let r := driveA σ f q.1 q.2.2.1 q.2.2.2
      (r.1, (s, st 1 s, q.2.1) :: r.2)) (st, [])
/-- stones i and on, n of them -/
noncomputable def springA (σ : zH) (p : Int) : Nat → Int → zH → zH × zTr
  | 0, _, st => (st, [])
  | n + 1, i, st =>
    let q := driveA σ 10 st i p
    let r := springA σ p n (i + 1) q.1
    (r.1, q.2 ++ r.2)
