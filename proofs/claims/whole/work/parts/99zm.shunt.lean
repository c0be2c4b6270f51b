/-! the reference's reader of laws, as a machine of frames: kind, phase, begins, pair, what is held back (the last first) -/
abbrev zFr : Type := Int × Int × Int × Int × List Int
abbrev zCf : Type := zRd × List Int × Bool × List zFr
def rkA (o : Int) : Int := if o = -17 then 1 else if o = -16 then 2 else if o = -18 then 3 else if o = -13 ∨ o = -14 ∨ o = -15 then 4 else if o = -6 ∨ o = -7 then 5 else 6
def jnA (m : Int) : List Int → List Int → List Int × List Int
  | [], C => ([], C)
  | o :: O, C => if rkA o < m then (o :: O, C) else jnA m O (putA C o)
def opF (A : List zTk) (s : zRd) (C : List Int) (kd pr : Int) (F : List zFr) : zCf ⊕ zLx := if F.length = 9 then .inr (flS 5 (tkI A s.1).2.1 s, []) else .inl (advS s, C, false, (kd, 0, 1, pr, []) :: F)
def ptF (A : List zTk) (s : zRd) (C : List Int) (F : List zFr) : zCf ⊕ zLx :=
  if kdS A s = 3 then .inl (advS s, putA C (tkI A s.1).2.2.1, true, F)
  else if sgS A 2 24 s = true ∨ sgS A 2 25 s = true then (if sgS A 4 40 (advS s) = true then opF A (advS s) C 3 (if (tkI A s.1).2.2.1 = 24 then -11 else -12) F else .inr (dS A (advS s), []))
  else if sgS A 4 40 s = true then opF A s C 2 0 F
  else if kdS A s = 2 ∧ fcA (tkI A s.1).2.2.1 ≠ 0 then .inl (advS s, putA C (fcA (tkI A s.1).2.2.1), true, F)
  else .inr (dS A s, [])
def stpF (A : List zTk) (s : zRd) (C : List Int) (f : zFr) (R : List zFr) : zCf ⊕ zLx :=
  if (f.1 = 1 ∨ f.1 = 5) ∧ f.2.2.1 = 1 then
    (if sgS A 2 20 s = true then .inl (advS s, C, false, (f.1, f.2.1, f.2.2.1, f.2.2.2.1, -18 :: f.2.2.2.2) :: R)
    else if sgS A 4 91 s = true then opF A s C 5 0 ((f.1, f.2.1, 0, f.2.2.2) :: R)
    else if sgS A 2 21 s = true then .inl (advS s, putA C 1, true, (f.1, 2, 0, f.2.2.2) :: R)
    else ptF A s C ((f.1, f.2.1, 0, f.2.2.2) :: R))
  else ptF A s C ((f.1, f.2.1, 0, f.2.2.2) :: R)
def cmA (A : List zTk) (s : zRd) : Int := if sgS A 4 60 s = true then -13 else if sgS A 4 62 s = true then -14 else if sgS A 4 61 s = true then -15 else 0
def hdF (s : zRd) (f : zFr) (ph bg : Int) (o : Int) (j : List Int × List Int) (R : List zFr) : zCf ⊕ zLx := .inl (advS s, j.2, false, (f.1, ph, bg, f.2.2.2.1, o :: j.1) :: R)
def clsF (s : zRd) (C : List Int) (f : zFr) : List zFr → zCf ⊕ zLx
  | [] => .inr (s, [])
  | r :: R => .inl (advS s, (if f.1 = 4 then putA C f.2.2.2.1 else C), true, (if f.1 = 5 then (r.1, 2, r.2.2) else r) :: R)
def stT (A : List zTk) (s : zRd) (C : List Int) (f : zFr) (R : List zFr) : zCf ⊕ zLx :=
  if f.2.1 < 2 ∧ smC A s ≠ 0 then hdF s f f.2.1 f.2.2.1 (smC A s) (jnA 5 f.2.2.2.2 C) R
  else if f.2.1 < 2 ∧ pdS A s ≠ 0 then hdF s f f.2.1 f.2.2.1 (pdS A s) (jnA 6 f.2.2.2.2 C) R
  else if (f.1 = 1 ∨ f.1 = 5) ∧ f.2.1 = 0 ∧ cmA A s ≠ 0 then hdF s f 1 f.2.2.1 (cmA A s) (jnA 5 f.2.2.2.2 C) R
  else if (f.1 = 1 ∨ f.1 = 5) ∧ sgS A 2 19 s = true then (if f.2.1 = 0 then .inr (dS A s, []) else hdF s f 0 1 (-16) (jnA 2 f.2.2.2.2 C) R)
  else if (f.1 = 1 ∨ f.1 = 5) ∧ sgS A 2 18 s = true then (if f.2.1 = 0 then .inr (dS A s, []) else hdF s f 0 1 (-17) (jnA 1 f.2.2.2.2 C) R)
  else if (f.1 = 1 ∨ f.1 = 5) ∧ f.2.1 = 0 then .inr (dS A s, [])
  else if f.1 < 2 then .inr (s, (jnA 1 f.2.2.2.2 C).2)
  else if f.1 = 3 then (if sgS A 4 44 s = true then .inl (advS s, (jnA 1 f.2.2.2.2 C).2, false, (4, f.2.1, f.2.2.1, f.2.2.2.1, (jnA 1 f.2.2.2.2 C).1) :: R) else .inr (dS A s, []))
  else if sgS A 4 (if f.1 = 5 then 93 else 41) s = true then clsF s (jnA 1 f.2.2.2.2 C).2 f R
  else .inr (dS A s, [])
def stp (A : List zTk) (c : zCf) : zCf ⊕ zLx :=
  if effK A c.1 ≠ 0 then .inr (c.1, []) else match c.2.2.2 with
  | [] => .inr (c.1, [])
  | f :: R => if c.2.2.1 = true then stT A c.1 c.2.1 f R else stpF A c.1 c.2.1 f R
def rit (A : List zTk) : Nat → zCf → Option zLx
  | 0, _ => none
  | n + 1, c => match stp A c with
    | .inl c' => rit A n c'
    | .inr r => some r
def Ev (A : List zTk) (c : zCf) (G : zLx → Prop) : Prop := ∃ n r, rit A n c = some r ∧ G r
theorem Ev.i {A : List zTk} {c c' : zCf} {G : zLx → Prop} (h : stp A c = .inl c') (k : Ev A c' G) : Ev A c G := by
  obtain ⟨n, r, e, g⟩ := k
  refine ⟨n + 1, r, ?_, g⟩
  rw [rit, h]
  exact e
theorem Ev.r {A : List zTk} {c : zCf} {r : zLx} {G : zLx → Prop} (h : stp A c = .inr r) (g : G r) : Ev A c G := by
  refine ⟨1, r, ?_, g⟩
  rw [rit, h]
theorem Ev.q {A : List zTk} {c c' : zCf} {G : zLx → Prop} (h : stp A c = stp A c') (k : Ev A c' G) : Ev A c G := by
  obtain ⟨n, r, e, g⟩ := k
  cases n with
  | zero => exact absurd e (by rw [rit]; intro z; cases z)
  | succ n =>
    refine ⟨n + 1, r, ?_, g⟩
    rw [rit] at e ⊢
    rw [h]
    exact e
/-- any end with the fault of y will do -/
def Dd (A : List zTk) (G : zLx → Prop) (y : zRd) : Prop := effK A y ≠ 0 → ∀ r : zLx, effK A r.1 = effK A y → effP A r.1 = effP A y → G r
def eqF (A : List zTk) (s y : zRd) : Prop := effK A s ≠ 0 → effK A y = effK A s ∧ effP A y = effP A s
theorem eqF.t {A : List zTk} {a b c : zRd} (h1 : eqF A a b) (h2 : eqF A b c) : eqF A a c := fun z => ⟨((h2 (by rw [(h1 z).1]; exact z)).1).trans (h1 z).1, ((h2 (by rw [(h1 z).1]; exact z)).2).trans (h1 z).2⟩
theorem eqF.rf {A : List zTk} {a : zRd} : eqF A a a := fun _ => ⟨rfl, rfl⟩
theorem Dd.m {A : List zTk} {G : zLx → Prop} {s y : zRd} (e : eqF A s y) (d : Dd A G y) : Dd A G s := fun z r r1 r2 => d (by rw [(e z).1]; exact z) r (by rw [r1, (e z).1]) (by rw [r2, (e z).2])
theorem Dd.n {A : List zTk} {G : zLx → Prop} {s : zRd} (d : Dd A G (dS A s)) (hd : effK A s = 0) : G (dS A s, []) := d (by unfold dS; rw [(flS_e hd (by decide)).1]; decide) (dS A s, []) rfl rfl
theorem e_go {A : List zTk} {s : zRd} {C : List Int} {o : Bool} {F : List zFr} {G : zLx → Prop} (d : Dd A G s) (k : effK A s = 0 → Ev A (s, C, o, F) G) : Ev A (s, C, o, F) G := by
  by_cases z : effK A s = 0
  · exact k z
  · exact Ev.r (r := (s, [])) (by unfold stp; rw [if_pos z]) (d z (s, []) rfl rfl)
theorem stp_T {A : List zTk} {s : zRd} {C : List Int} {f : zFr} {R : List zFr} (hd : effK A s = 0) : stp A (s, C, true, f :: R) = stT A s C f R := by
  unfold stp
  rw [if_neg (fun z => z hd)]
  dsimp only
  rw [if_pos rfl]
theorem stp_F {A : List zTk} {s : zRd} {C : List Int} {f : zFr} {R : List zFr} (hd : effK A s = 0) : stp A (s, C, false, f :: R) = stpF A s C f R := by
  unfold stp
  rw [if_neg (fun z => z hd)]
  dsimp only
  rw [if_neg (by decide)]
theorem ite_cg {α : Type} {c : Prop} {dc : Decidable c} {a b a' b' : α} (h1 : c → a = a') (h2 : ¬ c → b = b') : (if c then a else b) = (if c then a' else b') := by
  by_cases z : c
  · rw [if_pos z, if_pos z, h1 z]
  · rw [if_neg z, if_neg z, h2 z]
theorem jn_c {m o : Int} {O C : List Int} (h : m ≤ rkA o) : jnA m (o :: O) C = jnA m O (putA C o) := by rw [jnA, if_neg (by omega)]
theorem jn_s {m : Int} {O C : List Int} (h : ∀ o ∈ O.head?, rkA o < m) : jnA m O C = (O, C) := by
  cases O with
  | nil => rfl
  | cons o O => rw [jnA, if_pos (h o rfl)]
theorem rk_1 {o : Int} : 1 ≤ rkA o := by
  unfold rkA
  repeat' split
  all_goals decide
/-- what is held back and must be put next may be put at once -/
theorem stp_lag {A : List zTk} {s : zRd} {C : List Int} {kd ph bg pr o : Int} {O : List Int} {R : List zFr} (k1 : ph < 2 → smC A s ≠ 0 → 5 ≤ rkA o) (k2 : ph < 2 → pdS A s ≠ 0 → 6 ≤ rkA o) (k3 : kd = 1 ∨ kd = 5 → ph = 0 → cmA A s ≠ 0 → 5 ≤ rkA o) (k4 : kd = 1 ∨ kd = 5 → sgS A 2 19 s = true → 2 ≤ rkA o) :
    stp A (s, C, true, (kd, ph, bg, pr, o :: O) :: R) = stp A (s, putA C o, true, (kd, ph, bg, pr, O) :: R) := by
  by_cases hd : effK A s = 0
  case neg => unfold stp; rw [if_pos hd, if_pos hd]
  rw [stp_T hd, stp_T hd]
  unfold stT
  dsimp only
  have j1 : jnA 1 (o :: O) C = jnA 1 O (putA C o) := jn_c rk_1
  refine ite_cg (fun c => ?_) (fun _ => ite_cg (fun c => ?_) (fun _ => ite_cg (fun c => ?_) (fun _ => ite_cg (fun c => ?_) (fun _ => ?_))))
  · rw [jn_c (k1 c.1 c.2)]; rfl
  · rw [jn_c (k2 c.1 c.2)]; rfl
  · rw [jn_c (k3 c.1 c.2.1 c.2.2)]; rfl
  · rw [jn_c (k4 c.1 c.2)]; rfl
  · rw [j1]; rfl
