/-! without a fault no place is told -/
def Pl (s : zRd) : Prop := s.2.1 = 0 → s.2.2 = -1
theorem pl_adv {s : zRd} (h : Pl s) : Pl (advS s) := by
  unfold advS
  split
  · exact h
  · exact h
theorem pl_fl {s : zRd} {k p : Int} (hk : k ≠ 0) : Pl (flS k p s) := fun z => absurd z (flS_z hk)
theorem pl_nd {A : List zTk} {k x : Int} {s : zRd} (h : Pl s) : Pl (ndS A k x s) := by
  unfold ndS
  split
  · exact pl_adv h
  · exact pl_fl (by decide)
theorem pl_nb {A : List zTk} {lo hi : Int} {s : zRd} (h : Pl s) : Pl (nbS A lo hi s).2 := by
  unfold nbS
  split
  · split
    · exact pl_adv h
    · exact pl_fl (by decide)
  · exact pl_fl (by decide)
theorem pl_nm {A : List zTk} {s : zRd} (h : Pl s) : Pl (nmS A s).2 := by
  unfold nmS
  split
  · exact pl_adv h
  · exact pl_fl (by decide)
theorem pl_tw {σ : zH} {p k i : Int} {u : zRd} (h : Pl u) : Pl (twS σ p k i u) := by
  unfold twS
  split
  · exact h
  · exact pl_fl (by decide)
theorem pl_new {A : List zTk} {σ : zH} {s : zRd} (h : Pl s) : Pl (newS A σ s).2 := pl_tw (pl_tw (pl_tw (pl_nm h)))
theorem pl_onr {A : List zTk} {σ : zH} {s : zRd} (h : Pl s) : Pl (onrS A σ s).2 := by
  unfold onrS
  dsimp only
  split
  · exact pl_fl (by decide)
  · exact pl_nm h
theorem pl_cel {A : List zTk} {σ : zH} {lx ly : Int} {s : zRd} (h : Pl s) : Pl (celS A σ lx ly s).2 := pl_nb (pl_nb h)
theorem pl_frc {A : List zTk} {σ : zH} {s : zRd} (h : Pl s) : Pl (frcS A σ s).2 := by
  unfold frcS
  split
  · exact pl_cel h
  split
  · exact pl_cel h
  · exact pl_fl (by decide)
theorem pl_row {A : List zTk} : ∀ (n : Nat) (i : Int) (σ : zH) (s : zRd), Pl s → Pl (rowF A n i σ s).2
  | 0, _, _, _, h => h
  | n + 1, i, σ, s, h => pl_row n (i + 1) _ _ (pl_nb h)
theorem pl_bod {A : List zTk} {σ : zH} {k : Int} {s : zRd} (h : Pl s) : Pl (bodS A σ k s).2 := by
  unfold bodS
  split
  · unfold sField
    split
    · exact pl_nb h
    split
    · exact pl_nb (pl_nb h)
    · exact pl_nb (pl_nb h)
  split
  · exact pl_row _ _ _ _ h
  split
  · exact pl_cel (pl_nd (pl_nb h))
  split
  · exact pl_new h
  split
  · unfold sLand
    dsimp only
    split
    · exact pl_nd (pl_cel (pl_nd (pl_onr h)))
    · exact pl_cel (pl_nd (pl_cel (pl_nd (pl_onr h))))
  split
  · rw [stone_e]
    exact pl_frc (pl_nd (pl_nb (pl_nd (pl_nb (pl_nd (pl_new h))))))
  split
  · rw [house_e]
    exact pl_frc (pl_nd (pl_nb (pl_nd (pl_new h))))
  split
  · unfold sWall
    rw [fre_c]
    exact pl_frc (pl_nd (pl_nb h))
  split
  · exact pl_nb (pl_nd (pl_nb h))
  · exact pl_nb h
def Pg (g : zLx → zLx) : Prop := ∀ x : zLx, Pl x.1 → Pl (g x).1
theorem pg_op {A : List zTk} {inn : Option (zLx → zLx)} {m : zLx → zLx} (hi : ∀ g, inn = some g → Pg g) (hm : Pg m) : Pg (opA A inn m) := by
  intro x h
  cases inn with
  | none => exact pl_fl (by decide)
  | some g => exact hm _ (hi g rfl _ (pl_adv h))
theorem pg_part {A : List zTk} {inn : Option (zLx → zLx)} (hi : ∀ g, inn = some g → Pg g) : Pg (ptA A inn) := by
  intro x h
  unfold ptA
  split
  · exact pl_adv h
  split
  · unfold chA
    split
    · refine pg_op hi (fun y hy => ?_) _ (pl_adv h)
      cases inn with
      | none => exact pl_nd hy
      | some g => exact pl_nd (hi g rfl _ (pl_nd hy))
    · exact pl_fl (by decide)
  split
  · exact pg_op hi (fun y hy => pl_nd hy) x h
  split
  · exact pl_adv h
  · exact pl_fl (by decide)
theorem pg_lp {cd : zRd → Int} {g : zLx → zLx} (hg : Pg g) : ∀ f : Nat, Pg (lpA cd g f) := by
  intro f
  induction f with
  | zero => exact fun x h => h
  | succ f ih =>
    intro x h
    rw [lpA]
    split
    · exact h
    · exact ih _ (hg _ (pl_adv h))
theorem pg_sum {A : List zTk} : ∀ k, Pg (sumA A k)
  | 0 => fun x h => by
    have hp : Pg (ptA A none) := pg_part (fun g z => nomatch z)
    have hr : Pg (prA A none) := fun x h => pg_lp hp 1600 _ (hp x h)
    exact pg_lp hr 1600 _ (hr x h)
  | k + 1 => fun x h => by
    have hp : Pg (ptA A (some (sumA A k))) := pg_part (fun g z => by have e := Option.some.inj z; rw [← e]; exact pg_sum k)
    have hr : Pg (prA A (some (sumA A k))) := fun x h => pg_lp hp 1600 _ (hp x h)
    exact pg_lp hr 1600 _ (hr x h)
theorem pl_nt {A : List zTk} : ∀ (f : Nat) (n : Bool) (s : zRd), Pl s → Pl (ntA A f n s).2
  | 0, _, _, h => h
  | f + 1, n, s, h => by
    rw [ntA]
    split
    · exact pl_nt f (!n) (advS s) (pl_adv h)
    · exact h
theorem pl_cm {A : List zTk} {s : zRd} (h : Pl s) : Pl (cmC A s).2 := by
  rw [cm_e.2]
  split
  · exact pl_fl (by decide)
  · exact pl_adv h
theorem pg_ts {A : List zTk} {sum : zLx → zLx} {inn : Option (zLx → zLx)} (hs : Pg sum) (hi : ∀ g, inn = some g → Pg g) : Pg (tsA A sum inn) := by
  have h1 : Pg (f1A A sum inn) := by
    intro x h
    unfold f1A
    split
    · exact pg_op hi (fun y hy => pl_nd hy) x h
    split
    · exact pl_adv h
    · exact hs _ (pl_cm (hs x h))
  have h2 : Pg (ftA A sum inn) := fun x h => h1 _ (pl_nt _ _ _ h)
  have h3 : Pg (boA A sum inn) := fun x h => pg_lp h2 1600 _ (h2 x h)
  exact fun x h => pg_lp h3 1600 _ (h3 x h)
theorem pg_tst {A : List zTk} : ∀ k, Pg (testA A k)
  | 0 => pg_ts (pg_sum 0) (fun g z => nomatch z)
  | k + 1 => pg_ts (pg_sum (k + 1)) (fun g z => by have e := Option.some.inj z; rw [← e]; exact pg_tst k)
theorem pl_kn {A : List zTk} {σ : zH} {F : Int} {s : zRd} (h : Pl s) : Pl (kndS A σ F s).2 := by
  unfold kndS
  by_cases q : mostA σ (owS A s) = -1 ∨ ¬ F = (if owS A s = 0 then 1 else 0)
  · rw [if_pos q]
    exact pl_fl (k := 1) (by decide)
  rw [if_neg q]
  by_cases q2 : σ 8 (owS A s) < mostA σ (owS A s)
  · rw [if_pos q2]
    exact pl_adv h
  · rw [if_neg q2]
    exact pl_fl (k := 5) (by decide)
theorem pl_stm {A : List zTk} {x : zS4} (h : Pl x.2.1) : Pl (stmY A x).2.1 := by
  refine pl_nd ?_
  unfold bodY
  split
  · exact pg_tst 8 _ (pl_nd (pg_sum 8 _ (pl_adv h)))
  · unfold bodX
    split
    · exact pl_kn h
    · exact pl_bod (pl_kn h)
theorem pl_lp {A : List zTk} : ∀ (f n : Nat) (x : zS4), Pl x.2.1 → Pl (lpY A f n x).2.2.1
  | 0, _, _, h => h
  | f + 1, n, x, h => by
    rw [lpY]
    split
    · exact pl_lp f (n + 1) _ (pl_stm h)
    · exact h
theorem pl_out {A : List zTk} {σ : zH} : Pl (finS A (outY A σ).2.2.1) := by
  have h : Pl (outY A σ).2.2.1 := by
    unfold outY
    split
    · exact pl_fl (by decide)
    · refine pl_lp _ _ _ ?_
      show Pl (stmS A 1 σ (0, 0, -1)).2
      have p0 : Pl (0, 0, -1) := fun _ => rfl
      unfold stmS endS
      split
      · exact pl_kn p0
      · exact pl_nd (pl_bod (pl_kn p0))
  unfold finS
  split
  · exact h
  · exact pl_fl (by decide)
/-- the fault that is told is the one that both find -/
theorem fin_f {A : List zTk} {s : zRd} : effK A (finS A s) = (finS A s).2.1 ∧ ((finS A s).2.1 ≠ 0 → effP A (finS A s) = (finS A s).2.2) ∧ ((finS A s).2.1 = 0 → finS A s = s ∧ effP A s = -1 ∧ (tkI A s.1).1 = 0) := by
  by_cases z : (finS A s).2.1 = 0
  · have kz : kdS A s = 0 := by
      refine Classical.byContradiction fun w => ?_
      unfold finS at z
      rw [if_neg w] at z
      exact flS_z (by decide) z
    have e : finS A s = s := by unfold finS; rw [if_pos kz]
    have f := kd_0 kz (by decide)
    have b := eff_b (A := A) f.1
    rw [f.2] at b
    rw [e]
    exact ⟨by rw [b.1, f.1]; rfl, fun w => absurd f.1 w, fun _ => ⟨rfl, by rw [b.2]; rfl, f.2⟩⟩
  · have b := eff_f (A := A) z
    exact ⟨b.1, fun _ => b.2, fun w => absurd w z⟩
