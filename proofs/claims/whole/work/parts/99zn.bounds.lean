/-! how readers of laws go on: a fault stays, else at least k tokens are taken -/
def Bd (A : List zTk) (k : Nat) (s s' : zRd) : Prop := (s'.1 < A.length ∧ 0 ≤ s'.2.1) ∧ eqF A s s' ∧ (effK A s = 0 → effK A s' = 0 → s.1 + k ≤ s'.1)
theorem Bd.t {A : List zTk} {k l : Nat} {a b c : zRd} (h1 : Bd A k a b) (h2 : Bd A l b c) : Bd A (k + l) a c := by
  refine ⟨h2.1, h1.2.1.t h2.2.1, fun z y => ?_⟩
  have zb : effK A b = 0 := Classical.byContradiction fun w => w (((h2.2.1 w).1).symm.trans y)
  have := h1.2.2 z zb
  have := h2.2.2 zb y
  omega
theorem Bd.w {A : List zTk} {k l : Nat} {a b : zRd} (h1 : Bd A k a b) (h : l ≤ k) : Bd A l a b := ⟨h1.1, h1.2.1, fun z y => by have := h1.2.2 z y; omega⟩
theorem Bd.rf {A : List zTk} {s : zRd} (h1 : s.1 < A.length) (h2 : 0 ≤ s.2.1) : Bd A 0 s s := ⟨⟨h1, h2⟩, eqF.rf, fun _ _ => Nat.le_refl _⟩
theorem Bd.l {A : List zTk} {k : Nat} {a b : zRd} (h1 : Bd A k a b) (y : effK A b = 0) : effK A a = 0 := Classical.byContradiction fun w => w (((h1.2.1 w).1).symm.trans y)
theorem eff_k {A : List zTk} {s : zRd} (f : s.2.1 = 0) (k : (tkI A s.1).1 ≠ 5) : effK A s = 0 := by
  rw [(eff_b (A := A) f).1, if_neg k]
theorem adv_e {s : zRd} (f : s.2.1 = 0) : advS s = (s.1 + 1, s.2) := by unfold advS; rw [if_pos f]
theorem bd_adv {A : List zTk} {s : zRd} (ok : AOk A) (h1 : s.1 < A.length) (f : s.2.1 = 0) (k0 : (tkI A s.1).1 ≠ 0) (k5 : (tkI A s.1).1 ≠ 5) : Bd A 1 s (advS s) := by
  rw [adv_e f]
  exact ⟨⟨ok.2.1 s.1 h1 k0, by show 0 ≤ s.2.1; omega⟩, fun z => absurd (eff_k f k5) z, fun _ _ => Nat.le_refl _⟩
theorem bd_dS {A : List zTk} {k : Nat} {s : zRd} (h1 : s.1 < A.length) (h2 : 0 ≤ s.2.1) : Bd A k s (dS A s) := by
  refine ⟨⟨by unfold dS; rw [flS_1]; exact h1, flS_n h2 (by decide)⟩, fun z => flS_d z, fun z y => ?_⟩
  have := (flS_e (A := A) (s := s) (k := 1) (p := unf (tkI A s.1)) z (by decide)).1
  unfold dS at y
  omega
theorem bd_f5 {A : List zTk} {k : Nat} {s : zRd} {p : Int} (h1 : s.1 < A.length) (hd : effK A s = 0) : Bd A k s (flS 5 p s) := by
  have f := (eff_0 hd).1
  refine ⟨⟨by rw [flS_1]; exact h1, flS_n (by omega) (by decide)⟩, fun z => absurd hd z, fun z y => ?_⟩
  have := (flS_e (A := A) (s := s) (k := 5) (p := p) z (by decide)).1
  omega
theorem sg_a {A : List zTk} {k x : Int} {s : zRd} (hk : k ≠ 5) (h : sgS A k x s = true) : effK A s = 0 := eff_k (sg_k hk h).1 (by rw [(sg_k hk h).2.1]; exact hk)
theorem bd_sg {A : List zTk} {k x : Int} {s : zRd} (ok : AOk A) (h1 : s.1 < A.length) (hk : k ≠ 5) (k0 : k ≠ 0) (h : sgS A k x s = true) : Bd A 1 s (advS s) := bd_adv ok h1 (sg_k hk h).1 (by rw [(sg_k hk h).2.1]; exact k0) (by rw [(sg_k hk h).2.1]; exact hk)
theorem bd_nd {A : List zTk} {k x : Int} {s : zRd} (ok : AOk A) (h1 : s.1 < A.length) (h2 : 0 ≤ s.2.1) (hk : k ≠ 5) (k0 : k ≠ 0) : Bd A 1 s (ndS A k x s) := by
  unfold ndS
  by_cases z : sgS A k x s = true
  · rw [if_pos z]; exact bd_sg ok h1 hk k0 z
  · rw [if_neg z]; exact bd_dS h1 h2
def Gd (A : List zTk) (g : zLx → zLx) : Prop := ∀ (s : zRd) (C : List Int), s.1 < A.length → 0 ≤ s.2.1 → Bd A 1 s (g (s, C)).1
theorem Gd.x {A : List zTk} {g : zLx → zLx} (h : Gd A g) {x : zLx} (h1 : x.1.1 < A.length) (h2 : 0 ≤ x.1.2.1) : Bd A 1 x.1 (g x).1 := h x.1 x.2 h1 h2
theorem gd_part {A : List zTk} {inn : Option (zLx → zLx)} (ok : AOk A) (hi : ∀ g, inn = some g → Gd A g) : Gd A (ptA A inn) := by
  intro s C h1 h2
  unfold ptA
  dsimp only
  by_cases c3 : kdS A s = 3
  · rw [if_pos c3]
    have f := kd_0 c3 (by decide)
    exact bd_adv ok h1 f.1 (by rw [f.2]; decide) (by rw [f.2]; decide)
  rw [if_neg c3]
  by_cases c1 : sgS A 2 24 s = true ∨ sgS A 2 25 s = true
  · rw [if_pos c1]
    have b1 : Bd A 1 s (advS s) := by
      rcases c1 with c | c
      · exact bd_sg ok h1 (by decide) (by decide) c
      · exact bd_sg ok h1 (by decide) (by decide) c
    unfold chA
    dsimp only
    by_cases z : sgS A 4 40 (advS s) = true
    · rw [if_pos z]
      cases inn with
      | none => exact (b1.t (bd_f5 (k := 0) b1.1.1 (sg_a (by decide) z))).w (by decide)
      | some g =>
        have hg := hi g rfl
        have b2 := b1.t (bd_sg ok b1.1.1 (by decide) (by decide) z)
        have b3 := b2.t (hg.x (x := (advS (advS s), C)) b2.1.1 b2.1.2)
        have b4 := b3.t (bd_nd (k := 4) (x := 44) ok b3.1.1 b3.1.2 (by decide) (by decide))
        have b5 := b4.t (hg.x (x := (ndS A 4 44 (g (advS (advS s), C)).1, (g (advS (advS s), C)).2)) b4.1.1 b4.1.2)
        exact (b5.t (bd_nd (k := 4) (x := 41) ok b5.1.1 b5.1.2 (by decide) (by decide))).w (by decide)
    · rw [if_neg z]
      exact (b1.t (bd_dS (k := 0) b1.1.1 b1.1.2)).w (by decide)
  rw [if_neg c1]
  by_cases c4 : sgS A 4 40 s = true
  · rw [if_pos c4]
    cases inn with
    | none => exact bd_f5 h1 (sg_a (by decide) c4)
    | some g =>
      have hg := hi g rfl
      have b2 := bd_sg ok h1 (by decide) (by decide) c4
      have b3 := b2.t (hg.x (x := (advS s, C)) b2.1.1 b2.1.2)
      exact (b3.t (bd_nd (k := 4) (x := 41) ok b3.1.1 b3.1.2 (by decide) (by decide))).w (by decide)
  rw [if_neg c4]
  by_cases c5 : kdS A s = 2 ∧ fcA (tkI A s.1).2.2.1 ≠ 0
  · rw [if_pos c5]
    have f := kd_0 c5.1 (by decide)
    exact bd_adv ok h1 f.1 (by rw [f.2]; decide) (by rw [f.2]; decide)
  · rw [if_neg c5]
    exact bd_dS h1 h2
def cdK (A : List zTk) (cd : zRd → Int) : Prop := ∀ s, cd s ≠ 0 → s.2.1 = 0 ∧ (tkI A s.1).1 ≠ 0 ∧ (tkI A s.1).1 ≠ 5
theorem lp_gd {A : List zTk} {cd : zRd → Int} {g : zLx → zLx} (ok : AOk A) (hc : cdK A cd) (hg : Gd A g) : ∀ (f : Nat) (x : zLx), x.1.1 < A.length → 0 ≤ x.1.2.1 → Bd A 0 x.1 (lpA cd g f x).1 := by
  intro f
  induction f with
  | zero => exact fun x h1 h2 => Bd.rf h1 h2
  | succ f ih =>
    intro x h1 h2
    rw [lpA]
    by_cases z : cd x.1 = 0
    · rw [if_pos z]; exact Bd.rf h1 h2
    · rw [if_neg z]
      have k := hc _ z
      have b1 := bd_adv ok h1 k.1 k.2.1 k.2.2
      have b2 := b1.t (hg.x (x := (advS x.1, x.2)) b1.1.1 b1.1.2)
      exact (b2.t (ih ((g (advS x.1, x.2)).1, putA (g (advS x.1, x.2)).2 (cd x.1)) b2.1.1 b2.1.2)).w (by omega)
theorem lp_end {A : List zTk} {cd : zRd → Int} {g : zLx → zLx} (ok : AOk A) (hc : cdK A cd) (hg : Gd A g) : ∀ (f : Nat) (x : zLx), x.1.1 < A.length → 0 ≤ x.1.2.1 → A.length ≤ x.1.1 + f → effK A (lpA cd g f x).1 = 0 → cd (lpA cd g f x).1 = 0 := by
  intro f
  induction f with
  | zero => exact fun x h1 h2 h3 => absurd h1 (by omega)
  | succ f ih =>
    intro x h1 h2 h3 h4
    rw [lpA] at h4 ⊢
    by_cases z : cd x.1 = 0
    · rw [if_pos z]; exact z
    · rw [if_neg z] at h4 ⊢
      have k := hc _ z
      have b1 := bd_adv ok h1 k.1 k.2.1 k.2.2
      have b2 := b1.t (hg.x (x := (advS x.1, x.2)) b1.1.1 b1.1.2)
      have b3 := lp_gd ok hc hg f ((g (advS x.1, x.2)).1, putA (g (advS x.1, x.2)).2 (cd x.1)) b2.1.1 b2.1.2
      have a1 := b3.l h4
      have := b2.2.2 (eff_k k.1 k.2.2) a1
      exact ih _ b2.1.1 b2.1.2 (by show A.length ≤ (g (advS x.1, x.2)).1.1 + f; omega) h4
theorem pd_K {A : List zTk} : cdK A (pdS A) := fun s h => ⟨(pdS_k h).1, by rw [(pdS_k h).2]; decide, by rw [(pdS_k h).2]; decide⟩
theorem smC_k {A : List zTk} {s : zRd} (h : smC A s ≠ 0) : s.2.1 = 0 ∧ (tkI A s.1).1 = 4 := by
  unfold smC at h
  by_cases c1 : sgS A 4 43 s = true
  · exact ⟨(sg_k (by decide) c1).1, (sg_k (by decide) c1).2.1⟩
  rw [if_neg c1] at h
  by_cases c2 : sgS A 4 45 s = true
  · exact ⟨(sg_k (by decide) c2).1, (sg_k (by decide) c2).2.1⟩
  rw [if_neg c2] at h
  exact absurd rfl h
theorem sm_K {A : List zTk} : cdK A (smC A) := fun s h => ⟨(smC_k h).1, by rw [(smC_k h).2]; decide, by rw [(smC_k h).2]; decide⟩
theorem gd_lp {A : List zTk} {cd : zRd → Int} {g : zLx → zLx} (ok : AOk A) (hc : cdK A cd) (hg : Gd A g) (f : Nat) : Gd A (fun x => lpA cd g f (g x)) := by
  intro s C h1 h2
  have b := hg s C h1 h2
  exact b.t (lp_gd ok hc hg f (g (s, C)) b.1.1 b.1.2)
theorem en_lp {A : List zTk} {cd : zRd → Int} {g : zLx → zLx} (ok : AOk A) (hc : cdK A cd) (hg : Gd A g) {x : zLx} (h1 : x.1.1 < A.length) (h2 : 0 ≤ x.1.2.1) (h : effK A (lpA cd g 1600 (g x)).1 = 0) : cd (lpA cd g 1600 (g x)).1 = 0 := by
  have b := hg.x h1 h2
  have b2 := lp_gd ok hc hg 1600 (g x) b.1.1 b.1.2
  have hA := ok.1
  have a := b2.l h
  have := b.2.2 (b.l a) a
  exact lp_end ok hc hg 1600 (g x) b.1.1 b.1.2 (by omega) h
theorem gd_prod {A : List zTk} {inn : Option (zLx → zLx)} (ok : AOk A) (hi : ∀ g, inn = some g → Gd A g) : Gd A (prA A inn) := gd_lp ok pd_K (gd_part ok hi) 1600
theorem gd_summ {A : List zTk} {inn : Option (zLx → zLx)} (ok : AOk A) (hi : ∀ g, inn = some g → Gd A g) : Gd A (smmA A inn) := gd_lp ok sm_K (gd_prod ok hi) 1600
theorem gd_sum {A : List zTk} (ok : AOk A) : ∀ k, Gd A (sumA A k)
  | 0 => gd_summ ok (fun g z => nomatch z)
  | k + 1 => gd_summ ok (fun g z => by have e := Option.some.inj z; rw [← e]; exact gd_sum ok k)
/-- a property of the last round's reader holds behind a loop too -/
theorem lp_last {A : List zTk} {cd : zRd → Int} {g : zLx → zLx} {P : zRd → Prop} (ok : AOk A) (hc : cdK A cd) (hg : Gd A g) (hP : ∀ x : zLx, x.1.1 < A.length → 0 ≤ x.1.2.1 → effK A (g x).1 = 0 → P (g x).1) : ∀ (f : Nat) (x : zLx), x.1.1 < A.length → 0 ≤ x.1.2.1 → (effK A x.1 = 0 → P x.1) → effK A (lpA cd g f x).1 = 0 → P (lpA cd g f x).1 := by
  intro f
  induction f with
  | zero => exact fun x h1 h2 h3 h4 => h3 h4
  | succ f ih =>
    intro x h1 h2 h3 h4
    rw [lpA] at h4 ⊢
    by_cases z : cd x.1 = 0
    · rw [if_pos z] at h4 ⊢; exact h3 h4
    · rw [if_neg z] at h4 ⊢
      have k := hc _ z
      have b1 := bd_adv ok h1 k.1 k.2.1 k.2.2
      have b2 := b1.t (hg.x (x := (advS x.1, x.2)) b1.1.1 b1.1.2)
      exact ih _ b2.1.1 b2.1.2 (fun w => hP (advS x.1, x.2) b1.1.1 b1.1.2 w) h4
/-- behind a sum no sign of one comes -/
def ZE (A : List zTk) (g : zLx → zLx) : Prop := ∀ x : zLx, x.1.1 < A.length → 0 ≤ x.1.2.1 → effK A (g x).1 = 0 → smC A (g x).1 = 0 ∧ pdS A (g x).1 = 0
theorem ze_summ {A : List zTk} {inn : Option (zLx → zLx)} (ok : AOk A) (hi : ∀ g, inn = some g → Gd A g) : ZE A (smmA A inn) := by
  intro x h1 h2 h
  have b := (gd_prod ok hi).x h1 h2
  have pe : ∀ x : zLx, x.1.1 < A.length → 0 ≤ x.1.2.1 → effK A (prA A inn x).1 = 0 → pdS A (prA A inn x).1 = 0 := fun x h1 h2 h => en_lp ok pd_K (gd_part ok hi) h1 h2 h
  exact ⟨en_lp ok sm_K (gd_prod ok hi) h1 h2 h, lp_last (P := fun s => pdS A s = 0) ok sm_K (gd_prod ok hi) pe 1600 (prA A inn x) b.1.1 b.1.2 (fun w => pe x h1 h2 w) h⟩
theorem ze_sum {A : List zTk} (ok : AOk A) : ∀ k, ZE A (sumA A k)
  | 0 => ze_summ ok (fun g z => nomatch z)
  | k + 1 => ze_summ ok (fun g z => by have e := Option.some.inj z; rw [← e]; exact gd_sum ok k)
