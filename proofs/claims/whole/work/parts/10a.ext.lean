def zKe (k : zC) : Prop := ∀ pc L S h res, k pc L S h = some res → zExt h res.2
def zPe (Φ : Nat → List zV → zH → zR) : Prop := ∀ y as h res, Φ y as h = some res → zExt h res.2
def zLe (Φ Φ1 : Nat → List zV → zH → zR) : Prop := ∀ y as h res, Φ y as h = some res → Φ1 y as h = some res
def zTl (h : zH) (Φ : Nat → List zV → zH → zR) (kf kj : zC) (E : (Nat → List zV → zH → zR) → zC → zC → zR) : Prop := ∀ res, E Φ kf kj = some res →
  (∃ pc L S h1, (zExt h h1 ∧ kf pc L S h1 = some res ∧ ∀ Φ1 kf1 kj1, zLe Φ Φ1 → kf1 pc L S h1 = some res → E Φ1 kf1 kj1 = some res)) ∨
  (∃ pc L S h1, (zExt h h1 ∧ kj pc L S h1 = some res ∧ ∀ Φ1 kf1 kj1, zLe Φ Φ1 → kj1 pc L S h1 = some res → E Φ1 kf1 kj1 = some res)) ∨
  (zExt h res.2 ∧ ∀ Φ1 kf1 kj1, zLe Φ Φ1 → E Φ1 kf1 kj1 = some res)
theorem zTl_kf {h : zH} {Φ : Nat → List zV → zH → zR} {kf kj : zC} {pc : Nat} {L : zL} {S : List zV} {h1 : zH} (he : zExt h h1) : zTl h Φ kf kj (fun _ kf _ => kf pc L S h1) := fun _ hz => Or.inl ⟨pc, L, S, h1, he, hz, fun _ _ _ _ q => q⟩
theorem zTl_kj {h : zH} {Φ : Nat → List zV → zH → zR} {kf kj : zC} {pc : Nat} {L : zL} {S : List zV} {h1 : zH} (he : zExt h h1) : zTl h Φ kf kj (fun _ _ kj => kj pc L S h1) := fun _ hz => Or.inr (Or.inl ⟨pc, L, S, h1, he, hz, fun _ _ _ _ q => q⟩)
theorem zTl_none {h : zH} {Φ : Nat → List zV → zH → zR} {kf kj : zC} : zTl h Φ kf kj (fun _ _ _ => none) := fun _ hz => by cases hz
theorem zTl_some {h : zH} {Φ : Nat → List zV → zH → zR} {kf kj : zC} {v : zV} : zTl h Φ kf kj (fun _ _ _ => some (v, h)) := fun res hz => by cases hz; exact Or.inr (Or.inr ⟨zExt.rf h, fun _ _ _ _ => rfl⟩)
theorem zTl_zpi {h : zH} {Φ : Nat → List zV → zH → zR} {kf kj : zC} {S : List zV} {F : (Nat → List zV → zH → zR) → zC → zC → Int → List zV → zR} (k : ∀ a S1, zTl h Φ kf kj (fun Φ kf kj => F Φ kf kj a S1)) : zTl h Φ kf kj (fun Φ kf kj => zpi S (F Φ kf kj)) := fun res hz => by
  obtain ⟨x, S1, rfl, hzz⟩ := zpi_inv hz
  rcases k x S1 res hzz with ⟨pc, L, S, h1, g1, g2, g3⟩ | ⟨pc, L, S, h1, g1, g2, g3⟩ | ⟨g1, g3⟩
  · exact Or.inl ⟨pc, L, S, h1, g1, g2, fun a b c d q => by unfold zpi; exact g3 a b c d q⟩
  · exact Or.inr (Or.inl ⟨pc, L, S, h1, g1, g2, fun a b c d q => by unfold zpi; exact g3 a b c d q⟩)
  · exact Or.inr (Or.inr ⟨g1, fun a b c d => by unfold zpi; exact g3 a b c d⟩)
theorem zTl_zpl {h : zH} {Φ : Nat → List zV → zH → zR} {kf kj : zC} {S : List zV} {F : (Nat → List zV → zH → zR) → zC → zC → Int → List zV → zR} (k : ∀ a S1, zTl h Φ kf kj (fun Φ kf kj => F Φ kf kj a S1)) : zTl h Φ kf kj (fun Φ kf kj => zpl S (F Φ kf kj)) := fun res hz => by
  obtain ⟨x, S1, rfl, hzz⟩ := zpl_inv hz
  rcases k x S1 res hzz with ⟨pc, L, S, h1, g1, g2, g3⟩ | ⟨pc, L, S, h1, g1, g2, g3⟩ | ⟨g1, g3⟩
  · exact Or.inl ⟨pc, L, S, h1, g1, g2, fun a b c d q => by unfold zpl; exact g3 a b c d q⟩
  · exact Or.inr (Or.inl ⟨pc, L, S, h1, g1, g2, fun a b c d q => by unfold zpl; exact g3 a b c d q⟩)
  · exact Or.inr (Or.inr ⟨g1, fun a b c d => by unfold zpl; exact g3 a b c d⟩)
theorem zTl_zpr {h : zH} {Φ : Nat → List zV → zH → zR} {kf kj : zC} {S : List zV} {F : (Nat → List zV → zH → zR) → zC → zC → Int → Nat → Nat → List zV → zR} (k : ∀ r k w S1, zTl h Φ kf kj (fun Φ kf kj => F Φ kf kj r k w S1)) : zTl h Φ kf kj (fun Φ kf kj => zpr S (F Φ kf kj)) := fun res hz => by
  obtain ⟨r, kk, w, S1, rfl, hzz⟩ := zpr_inv hz
  rcases k r kk w S1 res hzz with ⟨pc, L, S, h1, g1, g2, g3⟩ | ⟨pc, L, S, h1, g1, g2, g3⟩ | ⟨g1, g3⟩
  · exact Or.inl ⟨pc, L, S, h1, g1, g2, fun a b c d q => by unfold zpr; exact g3 a b c d q⟩
  · exact Or.inr (Or.inl ⟨pc, L, S, h1, g1, g2, fun a b c d q => by unfold zpr; exact g3 a b c d q⟩)
  · exact Or.inr (Or.inr ⟨g1, fun a b c d => by unfold zpr; exact g3 a b c d⟩)
theorem zTl_zgi {h : zH} {Φ : Nat → List zV → zH → zR} {kf kj : zC} {L : zL} {n : Nat} {F : (Nat → List zV → zH → zR) → zC → zC → Int → zR} (k : ∀ a, zTl h Φ kf kj (fun Φ kf kj => F Φ kf kj a)) : zTl h Φ kf kj (fun Φ kf kj => zgi L n (F Φ kf kj)) := fun res hz => by
  obtain ⟨x, ha, hzz⟩ := zgi_inv hz
  rcases k x res hzz with ⟨pc, L, S, h1, g1, g2, g3⟩ | ⟨pc, L, S, h1, g1, g2, g3⟩ | ⟨g1, g3⟩
  · exact Or.inl ⟨pc, L, S, h1, g1, g2, fun a b c d q => by unfold zgi; rw [ha]; exact g3 a b c d q⟩
  · exact Or.inr (Or.inl ⟨pc, L, S, h1, g1, g2, fun a b c d q => by unfold zgi; rw [ha]; exact g3 a b c d q⟩)
  · exact Or.inr (Or.inr ⟨g1, fun a b c d => by unfold zgi; rw [ha]; exact g3 a b c d⟩)
theorem zTl_zgl {h : zH} {Φ : Nat → List zV → zH → zR} {kf kj : zC} {L : zL} {n : Nat} {F : (Nat → List zV → zH → zR) → zC → zC → Int → zR} (k : ∀ a, zTl h Φ kf kj (fun Φ kf kj => F Φ kf kj a)) : zTl h Φ kf kj (fun Φ kf kj => zgl L n (F Φ kf kj)) := fun res hz => by
  obtain ⟨x, ha, hzz⟩ := zgl_inv hz
  rcases k x res hzz with ⟨pc, L, S, h1, g1, g2, g3⟩ | ⟨pc, L, S, h1, g1, g2, g3⟩ | ⟨g1, g3⟩
  · exact Or.inl ⟨pc, L, S, h1, g1, g2, fun a b c d q => by unfold zgl; rw [ha]; exact g3 a b c d q⟩
  · exact Or.inr (Or.inl ⟨pc, L, S, h1, g1, g2, fun a b c d q => by unfold zgl; rw [ha]; exact g3 a b c d q⟩)
  · exact Or.inr (Or.inr ⟨g1, fun a b c d => by unfold zgl; rw [ha]; exact g3 a b c d⟩)
theorem zTl_zgr {h : zH} {Φ : Nat → List zV → zH → zR} {kf kj : zC} {L : zL} {n : Nat} {F : (Nat → List zV → zH → zR) → zC → zC → Int → Nat → Nat → zR} (k : ∀ r k w, zTl h Φ kf kj (fun Φ kf kj => F Φ kf kj r k w)) : zTl h Φ kf kj (fun Φ kf kj => zgr L n (F Φ kf kj)) := fun res hz => by
  obtain ⟨r, kk, w, ha, hzz⟩ := zgr_inv hz
  rcases k r kk w res hzz with ⟨pc, L, S, h1, g1, g2, g3⟩ | ⟨pc, L, S, h1, g1, g2, g3⟩ | ⟨g1, g3⟩
  · exact Or.inl ⟨pc, L, S, h1, g1, g2, fun a b c d q => by unfold zgr; rw [ha]; exact g3 a b c d q⟩
  · exact Or.inr (Or.inl ⟨pc, L, S, h1, g1, g2, fun a b c d q => by unfold zgr; rw [ha]; exact g3 a b c d q⟩)
  · exact Or.inr (Or.inr ⟨g1, fun a b c d => by unfold zgr; rw [ha]; exact g3 a b c d⟩)
theorem zTl_zck {h : zH} {Φ : Nat → List zV → zH → zR} {kf kj : zC} {b : Bool} {F : (Nat → List zV → zH → zR) → zC → zC → zR} (k : b = true → zTl h Φ kf kj (fun Φ kf kj => F Φ kf kj)) : zTl h Φ kf kj (fun Φ kf kj => zck b (F Φ kf kj)) := fun res hz => by
  obtain ⟨hb, hzz⟩ := zck_inv hz
  rcases k hb res hzz with ⟨pc, L, S, h1, g1, g2, g3⟩ | ⟨pc, L, S, h1, g1, g2, g3⟩ | ⟨g1, g3⟩
  · exact Or.inl ⟨pc, L, S, h1, g1, g2, fun a b c d q => by rw [hb]; unfold zck; exact g3 a b c d q⟩
  · exact Or.inr (Or.inl ⟨pc, L, S, h1, g1, g2, fun a b c d q => by rw [hb]; unfold zck; exact g3 a b c d q⟩)
  · exact Or.inr (Or.inr ⟨g1, fun a b c d => by rw [hb]; unfold zck; exact g3 a b c d⟩)
theorem zTl_zpo {h : zH} {Φ : Nat → List zV → zH → zR} {kf kj : zC} {r : Int} {F : (Nat → List zV → zH → zR) → zC → zC → zR} (k : 0 ≤ r → zTl h Φ kf kj (fun Φ kf kj => F Φ kf kj)) : zTl h Φ kf kj (fun Φ kf kj => zpo r (F Φ kf kj)) := fun res hz => by
  obtain ⟨hb, hzz⟩ := zpo_inv hz
  rcases k hb res hzz with ⟨pc, L, S, h1, g1, g2, g3⟩ | ⟨pc, L, S, h1, g1, g2, g3⟩ | ⟨g1, g3⟩
  · exact Or.inl ⟨pc, L, S, h1, g1, g2, fun a b c d q => by unfold zpo; rw [decide_eq_true hb]; exact g3 a b c d q⟩
  · exact Or.inr (Or.inl ⟨pc, L, S, h1, g1, g2, fun a b c d q => by unfold zpo; rw [decide_eq_true hb]; exact g3 a b c d q⟩)
  · exact Or.inr (Or.inr ⟨g1, fun a b c d => by unfold zpo; rw [decide_eq_true hb]; exact g3 a b c d⟩)
theorem zTl_zdz {h : zH} {Φ : Nat → List zV → zH → zR} {kf kj : zC} {r : Int} {F : (Nat → List zV → zH → zR) → zC → zC → zR} (k : zTl h Φ kf kj (fun Φ kf kj => F Φ kf kj)) : zTl h Φ kf kj (fun Φ kf kj => zdz r (F Φ kf kj)) := fun res hz => by
  obtain ⟨hb, hzz⟩ := zdz_inv hz
  rcases k res hzz with ⟨pc, L, S, h1, g1, g2, g3⟩ | ⟨pc, L, S, h1, g1, g2, g3⟩ | ⟨g1, g3⟩
  · exact Or.inl ⟨pc, L, S, h1, g1, g2, fun a b c d q => by unfold zdz; rw [decide_eq_false hb]; exact g3 a b c d q⟩
  · exact Or.inr (Or.inl ⟨pc, L, S, h1, g1, g2, fun a b c d q => by unfold zdz; rw [decide_eq_false hb]; exact g3 a b c d q⟩)
  · exact Or.inr (Or.inr ⟨g1, fun a b c d => by unfold zdz; rw [decide_eq_false hb]; exact g3 a b c d⟩)
theorem zTl_zbo {h : zH} {Φ : Nat → List zV → zH → zR} {kf kj : zC} {r : Int} {F : (Nat → List zV → zH → zR) → zC → zC → zR} (k : zTl h Φ kf kj (fun Φ kf kj => F Φ kf kj)) : zTl h Φ kf kj (fun Φ kf kj => zbo r (F Φ kf kj)) := fun res hz => by
  obtain ⟨hb, hzz⟩ := zbo_inv hz
  rcases k res hzz with ⟨pc, L, S, h1, g1, g2, g3⟩ | ⟨pc, L, S, h1, g1, g2, g3⟩ | ⟨g1, g3⟩
  · exact Or.inl ⟨pc, L, S, h1, g1, g2, fun a b c d q => by unfold zbo; rw [decide_eq_true hb]; exact g3 a b c d q⟩
  · exact Or.inr (Or.inl ⟨pc, L, S, h1, g1, g2, fun a b c d q => by unfold zbo; rw [decide_eq_true hb]; exact g3 a b c d q⟩)
  · exact Or.inr (Or.inr ⟨g1, fun a b c d => by unfold zbo; rw [decide_eq_true hb]; exact g3 a b c d⟩)
theorem zTl_zit {h : zH} {Φ : Nat → List zV → zH → zR} {kf kj : zC} {cc : Prop} {d : Decidable cc} {F : (Nat → List zV → zH → zR) → zC → zC → zR} (k : cc → zTl h Φ kf kj (fun Φ kf kj => F Φ kf kj)) : zTl h Φ kf kj (fun Φ kf kj => (if cc then F Φ kf kj else none)) := fun res hz => by
  obtain ⟨hb, hzz⟩ := zit_inv hz
  rcases k hb res hzz with ⟨pc, L, S, h1, g1, g2, g3⟩ | ⟨pc, L, S, h1, g1, g2, g3⟩ | ⟨g1, g3⟩
  · exact Or.inl ⟨pc, L, S, h1, g1, g2, fun a b c d q => by dsimp only; rw [if_pos hb]; exact g3 a b c d q⟩
  · exact Or.inr (Or.inl ⟨pc, L, S, h1, g1, g2, fun a b c d q => by dsimp only; rw [if_pos hb]; exact g3 a b c d q⟩)
  · exact Or.inr (Or.inr ⟨g1, fun a b c d => by dsimp only; rw [if_pos hb]; exact g3 a b c d⟩)
theorem zTl_zqi {h : zH} {Φ : Nat → List zV → zH → zR} {kf kj : zC} (hΦ : zPe Φ) {y : Nat} {as : List zV} {F : (Nat → List zV → zH → zR) → zC → zC → Int → zH → zR} (k : ∀ x h2, zExt h h2 → zTl h Φ kf kj (fun Φ kf kj => F Φ kf kj x h2)) : zTl h Φ kf kj (fun Φ kf kj => zqi (Φ y as h) (F Φ kf kj)) := fun res hz => by
  obtain ⟨x, h2, hq, hzz⟩ := zqi_inv hz
  rcases k x h2 (hΦ _ _ _ _ hq) res hzz with ⟨pc, L, S, h1, g1, g2, g3⟩ | ⟨pc, L, S, h1, g1, g2, g3⟩ | ⟨g1, g3⟩
  · exact Or.inl ⟨pc, L, S, h1, g1, g2, fun a b c d q => by dsimp only; rw [d _ _ _ _ hq]; unfold zqi; exact g3 a b c d q⟩
  · exact Or.inr (Or.inl ⟨pc, L, S, h1, g1, g2, fun a b c d q => by dsimp only; rw [d _ _ _ _ hq]; unfold zqi; exact g3 a b c d q⟩)
  · exact Or.inr (Or.inr ⟨g1, fun a b c d => by dsimp only; rw [d _ _ _ _ hq]; unfold zqi; exact g3 a b c d⟩)
theorem zTl_zql {h : zH} {Φ : Nat → List zV → zH → zR} {kf kj : zC} (hΦ : zPe Φ) {y : Nat} {as : List zV} {F : (Nat → List zV → zH → zR) → zC → zC → Int → zH → zR} (k : ∀ x h2, zExt h h2 → zTl h Φ kf kj (fun Φ kf kj => F Φ kf kj x h2)) : zTl h Φ kf kj (fun Φ kf kj => zql (Φ y as h) (F Φ kf kj)) := fun res hz => by
  obtain ⟨x, h2, hq, hzz⟩ := zql_inv hz
  rcases k x h2 (hΦ _ _ _ _ hq) res hzz with ⟨pc, L, S, h1, g1, g2, g3⟩ | ⟨pc, L, S, h1, g1, g2, g3⟩ | ⟨g1, g3⟩
  · exact Or.inl ⟨pc, L, S, h1, g1, g2, fun a b c d q => by dsimp only; rw [d _ _ _ _ hq]; unfold zql; exact g3 a b c d q⟩
  · exact Or.inr (Or.inl ⟨pc, L, S, h1, g1, g2, fun a b c d q => by dsimp only; rw [d _ _ _ _ hq]; unfold zql; exact g3 a b c d q⟩)
  · exact Or.inr (Or.inr ⟨g1, fun a b c d => by dsimp only; rw [d _ _ _ _ hq]; unfold zql; exact g3 a b c d⟩)
theorem zTl_zqv {h : zH} {Φ : Nat → List zV → zH → zR} {kf kj : zC} (hΦ : zPe Φ) {y : Nat} {as : List zV} {F : (Nat → List zV → zH → zR) → zC → zC → zH → zR} (k : ∀ h2, zExt h h2 → zTl h Φ kf kj (fun Φ kf kj => F Φ kf kj h2)) : zTl h Φ kf kj (fun Φ kf kj => zqv (Φ y as h) (F Φ kf kj)) := fun res hz => by
  obtain ⟨x, h2, hq, hzz⟩ := zqv_inv hz
  rcases k h2 (hΦ _ _ _ _ hq) res hzz with ⟨pc, L, S, h1, g1, g2, g3⟩ | ⟨pc, L, S, h1, g1, g2, g3⟩ | ⟨g1, g3⟩
  · exact Or.inl ⟨pc, L, S, h1, g1, g2, fun a b c d q => by dsimp only; rw [d _ _ _ _ hq]; unfold zqv; exact g3 a b c d q⟩
  · exact Or.inr (Or.inl ⟨pc, L, S, h1, g1, g2, fun a b c d q => by dsimp only; rw [d _ _ _ _ hq]; unfold zqv; exact g3 a b c d q⟩)
  · exact Or.inr (Or.inr ⟨g1, fun a b c d => by dsimp only; rw [d _ _ _ _ hq]; unfold zqv; exact g3 a b c d⟩)
theorem zTl_ite {h : zH} {Φ : Nat → List zV → zH → zR} {kf kj : zC} {cc : Prop} {d : Decidable cc} {F G : (Nat → List zV → zH → zR) → zC → zC → zR} (k1 : zTl h Φ kf kj (fun Φ kf kj => F Φ kf kj)) (k2 : zTl h Φ kf kj (fun Φ kf kj => G Φ kf kj)) : zTl h Φ kf kj (fun Φ kf kj => if cc then F Φ kf kj else G Φ kf kj) := by
  by_cases q : cc
  · rw [show (fun Φ kf kj => if cc then F Φ kf kj else G Φ kf kj) = (fun Φ kf kj => F Φ kf kj) from by funext a b c; rw [if_pos q]]; exact k1
  · rw [show (fun Φ kf kj => if cc then F Φ kf kj else G Φ kf kj) = (fun Φ kf kj => G Φ kf kj) from by funext a b c; rw [if_neg q]]; exact k2
theorem zTl_zif {h : zH} {Φ : Nat → List zV → zH → zR} {kf kj : zC} {cn : ClassFile.Cond} {a b : Int} {F G : (Nat → List zV → zH → zR) → zC → zC → zR} (k1 : zTl h Φ kf kj (fun Φ kf kj => F Φ kf kj)) (k2 : zTl h Φ kf kj (fun Φ kf kj => G Φ kf kj)) : zTl h Φ kf kj (fun Φ kf kj => zif cn a b (F Φ kf kj) (G Φ kf kj)) := by
  cases cn
  · exact zTl_ite k1 k2
  · exact zTl_ite k2 k1
  · exact zTl_ite k1 k2
  · exact zTl_ite k2 k1
  · exact zTl_ite k1 k2
  · exact zTl_ite k2 k1
theorem zTl_zsw {h : zH} {Φ : Nat → List zV → zH → zR} {kf kj : zC} {L : zL} {S : List zV} {x d : Int} : ∀ ts : List Int, zTl h Φ kf kj (fun _ _ kj => zsw (fun t => kj t L S h) x d ts)
  | [] => zTl_kj (zExt.rf h)
  | [k] => zTl_kj (zExt.rf h)
  | k :: t :: r => by
    simp only [zsw]
    exact zTl_ite (zTl_kj (zExt.rf h)) (zTl_zsw r)
set_option maxHeartbeats 2000000 in
theorem zins_tail {h : zH} {Φ : Nat → List zV → zH → zR} {kf kj : zC} (hΦ : zPe Φ) (md : Bool) (FT : Nat → List Nat) (EL : Nat → Nat × Nat) (pc : Nat) (ins : Instr) (ax : List Int) (L : zL) (S : List zV) : zTl h Φ kf kj (fun Φ kf kj => zins md FT EL Φ kf kj pc ins ax L S h) := by
  cases ins
  case getfield idx =>
    rcases ax with _ | ⟨ci, _ | ⟨j, _ | ⟨ty, _ | ⟨kd, _ | ⟨len, _ | ⟨off, ax⟩⟩⟩⟩⟩⟩ <;> simp only [zins]
    all_goals refine zTl_zpr fun r k w S1 => ?_
    any_goals exact zTl_none
    refine zTl_zck fun _ => zTl_zpo fun _ => ?_
    generalize ty.toNat = t
    rcases t with _ | _ | _ | _ | _ | t <;> exact zTl_kf (zExt.rf h)
  case putfield idx =>
    rcases ax with _ | ⟨ci, _ | ⟨j, _ | ⟨ty, _ | ⟨kd, _ | ⟨len, ax⟩⟩⟩⟩⟩ <;> simp only [zins]
    any_goals exact zTl_none
    generalize ty.toNat = t
    rcases t with _ | _ | _ | _ | _ | t
    · exact zTl_zpi fun v S => zTl_zpr fun r k w S => zTl_zck fun _ => zTl_zpo fun h0 => zTl_kf (zExt_set h0)
    · exact zTl_zpl fun v S => zTl_zpr fun r k w S => zTl_zck fun _ => zTl_zpo fun h0 => zTl_kf (zExt_set h0)
    · exact zTl_zpi fun v S => zTl_zpr fun r k w S => zTl_zck fun _ => zTl_zpo fun h0 => zTl_zbo (zTl_kf (zExt_set h0))
    · exact zTl_zpr fun v k w S => zTl_zpr fun r k w S => zTl_zck fun _ => zTl_zpo fun h0 => zTl_kf (zExt_set h0)
    · exact zTl_zck fun _ => zTl_zpr fun v k w S => zTl_zpr fun r k w S => zTl_zck fun _ => zTl_zpo fun h0 => zTl_kf (zExt_set h0)
    · exact zTl_none
  case invokevirtual idx =>
    rcases ax with _ | ⟨y, _ | ⟨n, _ | ⟨rk, _ | ⟨ci, ax⟩⟩⟩⟩ <;> simp only [zins]
    any_goals exact zTl_none
    rcases ztake n.toNat [] S with _ | ⟨_ | ⟨a | a | ⟨r, k, w⟩, as⟩, S1⟩
    any_goals exact zTl_none
    refine zTl_zck fun _ => zTl_zpo fun _ => ?_
    generalize rk.toNat = t
    rcases t with _ | _ | _ | t
    · exact zTl_zqi hΦ fun x h2 he => zTl_kf he
    · exact zTl_zql hΦ fun x h2 he => zTl_kf he
    · exact zTl_zqv hΦ fun h2 he => zTl_kf he
    · exact zTl_zqi hΦ fun x h2 he => zTl_kf he
  case invokespecial idx =>
    rcases ax with _ | ⟨y, _ | ⟨n, ax⟩⟩ <;> simp only [zins]
    any_goals exact zTl_none
    rcases ztake n.toNat [] S with _ | ⟨_ | ⟨a | a | ⟨r, k, w⟩, as⟩, S1⟩
    any_goals exact zTl_none
    refine zTl_zck fun _ => zTl_zpo fun _ => ?_
    generalize decide (y < 0) = t
    cases t
    · exact zTl_zqv hΦ fun h2 he => zTl_kf he
    · exact zTl_kf (zExt.rf h)
  case invokestatic idx =>
    rcases ax with _ | ⟨y, _ | ⟨n, _ | ⟨rk, ax⟩⟩⟩ <;> simp only [zins]
    any_goals exact zTl_none
    generalize decide (y = -2) = t
    cases t
    · rcases ztake n.toNat [] S with _ | ⟨as, S1⟩
      · exact zTl_none
      refine zTl_zck fun _ => ?_
      generalize rk.toNat = t
      rcases t with _ | _ | _ | t
      · exact zTl_zqi hΦ fun x h2 he => zTl_kf he
      · exact zTl_zql hΦ fun x h2 he => zTl_kf he
      · exact zTl_zqv hΦ fun h2 he => zTl_kf he
      · exact zTl_zqi hΦ fun x h2 he => zTl_kf he
    · exact zTl_zpi fun n S => zTl_zpi fun dp S => zTl_zpr fun d kd wd S => zTl_zpi fun sp S => zTl_zpr fun r k w S => zTl_zck fun _ => zTl_zpo fun _ => zTl_zpo fun h0 => zTl_zit fun _ => zTl_kf (zExt_cpy h0)
  case ireturn =>
    simp only [zins]
    rcases S with _ | ⟨a | a | a, _ | ⟨b, S⟩⟩
    any_goals exact zTl_none
    generalize (ax.getD 0 0).toNat = t
    cases t
    · exact zTl_some
    · exact zTl_zbo zTl_some
  case lreturn =>
    simp only [zins]
    rcases S with _ | ⟨a | a | a, _ | ⟨b, S⟩⟩
    any_goals exact zTl_none
    exact zTl_some
  case return_ =>
    simp only [zins]
    rcases S with _ | ⟨b, S⟩
    · exact zTl_some
    · exact zTl_none
  case new idx =>
    rcases md with _ | _ <;> rcases ax with _ | ⟨ci, _ | ⟨n, ax⟩⟩ <;> simp only [zins]
    any_goals exact zTl_none
    exact zTl_zit fun h0 => zTl_kf (zExt_new h0)
  case newarray t =>
    rcases md with _ | _ <;> rcases ax with _ | ⟨ci, ax⟩ <;> simp only [zins]
    any_goals exact zTl_none
    exact zTl_zpi fun n S => zTl_zit fun h0 => zTl_kf (zExt_new h0.1)
  case anewarray t =>
    rcases md with _ | _ <;> simp only [zins]
    any_goals exact zTl_none
    exact zTl_zpi fun n S => zTl_zit fun h0 => zTl_kf (zExt_new h0.1)
  case dup =>
    simp only [zins]
    rcases S with _ | ⟨a | a | ⟨r, k, w⟩, S⟩
    any_goals exact zTl_none
    all_goals exact zTl_kf (zExt.rf h)
  case dup2 =>
    simp only [zins]
    rcases S with _ | ⟨a | a | ⟨r, k, w⟩, _ | ⟨b | b | ⟨r, k, w⟩, S⟩⟩
    any_goals exact zTl_none
    all_goals exact zTl_kf (zExt.rf h)
  case pop =>
    simp only [zins]
    rcases S with _ | ⟨a | a | ⟨r, k, w⟩, S⟩
    any_goals exact zTl_none
    all_goals exact zTl_kf (zExt.rf h)
  all_goals simp only [zins]
  any_goals exact zTl_none
  any_goals exact zTl_kf (zExt.rf h)
  any_goals exact zTl_kj (zExt.rf h)
  any_goals exact zTl_zpi fun a S => zTl_kf (zExt.rf h)
  any_goals exact zTl_zpl fun a S => zTl_kf (zExt.rf h)
  any_goals exact zTl_zpi fun a S => zTl_zpi fun b S => zTl_kf (zExt.rf h)
  any_goals exact zTl_zpl fun a S => zTl_zpl fun b S => zTl_kf (zExt.rf h)
  any_goals exact zTl_zpi fun a S => zTl_zpl fun b S => zTl_kf (zExt.rf h)
  any_goals exact zTl_zpi fun a S => zTl_zpi fun b S => zTl_zdz (zTl_kf (zExt.rf h))
  any_goals exact zTl_zpl fun a S => zTl_zpl fun b S => zTl_zdz (zTl_kf (zExt.rf h))
  any_goals exact zTl_zgi fun a => zTl_kf (zExt.rf h)
  any_goals exact zTl_zgl fun a => zTl_kf (zExt.rf h)
  any_goals exact zTl_zgr fun r k w => zTl_kf (zExt.rf h)
  any_goals exact zTl_zpi fun a S => zTl_zck fun _ => zTl_kf (zExt.rf h)
  any_goals exact zTl_zpl fun a S => zTl_zck fun _ => zTl_kf (zExt.rf h)
  any_goals exact zTl_zpr fun r k w S => zTl_zck fun _ => zTl_kf (zExt.rf h)
  any_goals exact zTl_zgi fun a => zTl_zck fun _ => zTl_kf (zExt.rf h)
  any_goals exact zTl_zpi fun a S => zTl_zif (zTl_kj (zExt.rf h)) (zTl_kf (zExt.rf h))
  any_goals exact zTl_zpi fun a S => zTl_zpi fun b S => zTl_zif (zTl_kj (zExt.rf h)) (zTl_kf (zExt.rf h))
  any_goals exact zTl_zpr fun r k w S => zTl_ite (zTl_kj (zExt.rf h)) (zTl_kf (zExt.rf h))
  any_goals exact zTl_zpr fun r k w S => zTl_ite (zTl_kf (zExt.rf h)) (zTl_kj (zExt.rf h))
  any_goals exact zTl_zpi fun a S => zTl_zsw _
  any_goals exact zTl_zpr fun r k w S => zTl_zck fun _ => zTl_zpo fun _ => zTl_kf (zExt.rf h)
  any_goals exact zTl_zpi fun i S => zTl_zpr fun r k w S => zTl_zck fun _ => zTl_zpo fun _ => zTl_zit fun _ => zTl_kf (zExt.rf h)
  any_goals exact zTl_zpi fun v S => zTl_zpi fun i S => zTl_zpr fun r k w S => zTl_zck fun _ => zTl_zpo fun h0 => zTl_zit fun _ => zTl_kf (zExt_set h0)
  any_goals exact zTl_zpl fun v S => zTl_zpi fun i S => zTl_zpr fun r k w S => zTl_zck fun _ => zTl_zpo fun h0 => zTl_zit fun _ => zTl_kf (zExt_set h0)
  any_goals exact zTl_zpi fun v S => zTl_zpi fun i S => zTl_zpr fun r k w S => zTl_zck fun _ => zTl_zpo fun h0 => zTl_zit fun _ => zTl_zbo (zTl_kf (zExt_set h0))
  any_goals exact zTl_zpr fun v k w S => zTl_zpi fun i S => zTl_zpr fun r k w S => zTl_zck fun _ => zTl_zpo fun h0 => zTl_zpo fun _ => zTl_zit fun _ => zTl_kf (zExt_set h0)
