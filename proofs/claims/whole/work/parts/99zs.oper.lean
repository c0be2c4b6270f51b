/-! the reference takes an operand -/
def RL0 (T : Int → Int) (n : Int) (c : zCf) (h : zH) : Prop := RR T n c.1 h ∧ CoR c.2.1 h ∧ HF c.2.2.2 h ∧ h 403 51 = (c.2.2.2.length : Int) - 1
theorem RR.iS {d : Nat} {T : Int → Int} {n x : Int} {s : zRd} {h : zH} (r : RR T n s h) (hd : effK (toks T n) s = 0) : m_R_isSign (d + 1) x h = some (.inl (if sgS (toks T n) 4 x s = true then 1 else 0), h) := by
  rw [q_R_isSg]
  by_cases c : sgS (toks T n) 4 x s = true
  · rw [if_pos c, if_pos ((r.sg hd).2 c)]
  · rw [if_neg c, if_neg (fun z => c ((r.sg hd).1 z))]
theorem RR.iW {d : Nat} {T : Int → Int} {n x : Int} {s : zRd} {h : zH} (r : RR T n s h) (hd : effK (toks T n) s = 0) {i : Nat} {j : Int} (hi : i < 26) (ej : j = (i : Int)) (ex : x = (pk8 0 (ownL.getD i []) : Nat)) : m_R_isWord (d + 1) x h = some (.inl (if sgS (toks T n) 2 j s = true then 1 else 0), h) := by
  rw [q_R_isWd, ex, ej]
  by_cases c : sgS (toks T n) 2 (i : Int) s = true
  · rw [if_pos c, if_pos ((r.wd hd hi).2 c)]
  · rw [if_neg c, if_neg (fun z => c ((r.wd hd hi).1 z))]
theorem RL0.E {T : Int → Int} {n : Int} {s s' : zRd} {C : List Int} {o o' : Bool} {F : List zFr} {h h' : zH} (c : RL0 T n (s, C, o, F) h) (r : RR T n s' h') (f : frE h h') : RL0 T n (s', C, o', F) h' :=
  ⟨r, c.2.1.fr (f.2 43 (by decide)) (f.2 44 (by decide)) (f.1 433 (by decide)) (f.1 434 (by decide)), c.2.2.1.fr (f.2 50 (by decide)) (f.2 53 (by decide)) (fun r r1 r2 => f.1 r (by omega)), by rw [f.2 51 (by decide)]; exact c.2.2.2⟩
theorem q_R_opD {d : Nat} {T : Int → Int} {n kd : Int} {s : zRd} {h : zH} (r : RR T n s h) (hd : effK (toks T n) s ≠ 0) : m_R_opens (d + 2) kd h = some (.inl 0, h) := by
  have g := eff_g (A := toks T n) r.1.2.2.2.2
  have e8 : 0 < h 403 8 := by rw [r.2.1.1]; omega
  rw [em_R_opens, q_R_blame, bl_d r hd, zqv_s, el_R_opens_18, if_pos e8, ite_self]
theorem q_R_opn {d : Nat} {T : Int → Int} {n kd pr : Int} {s : zRd} {C : List Int} {F : List zFr} {h : zH} {o : Bool} (c : RL0 T n (s, C, o, F) h) (hd : effK (toks T n) s = 0) (k0 : (tkI (toks T n) s.1).1 ≠ 0) (hF : F.length ≤ 9) : zWp (m_R_opens (d + 3) kd h) (fun _ h' => frLr h h' ∧ (F.length = 9 → RR T n (flS 5 (tkI (toks T n) s.1).2.1 s) h') ∧ (F.length ≠ 9 → RR T n (advS s) h' ∧ (∀ h2, (∀ r, r ≠ 438 → h2 r = h' r) → (∀ i : Int, i ≠ (F.length : Int) → h2 438 i = h' 438 i) → (kd = 3 ∨ kd = 4 → h2 438 F.length = 4 - pr) → RL0 T n (advS s, C, false, (kd, 0, 1, pr, []) :: F) h2) ∧ h' 403 50 = (F.length : Int) + 1)) := by
  obtain ⟨r, co, hf, e51⟩ := c
  dsimp only at r co hf e51
  have e8 : h 403 8 = 0 := by rw [r.2.1.1]; exact hd
  rw [em_R_opens]
  by_cases z : F.length = 9
  · refine zWp_it (by omega) (zWp_qv q_R_blame ?_)
    have b := r.bl (k := 5) (p := (tkI (toks T n) s.1).2.1) hd (by decide)
    rw [(r.at hd).1, (r.at hd).2, el_R_opens_18, b.1.2.1.1, (flS_e hd (by decide)).1]
    exact zWp_it (by decide) (zWp_s ⟨b.2.lr, fun _ => b.1, fun w => absurd z w⟩)
  · refine zWp_nt (by omega) ?_
    rw [el_R_opens_18, e8, w32_i (x := h 403 51 + 1) (by omega)]
    refine zWp_nt (by decide) (zWp_lt fun h1 e1 => ?_)
    have t1 : ∀ q, ¬ q = 51 → h1 403 q = h 403 q := fun q hq => by rw [e1, zset_j hq]
    have r1 : ∀ r, r ≠ 403 → h1 r = h r := fun r hr => by rw [e1, zset_n hr]
    have c1 : RR T n s h1 := r.fr (fun q q1 q2 => t1 q (by omega)) (r1 404 (by decide))
    have f1 : frLr h h1 := ⟨fun r hr => r1 r (by omega), fun q hq => t1 q (by omega), fun r i hr _ => by rw [r1 r (by omega)]⟩
    refine zWp_bv (q_R_adv (d := d) c1 hd k0) (fun _ h2 u2 => ?_)
    have hf2 : HF F h2 := hf.fr (by rw [u2.2.2 50 (by decide), t1 50 (by decide)]) (by rw [u2.2.2 53 (by decide), t1 53 (by decide)]) (fun r r1' r2' => by rw [u2.2.1 r (by omega), r1 r (by omega)])
    refine zWp_bv (q_R_ps (d := d + 1) (kd := kd) hf2 (by omega)) (fun _ h3 u3 => zWp_s ⟨(f1.t u2.2.lr).t u3.2.2.2.2, fun w => absurd w z, fun _ => ⟨?_, fun h4 v1 v2 v3 => ?_, u3.2.2.2.1⟩⟩)
    · exact u2.1.fr (fun q q1 q2 => u3.2.2.1 q (by omega)) (u3.2.1 404 (by decide))
    · refine ⟨?_, ?_, u3.1 pr h4 v1 v2 v3, ?_⟩
      · exact u2.1.fr (fun q q1 q2 => by rw [v1 403 (by decide), u3.2.2.1 q (by omega)]) (by rw [v1 404 (by decide), u3.2.1 404 (by decide)])
      · exact co.fr (by rw [v1 403 (by decide), u3.2.2.1 43 (by decide), u2.2.2 43 (by decide), t1 43 (by decide)]) (by rw [v1 403 (by decide), u3.2.2.1 44 (by decide), u2.2.2 44 (by decide), t1 44 (by decide)]) (by rw [v1 433 (by decide), u3.2.1 433 (by decide), u2.2.1 433 (by decide), r1 433 (by decide)]) (by rw [v1 434 (by decide), u3.2.1 434 (by decide), u2.2.1 434 (by decide), r1 434 (by decide)])
      · rw [v1 403 (by decide), u3.2.2.1 51 (by decide), u2.2.2 51 (by decide), e1, zset_e, e51]
        show _ = ((F.length + 1 : Nat) : Int) - 1
        omega
def OF (T : Int → Int) (n : Int) (h : zH) (z : zCf ⊕ zLx) (a : Int) (h' : zH) : Prop := frLr h h' ∧ (a = 0 ∨ a = 1) ∧ match z with
  | .inl c' => RR T n c'.1 h' ∧ (effK (toks T n) c'.1 = 0 → RL0 T n c' h' ∧ a = (if c'.2.2.1 = true then 1 else 0))
  | .inr r => RR T n r.1 h' ∧ effK (toks T n) r.1 ≠ 0
theorem OF_l {T : Int → Int} {n a : Int} {c' : zCf} {h' : zH} (c : RL0 T n c' h') (e : a = (if c'.2.2.1 = true then 1 else 0)) : RR T n c'.1 h' ∧ (effK (toks T n) c'.1 = 0 → RL0 T n c' h' ∧ a = (if c'.2.2.1 = true then 1 else 0)) := ⟨c.1, fun _ => ⟨c, e⟩⟩
theorem kd_s {T : Int → Int} {n : Int} {k x : Int} {s : zRd} (hk : k ≠ 5) (k0 : k ≠ 0) (h : sgS (toks T n) k x s = true) : (tkI (toks T n) s.1).1 ≠ 0 := by rw [(sg_k hk h).2.1]; exact k0
theorem q_R_321 {d : Nat} {T : Int → Int} {n a x : Int} {s : zRd} {C : List Int} {F : List zFr} {h : zH} {o : Bool} (c : RL0 T n (s, C, o, F) h) (hd : effK (toks T n) s = 0) (k0 : (tkI (toks T n) s.1).1 ≠ 0) (hC : C.length < 1600) (ha : ¬ a = -1) (cr : CR x a (h 403 6)) : zWp (l_R_operand_306 (d + 2) a h) (fun v h' => ∃ w, v = .inl w ∧ OF T n h (.inl (advS s, putA C x, true, F)) w h') := by
  obtain ⟨r, co, hf, e51⟩ := c
  dsimp only at r co hf e51
  rw [el_R_operand_306]
  refine zWp_nt ha ?_
  rw [el_R_operand_321, r.2.1.1]
  refine zWp_nt (by omega) (zWp_bv (q_R_addC (d := d + 1) co hC cr) (fun _ h1 u => ?_))
  have r1 : RR T n s h1 := r.fr (fun q q1 q2 => u.2.2.1 q (by omega)) (u.2.1 404 (by decide))
  refine zWp_bv (q_R_adv (d := d) r1 hd k0) (fun _ h2 u2 => zWp_s ⟨1, rfl, u.2.2.2.t u2.2.lr, Or.inr rfl, OF_l ⟨u2.1, ?_, ?_, ?_⟩ (by rw [if_pos rfl])⟩)
  · exact u.1.fr (u2.2.2 43 (by decide)) (u2.2.2 44 (by decide)) (u2.2.1 433 (by decide)) (u2.2.1 434 (by decide))
  · exact hf.fr (by rw [u2.2.2 50 (by decide), u.2.2.1 50 (by decide)]) (by rw [u2.2.2 53 (by decide), u.2.2.1 53 (by decide)]) (fun r r1' r2' => by rw [u2.2.1 r (by omega), u.2.1 r (by omega)])
  · show h2 403 51 = _
    rw [u2.2.2 51 (by decide), u.2.2.1 51 (by decide)]
    exact e51
theorem q_R_121 {d : Nat} {T : Int → Int} {n : Int} {s : zRd} {C : List Int} {F : List zFr} {h : zH} {o : Bool} (ok : AOk (toks T n)) (c : RL0 T n (s, C, o, F) h) (hd : effK (toks T n) s = 0) (hF : 1 ≤ F.length ∧ F.length ≤ 9) (hC : C.length ≤ s.1) : zWp (l_R_operand_121 (d + 4) h) (fun v h' => ∃ w, v = .inl w ∧ OF T n h (ptF (toks T n) s C F) w h') := by
  have c0 := c
  obtain ⟨r, co, hf, e51⟩ := c
  dsimp only at r co hf e51
  have hs := r.1.2.2.2.1
  have e8 : h 403 8 = 0 := by rw [r.2.1.1]; exact hd
  have hA := ok.1
  have hC' : (tkI (toks T n) s.1).1 ≠ 0 → C.length < 1600 := fun z => by have := ok.2.1 s.1 hs z; omega
  rw [el_R_operand_121]
  refine zWp_qi (r.iS hd) ?_
  by_cases c1 : sgS (toks T n) 4 40 s = true
  · have g := sg_k (by decide) c1
    have k3 : ¬ kdS (toks T n) s = 3 := by rw [kd_a hd, g.2.1]; decide
    have ef : ptF (toks T n) s C F = opF (toks T n) s C 2 0 F := by unfold ptF; rw [if_neg k3, if_neg (fun z => z.elim (fun y => absurd (sg_x y c1).1 (by decide)) (fun y => absurd (sg_x y c1).1 (by decide))), if_pos c1]
    rw [ef, if_pos c1]
    refine zWp_nt (by decide) (zWp_bv (q_R_opn (d := d + 1) (kd := 2) (pr := 0) c0 hd (kd_s (by decide) (by decide) c1) hF.2) (fun _ h1 u => zWp_s ⟨0, rfl, u.1, Or.inl rfl, ?_⟩))
    unfold opF
    by_cases z : F.length = 9
    · rw [if_pos z]
      exact ⟨u.2.1 z, by dsimp only; rw [(flS_e hd (by decide)).1]; decide⟩
    · rw [if_neg z]
      exact OF_l ((u.2.2 z).2.1 h1 (fun _ _ => rfl) (fun _ _ => rfl) (fun w => by omega)) rfl
  rw [if_neg c1]
  refine zWp_it rfl (zWp_qi (r.iW hd (i := 24) (j := 24) (by decide) rfl (by decide)) ?_)
  have ch : (sgS (toks T n) 2 24 s = true ∨ sgS (toks T n) 2 25 s = true) → zWp (l_R_operand_157 (d + 4) h) (fun v h' => ∃ w, v = .inl w ∧ OF T n h (ptF (toks T n) s C F) w h') := by
    intro z
    have g : s.2.1 = 0 ∧ (tkI (toks T n) s.1).1 = 2 := by
      rcases z with z | z
      · exact ⟨(sg_k (by decide) z).1, (sg_k (by decide) z).2.1⟩
      · exact ⟨(sg_k (by decide) z).1, (sg_k (by decide) z).2.1⟩
    have k3 : ¬ kdS (toks T n) s = 3 := by rw [kd_a hd, g.2]; decide
    have ef : ptF (toks T n) s C F = (if sgS (toks T n) 4 40 (advS s) = true then opF (toks T n) (advS s) C 3 (if (tkI (toks T n) s.1).2.2.1 = 24 then -11 else -12) F else .inr (dS (toks T n) (advS s), [])) := by unfold ptF; rw [if_neg k3, if_pos z]
    rw [ef, el_R_operand_157]
    refine zWp_qi (r.iW hd (i := 24) (j := 24) (by decide) rfl (by decide)) ?_
    have go : ∀ a pr, a = 4 - pr → zWp (l_R_operand_174 (d + 4) a h) (fun v h' => ∃ w, v = .inl w ∧ OF T n h (if sgS (toks T n) 4 40 (advS s) = true then opF (toks T n) (advS s) C 3 pr F else .inr (dS (toks T n) (advS s), [])) w h') := by
      intro a pr ea
      rw [el_R_operand_174]
      refine zWp_bv (q_R_adv (d := d + 2) r hd (by rw [g.2]; decide)) (fun _ h1 u1 => ?_)
      have c1' : RL0 T n (advS s, C, false, F) h1 := c0.E u1.1 u1.2
      by_cases hd1 : effK (toks T n) (advS s) = 0
      · refine zWp_qi (u1.1.iS hd1) ?_
        by_cases y : sgS (toks T n) 4 40 (advS s) = true
        · rw [if_pos y, if_pos y]
          refine zWp_nt (by decide) ?_
          rw [el_R_operand_197]
          refine zWp_bv (q_R_opn (d := d + 1) (kd := 3) (pr := pr) c1' hd1 (kd_s (by decide) (by decide) y) hF.2) (fun _ h2 u2 => ?_)
          unfold opF
          by_cases z9 : F.length = 9
          · have b := u2.2.1 z9
            rw [if_pos z9, b.2.1.1, (flS_e hd1 (by decide)).1]
            exact zWp_nt (by decide) (zWp_s ⟨0, rfl, u1.2.lr.t u2.1, Or.inl rfl, b, by dsimp only; rw [(flS_e hd1 (by decide)).1]; decide⟩)
          · obtain ⟨b1, b2, b3⟩ := u2.2.2 z9
            rw [if_neg z9]
            by_cases e0 : h2 403 8 = 0
            · refine zWp_it e0 ?_
              rw [b3, w32_i (x := (F.length : Int) + 1 - 1) (by omega), show (F.length : Int) + 1 - 1 = (F.length : Int) by omega]
              refine zWp_it (by omega) (zWp_lt fun h3 e3 => zWp_s ⟨0, rfl, (u1.2.lr.t u2.1).t ?_, Or.inl rfl, OF_l (b2 h3 (fun r hr => by rw [e3, zset_n hr]) (fun i hi => by rw [e3, zset_j hi]) (fun _ => by rw [e3, zset_e]; exact ea)) rfl⟩)
              exact ⟨fun r hr => by rw [e3, zset_n (by omega)], fun q _ => by rw [e3, zset_o (by decide)], fun r i hr _ => by rw [e3, zset_o (by omega)]⟩
            · refine zWp_nt e0 (zWp_s ⟨0, rfl, u1.2.lr.t u2.1, Or.inl rfl, ?_⟩)
              exact ⟨b1, fun w => absurd (b1.2.1.1.trans w) e0⟩
        · rw [if_neg y, if_neg y]
          refine zWp_it rfl (zWp_qv q_R_blame ?_)
          have b := u1.1.bl (k := 1) (p := unf (tkI (toks T n) (advS s).1)) hd1 (by decide)
          have eb := (flS_e (A := toks T n) (s := advS s) (k := 1) (p := unf (tkI (toks T n) (advS s).1)) hd1 (by decide)).1
          rw [(u1.1.at hd1).1, el_R_operand_197, q_R_opD (d := d + 2) b.1 (by rw [eb]; decide), zqv_s, b.1.2.1.1, eb]
          exact zWp_nt (by decide) (zWp_s ⟨0, rfl, u1.2.lr.t b.2.lr, Or.inl rfl, b.1, by show effK (toks T n) (flS 1 _ (advS s)) ≠ 0; rw [eb]; decide⟩)
      · have y : ¬ sgS (toks T n) 4 40 (advS s) = true := fun w => hd1 (sg_a (by decide) w)
        rw [if_neg y]
        have fin : zWp (l_R_operand_197 (d + 4) a h1) (fun v h' => ∃ w, v = .inl w ∧ OF T n h (.inr (dS (toks T n) (advS s), [])) w h') := by
          have g0 := eff_g (A := toks T n) u1.1.1.2.2.2.2
          rw [el_R_operand_197, q_R_opD (d := d + 2) u1.1 hd1, zqv_s, u1.1.2.1.1]
          exact zWp_nt hd1 (zWp_s ⟨0, rfl, u1.2.lr, Or.inl rfl, u1.1.de hd1, dS_e hd1⟩)
        refine zWp_qi q_R_isSg ?_
        refine zWp_if (fun _ => zWp_qv q_R_blame ?_) (fun _ => fin)
        rw [bl_d u1.1 hd1]
        exact fin
    by_cases y : sgS (toks T n) 2 24 s = true
    · rw [if_pos (c := sgS (toks T n) 2 24 s = true) (t := (1 : Int)) y, if_pos (sg_k (by decide) y).2.2]
      exact zWp_nt (by decide) (go 15 (-11) (by decide))
    · have y' : ¬ (tkI (toks T n) s.1).2.2.1 = 24 := fun w => y (decide_eq_true ⟨by rw [kd_a hd]; exact g.2, w⟩)
      rw [if_neg (c := sgS (toks T n) 2 24 s = true) (t := (1 : Int)) y, if_neg y']
      exact zWp_it rfl (go 16 (-12) (by decide))
  by_cases c2 : sgS (toks T n) 2 24 s = true
  · rw [if_pos c2]
    exact zWp_nt (by decide) (ch (Or.inl c2))
  rw [if_neg c2]
  refine zWp_it rfl (zWp_qi (r.iW hd (i := 25) (j := 25) (by decide) rfl (by decide)) ?_)
  by_cases c3 : sgS (toks T n) 2 25 s = true
  · rw [if_pos c3]
    exact zWp_nt (by decide) (ch (Or.inr c3))
  rw [if_neg c3]
  refine zWp_it rfl ?_
  clear ch
  have n23 : ¬ (sgS (toks T n) 2 24 s = true ∨ sgS (toks T n) 2 25 s = true) := fun z => z.elim c2 c3
  by_cases c5 : (tkI (toks T n) s.1).1 = 3
  · have ef : ptF (toks T n) s C F = .inl (advS s, putA C (tkI (toks T n) s.1).2.2.1, true, F) := by unfold ptF; rw [if_pos (by rw [kd_a hd]; exact c5)]
    rw [ef]
    refine zWp_it ((r.nb hd).1.2 c5) (q_R_321 (d := d + 2) c0 hd (by rw [c5]; decide) (hC' (by rw [c5]; decide)) (by decide) (Or.inl ⟨rfl, (r.nb hd).2 c5, ?_⟩))
    exact ((ok.2.2 s.1 hs).2.1 c5).1
  refine zWp_nt (fun z => c5 ((r.nb hd).1.1 z)) ?_
  have k3 : ¬ kdS (toks T n) s = 3 := by rw [kd_a hd]; exact c5
  have wd : ∀ (i : Nat) (a x : Int), sgS (toks T n) 2 (i : Int) s = true → fcA (i : Int) = x → x ≠ 0 → ¬ a = -1 → CR x a (h 403 6) → zWp (l_R_operand_306 (d + 4) a h) (fun v h' => ∃ w, v = .inl w ∧ OF T n h (ptF (toks T n) s C F) w h') := by
    intro i a x z e1 e2 e3 e4
    have g := sg_k (by decide) z
    have ef : ptF (toks T n) s C F = .inl (advS s, putA C x, true, F) := by
      unfold ptF
      rw [if_neg k3, if_neg n23, if_neg c1, if_pos ⟨by rw [kd_a hd]; exact g.2.1, by rw [g.2.2, e1]; exact e2⟩, g.2.2, e1]
    rw [ef]
    exact q_R_321 (d := d + 2) c0 hd (by rw [g.2.1]; decide) (hC' (by rw [g.2.1]; decide)) e3 e4
  refine zWp_qi (r.iW hd (i := 8) (j := 8) (by decide) rfl (by decide)) ?_
  by_cases w1 : sgS (toks T n) 2 8 s = true
  · rw [if_pos (c := sgS (toks T n) 2 8 s = true) w1]
    exact zWp_nt (by decide) (wd 8 1 (-1) w1 (by decide) (by decide) (by decide) (Or.inr (Or.inr (Or.inl ⟨by decide, by decide, by decide⟩))))
  rw [if_neg (c := sgS (toks T n) 2 8 s = true) w1]
  refine zWp_it rfl (zWp_qi (r.iW hd (i := 22) (j := 22) (by decide) rfl (by decide)) ?_)
  by_cases w2 : sgS (toks T n) 2 22 s = true
  · rw [if_pos (c := sgS (toks T n) 2 22 s = true) w2]
    exact zWp_nt (by decide) (wd 22 2 (-2) w2 (by decide) (by decide) (by decide) (Or.inr (Or.inr (Or.inl ⟨by decide, by decide, by decide⟩))))
  rw [if_neg (c := sgS (toks T n) 2 22 s = true) w2]
  refine zWp_it rfl (zWp_qi (r.iW hd (i := 11) (j := 11) (by decide) rfl (by decide)) ?_)
  by_cases w3 : sgS (toks T n) 2 11 s = true
  · rw [if_pos (c := sgS (toks T n) 2 11 s = true) w3]
    exact zWp_nt (by decide) (wd 11 3 (-3) w3 (by decide) (by decide) (by decide) (Or.inr (Or.inr (Or.inl ⟨by decide, by decide, by decide⟩))))
  rw [if_neg (c := sgS (toks T n) 2 11 s = true) w3]
  refine zWp_it rfl (zWp_qi (r.iW hd (i := 12) (j := 12) (by decide) rfl (by decide)) ?_)
  by_cases w4 : sgS (toks T n) 2 12 s = true
  · rw [if_pos (c := sgS (toks T n) 2 12 s = true) w4]
    exact zWp_nt (by decide) (wd 12 4 (-4) w4 (by decide) (by decide) (by decide) (Or.inr (Or.inr (Or.inl ⟨by decide, by decide, by decide⟩))))
  rw [if_neg (c := sgS (toks T n) 2 12 s = true) w4]
  refine zWp_it rfl (zWp_qi (r.iW hd (i := 23) (j := 23) (by decide) rfl (by decide)) ?_)
  by_cases w5 : sgS (toks T n) 2 23 s = true
  · rw [if_pos (c := sgS (toks T n) 2 23 s = true) w5]
    exact zWp_nt (by decide) (wd 23 5 (-5) w5 (by decide) (by decide) (by decide) (Or.inr (Or.inr (Or.inl ⟨by decide, by decide, by decide⟩))))
  rw [if_neg (c := sgS (toks T n) 2 23 s = true) w5]
  refine zWp_it rfl ?_
  have nf : ¬ (kdS (toks T n) s = 2 ∧ fcA (tkI (toks T n) s.1).2.2.1 ≠ 0) := by
    intro z
    have no : ∀ i : Int, ¬ sgS (toks T n) 2 i s = true → ¬ (tkI (toks T n) s.1).2.2.1 = i := fun i y w => y (decide_eq_true ⟨z.1, w⟩)
    have z2 := z.2
    unfold fcA at z2
    rw [if_neg (no 8 w1), if_neg (no 11 w3), if_neg (no 12 w4), if_neg (no 22 w2), if_neg (no 23 w5)] at z2
    exact z2 rfl
  have ef : ptF (toks T n) s C F = .inr (dS (toks T n) s, []) := by unfold ptF; rw [if_neg k3, if_neg n23, if_neg c1, if_neg nf]
  rw [ef, el_R_operand_306]
  refine zWp_it rfl (zWp_qv q_R_blame ?_)
  have b := r.bl (k := 1) (p := unf (tkI (toks T n) s.1)) hd (by decide)
  have eb := (flS_e (A := toks T n) (s := s) (k := 1) (p := unf (tkI (toks T n) s.1)) hd (by decide)).1
  rw [(r.at hd).1, el_R_operand_321, b.1.2.1.1, eb]
  exact zWp_it (by decide) (zWp_s ⟨1, rfl, b.2.lr, Or.inr rfl, b.1, by show effK (toks T n) (flS 1 _ s) ≠ 0; rw [eb]; decide⟩)
