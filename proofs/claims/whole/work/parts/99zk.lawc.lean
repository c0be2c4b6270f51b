/-! the class reads laws: parts, brackets -/
def SI (A : List zTk) (b : Int) (e : Nat) (op : Int) (inn : Option (zLx → zLx)) : Prop := (0 ≤ op ∧ op ≤ 8) ∧ (inn = none → 8 ≤ op) ∧ ∀ g, inn = some g → op < 8 ∧ ∀ (e' : Nat) x h, e + 2 ≤ e' → LC A b x h → zWp (m_LawReader_readSum e' 10 (op + 1) h) (LPo A b h (g x))
theorem q_lop0 {d : Nat} {A : List zTk} {b op : Int} {s : zRd} {C : List Int} {h : zH} (c : LC A b (s, C) h) (ho : 8 ≤ op) : zWp (m_LawReader_opens (d + 2) 10 op h) (fun v h' => ∃ a, v = .inl a ∧ (a = 0 ∧ LC A b (flS 5 (tkI A s.1).2.1 s, C) h' ∧ frLw b h h')) := by
  rw [em_LawReader_opens, c.t]
  refine zWp_nt (by omega) (zWp_po (by decide) (zWp_po (by decide) (zWp_po (by decide) (zWp_po (by decide) (g_fl c (by decide) (fun h1 c1 f1 => zWp_s ⟨0, rfl, rfl, ?_, f1⟩))))))
  rw [flS_p (p := (tkI A s.1).2.1) (q := h 5 7) (fun f => ((c.1.2.2 f).2.1).symm)]
  exact c1
theorem q_lop1 {d : Nat} {A : List zTk} {b op : Int} {s : zRd} {C : List Int} {h : zH} (ok : AOk A) (c : LC A b (s, C) h) (ho : op < 8) (hk : s.2.1 = 0 → (tkI A s.1).1 ≠ 0) : zWp (m_LawReader_opens (d + 2) 10 op h) (fun v h' => ∃ a, v = .inl a ∧ (a = 1 ∧ LC A b (advS s, C) h' ∧ frLw b h h')) := by
  rw [em_LawReader_opens, c.t]
  exact zWp_it ho (zWp_po (by decide) (zWp_po (by decide) (g_av ok c hk (fun h1 c1 f1 => zWp_s ⟨1, rfl, rfl, c1, f1⟩))))
theorem q_lfl {d : Nat} {A : List zTk} {b : Int} {s : zRd} {C : List Int} {h : zH} {f : zH → zR} {Q : zV → zH → Prop} (c : LC A b (s, C) h) (k : ∀ h', LC A b (flS 1 (unf (tkI A s.1)) s, C) h' → frLw b h h' → zWp (f h') Q) : zWp (zqv (m_Tokens_fail (d + 1) 5 1 (h 5 9) h) f) Q := by
  refine g_fl c (by decide) (fun h1 c1 f1 => k h1 ?_ f1)
  rw [flS_p (p := unf (tkI A s.1)) (q := h 5 9) (fun f => ((c.1.2.2 f).2.2.2.1).symm)]
  exact c1
theorem q_chc {e : Nat} {A : List zTk} {b op w : Int} {inn : Option (zLx → zLx)} {s : zRd} {C : List Int} {h : zH} (ok : AOk A) (si : SI A b e op inn) (c : LC A b (s, C) h) (hk : s.2.1 = 0 → (tkI A s.1).1 ≠ 0) : zWp (m_LawReader_readChoice (e + 3) 10 w op h) (LPo A b h (chA A inn w (s, C))) := by
  obtain ⟨si0, si1, si2⟩ := si
  have hb := c.2.2.2
  rw [em_LawReader_readChoice, c.t]
  refine zWp_po (by decide) (zWp_po (by decide) (g_av ok c hk (fun h1 c1 f1 => zWp_po (by decide) ?_)))
  rw [c1.t]
  refine zWp_po (by decide) (zWp_qi c1.i ?_)
  by_cases z : sgS A 4 40 (advS s) = true
  case neg =>
    have ea : chA A inn w (s, C) = (flS 1 (unf (tkI A (advS s).1)) (advS s), C) := by unfold chA; rw [if_neg z]
    rw [ea, if_neg z]
    refine zWp_it rfl (zWp_po (by decide) (zWp_po (by decide) ?_))
    rw [c1.t]
    exact zWp_po (by decide) (zWp_po (by decide) (q_lfl c1 (fun h2 c2 f2 => zWp_s ⟨c2, f1.t f2⟩)))
  have gz := sg_k (by decide) z
  rw [if_pos z]
  refine zWp_nt (by decide) (zWp_po (by decide) ?_)
  cases inn with
  | none =>
    have ea : chA A none w (s, C) = (flS 5 (tkI A (advS s).1).2.1 (advS s), C) := by unfold chA; rw [if_pos z]; rfl
    rw [ea]
    refine zWp_bi (q_lop0 c1 (si1 rfl)) (fun a h2 u => ?_)
    rw [u.1]
    exact zWp_it rfl (zWp_s ⟨u.2.1, f1.t u.2.2⟩)
  | some g =>
    obtain ⟨o8, hg⟩ := si2 g rfl
    have ea : chA A (some g) w (s, C) = (ndS A 4 41 (g (ndS A 4 44 (g (advS (advS s), C)).1, (g (advS (advS s), C)).2)).1, putA (g (ndS A 4 44 (g (advS (advS s), C)).1, (g (advS (advS s), C)).2)).2 w) := by unfold chA; rw [if_pos z]; rfl
    rw [ea]
    refine zWp_bi (q_lop1 ok c1 o8 (fun _ => by rw [gz.2.1]; decide)) (fun a h2 u => ?_)
    rw [u.1, w32_i (x := op + 1) (by omega)]
    refine zWp_nt (by decide) (zWp_po (by decide) (zWp_bv (hg (e + 2) _ h2 (Nat.le_refl _) u.2.1) (fun _ h3 v3 => zWp_po (by decide) ?_)))
    rw [v3.1.t]
    refine zWp_po (by decide) (g_ns ok v3.1 (fun h4 c4 f4 => zWp_po (by decide) (zWp_bv (hg (e + 2) _ h4 (Nat.le_refl _) c4) (fun _ h5 v5 => zWp_po (by decide) ?_))))
    rw [v5.1.t]
    refine zWp_po (by decide) (g_ns ok v5.1 (fun h6 c6 f6 => zWp_po (by decide) ?_))
    rw [c6.k]
    exact zWp_po (by omega) (g_put c6 (fun h7 c7 f7 => zWp_s ⟨c7, (((((f1.t u.2.2).t v3.2).t f4).t v5.2).t f6).t f7⟩))
theorem q_fcd {d : Nat} {x : Int} {h : zH} : m_LawReader_factCode (d + 1) x h = some (.inl (fcA x), h) := by
  rw [em_LawReader_factCode]
  unfold fcA
  split
  · rfl
  split
  · rfl
  split
  · rfl
  split
  · rfl
  split
  · rfl
  · rfl
theorem q_part {e : Nat} {A : List zTk} {b op : Int} {inn : Option (zLx → zLx)} {x : zLx} {h : zH} (ok : AOk A) (si : SI A b e op inn) (c : LC A b x h) : zWp (m_LawReader_readPart (e + 4) 10 op h) (LPo A b h (ptA A inn x)) := by
  obtain ⟨s, C⟩ := x
  have si' := si
  obtain ⟨si0, si1, si2⟩ := si
  have hb := c.2.2.2
  rw [em_LawReader_readPart, c.t, show h 5 6 = kdS A s from c.1.k]
  refine zWp_po (by decide) (zWp_po (by decide) ?_)
  by_cases c3 : kdS A s = 3
  · have f := kd_0 c3 (by decide)
    have ea : ptA A inn (s, C) = (advS s, putA C (tkI A s.1).2.2.1) := by unfold ptA; rw [if_pos c3]
    rw [ea, c.k, (c.1.2.2 f.1).2.2.1]
    refine zWp_it c3 (zWp_po (by decide) (zWp_po (by decide) (zWp_po (by decide) (zWp_po (by omega) (g_put c (fun h1 c1 f1 => zWp_po (by decide) ?_))))))
    rw [c1.t]
    exact zWp_po (by decide) (g_av ok c1 (fun _ => by rw [f.2]; decide) (fun h2 c2 f2 => zWp_s ⟨c2, f1.t f2⟩))
  refine zWp_nt c3 (zWp_po (by decide) (zWp_po (by decide) (zWp_qi c.o ?_)))
  have ch : sgS A 2 24 s = true ∨ sgS A 2 25 s = true → zWp (l_LawReader_readPart_59 (e + 3) 10 op h) (LPo A b h (ptA A inn (s, C))) := by
    intro z
    have g : s.2.1 = 0 ∧ (tkI A s.1).1 = 2 := by
      rcases z with z | z
      · exact ⟨(sg_k (by decide) z).1, (sg_k (by decide) z).2.1⟩
      · exact ⟨(sg_k (by decide) z).1, (sg_k (by decide) z).2.1⟩
    have ea : ptA A inn (s, C) = chA A inn (if (tkI A s.1).2.2.1 = 24 then -11 else -12) (s, C) := by unfold ptA; rw [if_neg c3, if_pos z]
    rw [ea, el_LawReader_readPart_59, c.t, (c.1.2.2 g.1).2.2.1]
    refine zWp_po (by decide) (zWp_po (by decide) ?_)
    by_cases y : (tkI A s.1).2.2.1 = 24
    · rw [if_pos (c := (tkI A s.1).2.2.1 = 24) (t := (-11 : Int)) y]
      exact zWp_it y (zWp_po (by decide) (zWp_bv (q_chc ok si' c (fun _ => by rw [g.2]; decide)) (fun _ h1 u => zWp_s u)))
    · rw [if_neg (c := (tkI A s.1).2.2.1 = 24) (t := (-11 : Int)) y]
      exact zWp_nt y (zWp_po (by decide) (zWp_bv (q_chc ok si' c (fun _ => by rw [g.2]; decide)) (fun _ h1 u => zWp_s u)))
  by_cases c1 : sgS A 2 24 s = true
  · rw [if_pos c1]
    exact zWp_nt (by decide) (ch (Or.inl c1))
  rw [if_neg c1, c.t]
  refine zWp_it rfl (zWp_po (by decide) (zWp_po (by decide) (zWp_qi c.o ?_)))
  by_cases c2 : sgS A 2 25 s = true
  · rw [if_pos c2]
    exact zWp_nt (by decide) (ch (Or.inr c2))
  rw [if_neg c2, c.t]
  refine zWp_it rfl (zWp_po (by decide) (zWp_po (by decide) (zWp_qi c.i ?_)))
  have n12 : ¬ (sgS A 2 24 s = true ∨ sgS A 2 25 s = true) := fun z => z.elim c1 c2
  by_cases c4 : sgS A 4 40 s = true
  · have g := sg_k (by decide) c4
    have ea : ptA A inn (s, C) = opA A inn (fun y => (ndS A 4 41 y.1, y.2)) (s, C) := by unfold ptA; rw [if_neg c3, if_neg n12, if_pos c4]
    rw [ea, if_pos c4]
    refine zWp_nt (by decide) (zWp_po (by decide) ?_)
    cases inn with
    | none =>
      refine zWp_bi (q_lop0 c (si1 rfl)) (fun a h2 u => ?_)
      rw [u.1]
      exact zWp_it rfl (zWp_s ⟨u.2.1, u.2.2⟩)
    | some g2 =>
      obtain ⟨o8, hg⟩ := si2 g2 rfl
      refine zWp_bi (q_lop1 ok c o8 (fun _ => by rw [g.2.1]; decide)) (fun a h2 u => ?_)
      rw [u.1, w32_i (x := op + 1) (by omega)]
      refine zWp_nt (by decide) (zWp_po (by decide) (zWp_bv (hg (e + 3) _ h2 (by omega) u.2.1) (fun _ h3 v3 => zWp_po (by decide) ?_)))
      rw [v3.1.t]
      exact zWp_po (by decide) (g_ns ok v3.1 (fun h4 c4 f4 => zWp_s ⟨c4, (u.2.2.t v3.2).t f4⟩))
  rw [if_neg c4, c.t, show h 5 6 = kdS A s from c.1.k]
  refine zWp_it rfl (zWp_po (by decide) (zWp_po (by decide) ?_))
  have bad : ¬ (kdS A s = 2 ∧ fcA (tkI A s.1).2.2.1 ≠ 0) → zWp (l_LawReader_readPart_176 (e + 3) 10 h) (LPo A b h (ptA A inn (s, C))) := by
    intro z
    have ea : ptA A inn (s, C) = (flS 1 (unf (tkI A s.1)) s, C) := by unfold ptA; rw [if_neg c3, if_neg n12, if_neg c4, if_neg z]
    rw [ea, el_LawReader_readPart_176, c.t]
    exact zWp_po (by decide) (zWp_po (by decide) (zWp_po (by decide) (zWp_po (by decide) (q_lfl c (fun h2 c2 f2 => zWp_s ⟨c2, f2⟩)))))
  by_cases c5 : kdS A s = 2
  case neg => exact zWp_nt c5 (bad (fun z => c5 z.1))
  have f := kd_0 c5 (by decide)
  rw [(c.1.2.2 f.1).2.2.1]
  refine zWp_it c5 (zWp_po (by decide) (zWp_po (by decide) (zWp_qi q_fcd ?_)))
  by_cases c6 : fcA (tkI A s.1).2.2.1 = 0
  · exact zWp_it c6 (bad (fun z => z.2 c6))
  have ea : ptA A inn (s, C) = (advS s, putA C (fcA (tkI A s.1).2.2.1)) := by unfold ptA; rw [if_neg c3, if_neg n12, if_neg c4, if_pos ⟨c5, c6⟩]
  rw [ea, c.t, (c.1.2.2 f.1).2.2.1, c.k]
  refine zWp_nt c6 (zWp_po (by decide) (zWp_po (by decide) (zWp_po (by decide) (zWp_qi q_fcd (zWp_po (by omega) (g_put c (fun h1 c1 f1 => zWp_po (by decide) ?_)))))))
  rw [c1.t]
  exact zWp_po (by decide) (g_av ok c1 (fun _ => by rw [f.2]; decide) (fun h2 c2 f2 => zWp_s ⟨c2, f1.t f2⟩))
/-- a sum, k brackets left -/
theorem q_sumK {A : List zTk} {b : Int} (ok : AOk A) : ∀ (k : Nat), k ≤ 8 → ∀ (e : Nat) (x : zLx) (h : zH), 4 * k + 6 ≤ e → LC A b x h → zWp (m_LawReader_readSum e 10 (8 - (k : Int)) h) (LPo A b h (sumA A k x)) := by
  intro k
  induction k with
  | zero =>
    intro _ e x h he c
    obtain ⟨e', rfl⟩ : ∃ e', e = e' + 6 := ⟨e - 6, by omega⟩
    have si : SI A b e' (8 - ((0 : Nat) : Int)) none := ⟨by omega, fun _ => by omega, fun g z => nomatch z⟩
    exact q_summ (inn := none) ok (fun x h c => q_part ok si c) c
  | succ k ih =>
    intro hk e x h he c
    obtain ⟨e', rfl⟩ : ∃ e', e = e' + 6 := ⟨e - 6, by omega⟩
    have si : SI A b e' (8 - ((k + 1 : Nat) : Int)) (some (sumA A k)) := by
      refine ⟨by omega, fun z => (nomatch z), fun g z => ⟨by omega, fun e2 x2 h2 he2 c2 => ?_⟩⟩
      have eg : sumA A k = g := Option.some.inj z
      rw [← eg, show (8 : Int) - ((k + 1 : Nat) : Int) + 1 = 8 - (k : Int) by omega]
      exact ih (by omega) e2 x2 h2 (by omega) c2
    exact q_summ (inn := some (sumA A k)) ok (fun x h c => q_part ok si c) c
