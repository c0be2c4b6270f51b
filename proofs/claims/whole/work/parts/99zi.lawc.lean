/-! the class reads laws: steps -/
def LC (A : List zTk) (b : Int) (x : zLx) (h : zH) : Prop := TC A x.1 h ∧ LB x.2 b h ∧ (h 10 0 = 5 ∧ h 10 1 = b + 21) ∧ (11 ≤ b ∧ b ≤ 39)
def frLw (b : Int) (h h' : zH) : Prop := (∀ r, ¬ (r = 5 ∨ r = b + 21 ∨ r = b + 22) → h' r = h r) ∧ ∀ q, q ≠ 1 → h' (b + 21) q = h (b + 21) q
theorem frLw.rf (b : Int) (h : zH) : frLw b h h := ⟨fun _ _ => rfl, fun _ _ => rfl⟩
theorem frLw.t {b : Int} {x y z : zH} (h1 : frLw b x y) (h2 : frLw b y z) : frLw b x z := ⟨fun r hr => (h2.1 r hr).trans (h1.1 r hr), fun q hq => (h2.2 q hq).trans (h1.2 q hq)⟩
theorem LC.fA {A : List zTk} {b : Int} {s s' : zRd} {C : List Int} {h h' : zH} (c : LC A b (s, C) h) (t : TC A s' h') (f : frA h h') : LC A b (s', C) h' ∧ frLw b h h' := by
  obtain ⟨c1, c2, c3, c4⟩ := c
  exact ⟨⟨t, c2.fr (by rw [f.1 _ (by omega)]) (f.1 _ (by omega)), by rw [f.1 10 (by decide)]; exact c3, c4⟩, fun r hr => f.1 r (fun z => hr (Or.inl z)), fun q _ => by rw [f.1 _ (by omega)]⟩
theorem g_av {d : Nat} {A : List zTk} {b : Int} {s : zRd} {C : List Int} {h : zH} {f : zH → zR} {Q : zV → zH → Prop} (ok : AOk A) (c : LC A b (s, C) h) (hk : s.2.1 = 0 → (tkI A s.1).1 ≠ 0) (k : ∀ h', LC A b (advS s, C) h' → frLw b h h' → zWp (f h') Q) : zWp (zqv (m_Tokens_advance (d + 1) 5 h) f) Q :=
  zWp_bv (q_adv (d := d) ok c.1 hk) (fun _ h1 u => k h1 (c.fA u.1 u.2).1 (c.fA u.1 u.2).2)
theorem g_fl {d : Nat} {A : List zTk} {b : Int} {s : zRd} {C : List Int} {h : zH} {w p : Int} {f : zH → zR} {Q : zV → zH → Prop} (c : LC A b (s, C) h) (hw : w ≠ 0) (k : ∀ h', LC A b (flS w p s, C) h' → frLw b h h' → zWp (f h') Q) : zWp (zqv (m_Tokens_fail (d + 1) 5 w p h) f) Q :=
  zWp_bv (q_fail (d := d) c.1 hw) (fun _ h1 u => k h1 (c.fA u.1 u.2).1 (c.fA u.1 u.2).2)
theorem g_ns {d : Nat} {A : List zTk} {b : Int} {s : zRd} {C : List Int} {h : zH} {x : Int} {f : zH → zR} {Q : zV → zH → Prop} (ok : AOk A) (c : LC A b (s, C) h) (k : ∀ h', LC A b (ndS A 4 x s, C) h' → frLw b h h' → zWp (f h') Q) : zWp (zqv (m_Tokens_needSign (d + 2) 5 x h) f) Q :=
  zWp_bv (q_ndSg (d := d) ok c.1) (fun _ h1 u => k h1 (c.fA u.1 u.2).1 (c.fA u.1 u.2).2)
