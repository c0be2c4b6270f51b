/-! whither a stone rolls from each cell: the reference -/
def NX (σ : zH) (c b : Int) (h : zH) : Prop := h 454 c = (if b = c then -1 else b) ∧ h 455 c = σ 1 c - σ 1 b
def frNx (c : Int) (h h' : zH) : Prop := (∀ r, ¬ (r = 454 ∨ r = 455) → h' r = h r) ∧ ∀ r i, r = 454 ∨ r = 455 → i ≠ c → h' r i = h r i
theorem frNx.rf (c : Int) (h : zH) : frNx c h h := ⟨fun _ _ => rfl, fun _ _ _ _ => rfl⟩
theorem frNx.t {c : Int} {x y z : zH} (h1 : frNx c x y) (h2 : frNx c y z) : frNx c x z := ⟨fun r hr => (h2.1 r hr).trans (h1.1 r hr), fun r i hr hi => (h2.2 r i hr hi).trans (h1.2 r i hr hi)⟩
/-- the bank that is told of -/
def Bnk (σ : zH) (h : zH) : Prop := (h 403 12 = 0 ∨ h 403 12 = 1) ∧ (h 405 (h 403 12) = σ 0 0 ∧ h 406 (h 403 12) = σ 0 1) ∧ ∀ c, 0 ≤ c → c < 60 → h 408 (60 * h 403 12 + c) = σ 1 c
theorem Bnk.fr {σ h h' : zH} (b : Bnk σ h) (e : ∀ r, r = 403 ∨ r = 405 ∨ r = 406 ∨ r = 408 → h' r = h r) : Bnk σ h' := by
  unfold Bnk at b ⊢
  rw [e 403 (by decide), e 405 (by decide), e 406 (by decide), e 408 (by decide)]
  exact b
theorem lwN_c {σ : zH} {b n n' : Int} {p q : Prop} [Decidable p] [Decidable q] (h : p ↔ q) (e : n = n') : lwN σ b n p = lwN σ b n' q := by
  unfold lwN
  by_cases z : p ∧ σ 1 n < σ 1 b
  · rw [if_pos z, if_pos ⟨h.1 z.1, by rw [← e]; exact z.2⟩, e]
  · rw [if_neg z, if_neg (fun w => z ⟨h.2 w.1, by rw [e]; exact w.2⟩)]
theorem q_R_cons {d : Nat} {σ h : zH} {c x y best : Int} (k : Bnk σ h) (wb : (0 ≤ σ 0 0 ∧ σ 0 0 ≤ 10) ∧ (0 ≤ σ 0 1 ∧ σ 0 1 ≤ 10) ∧ nC σ ≤ 60) (hH : ∀ c, 0 ≤ c → c < 60 → 0 ≤ σ 1 c ∧ σ 1 c ≤ 999) (hc : 0 ≤ c ∧ c < nC σ) (i : inC σ c best) (nx : NX σ c best h) (no : (0 ≤ x ∧ x ≤ σ 0 0 - 1) ∧ (0 ≤ y ∧ y ≤ σ 0 1 - 1) → 0 ≤ y * σ 0 0 ∧ y * σ 0 0 ≤ 100 ∧ y * σ 0 0 + x < nC σ) :
    zWp (m_R_considers (d + 2) c x y h) (fun _ h' => NX σ c (lwN σ best (y * σ 0 0 + x) ((0 ≤ x ∧ x ≤ σ 0 0 - 1) ∧ (0 ≤ y ∧ y ≤ σ 0 1 - 1))) h' ∧ frNx c h h') := by
  obtain ⟨kb, ⟨k5, k6⟩, k8⟩ := k
  have same : ¬ (((0 ≤ x ∧ x ≤ σ 0 0 - 1) ∧ (0 ≤ y ∧ y ≤ σ 0 1 - 1)) ∧ σ 1 (y * σ 0 0 + x) < σ 1 best) → NX σ c (lwN σ best (y * σ 0 0 + x) ((0 ≤ x ∧ x ≤ σ 0 0 - 1) ∧ (0 ≤ y ∧ y ≤ σ 0 1 - 1))) h := by
    intro z
    unfold lwN
    rw [if_neg z]
    exact nx
  rw [em_R_considers, k5, w32_i (x := σ 0 0 - 1) (by omega)]
  refine zWp_it (by omega) (zWp_qi q_R_isB ?_)
  by_cases c1 : 0 ≤ x ∧ x ≤ σ 0 0 - 1
  case neg =>
    rw [if_neg (c := 0 ≤ x ∧ x ≤ σ 0 0 - 1) (t := (1 : Int)) c1]
    exact zWp_it rfl (zWp_s ⟨same (fun z => c1 z.1.1), frNx.rf c h⟩)
  rw [if_pos (c := 0 ≤ x ∧ x ≤ σ 0 0 - 1) (t := (1 : Int)) c1, k6, w32_i (x := σ 0 1 - 1) (by omega)]
  refine zWp_nt (by decide) (zWp_it (by omega) (zWp_qi q_R_isB ?_))
  by_cases c2 : 0 ≤ y ∧ y ≤ σ 0 1 - 1
  case neg =>
    rw [if_neg (c := 0 ≤ y ∧ y ≤ σ 0 1 - 1) (t := (1 : Int)) c2]
    exact zWp_it rfl (zWp_s ⟨same (fun z => c2 z.1.2), frNx.rf c h⟩)
  rw [if_pos (c := 0 ≤ y ∧ y ≤ σ 0 1 - 1) (t := (1 : Int)) c2]
  obtain ⟨n1, n2, n3⟩ := no ⟨c1, c2⟩
  have hn : 0 ≤ y * σ 0 0 + x ∧ y * σ 0 0 + x < 60 := by omega
  have kc := k8 c hc.1 (by omega)
  have kn := k8 (y * σ 0 0 + x) hn.1 hn.2
  have hg : m_R_height (d + 1) x y h = some (.inl (σ 1 (y * σ 0 0 + x)), h) := by
    rw [em_R_height, k5, w32_i (x := y * σ 0 0) (by omega), w32_i (x := 60 * h 403 12) (by omega), w32_i (x := 60 * h 403 12 + y * σ 0 0) (by omega), w32_i (x := 60 * h 403 12 + y * σ 0 0 + x) (by omega), if_pos (by omega), if_pos (by omega), show 60 * h 403 12 + y * σ 0 0 + x = 60 * h 403 12 + (y * σ 0 0 + x) by omega, kn]
  have b1 := hH c hc.1 (by omega)
  have b2 := hH _ hn.1 hn.2
  refine zWp_nt (by decide) ?_
  rw [w32_i (x := 60 * h 403 12) (by omega), w32_i (x := 60 * h 403 12 + c) (by omega), kc]
  refine zWp_it (by omega) (zWp_qi hg (zWp_it (by omega) ?_))
  rw [w32_i (x := σ 1 c - σ 1 (y * σ 0 0 + x)) (by omega), nx.2]
  by_cases c3 : σ 1 (y * σ 0 0 + x) < σ 1 best
  case neg => exact zWp_nt (by omega) (zWp_s ⟨same (fun z => c3 z.2), frNx.rf c h⟩)
  refine zWp_it (by omega) (zWp_it (by omega) (zWp_lt fun h1 e1 => ?_))
  have s1 : h1 403 12 = h 403 12 := by rw [e1, zset_o (by decide)]
  have s2 : h1 405 (h 403 12) = σ 0 0 := by rw [e1, zset_o (by decide)]; exact k5
  rw [s1, s2, w32_i (x := y * σ 0 0) (by omega), w32_i (x := y * σ 0 0 + x) (by omega)]
  refine zWp_it (by omega) (zWp_it (by omega) (zWp_lt fun h2 e2 => zWp_s ⟨?_, fun r hr => by rw [e2, zset_n (by omega), e1, zset_n (by omega)], fun r i hr hi => by rw [e2, zset_2 (fun z => hi z.2), e1, zset_2 (fun z => hi z.2)]⟩))
  have el : lwN σ best (y * σ 0 0 + x) ((0 ≤ x ∧ x ≤ σ 0 0 - 1) ∧ (0 ≤ y ∧ y ≤ σ 0 1 - 1)) = y * σ 0 0 + x := if_pos ⟨⟨c1, c2⟩, c3⟩
  unfold NX
  rw [el]
  have ne : ¬ y * σ 0 0 + x = c := by
    intro z
    rw [z] at c3
    rcases i.2 with e | e
    · rw [e] at c3; omega
    · omega
  rw [if_neg ne]
  exact ⟨by rw [e2, zset_e], by rw [e2, zset_o (by decide), e1, zset_e]⟩
