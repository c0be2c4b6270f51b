/-! the reference's roll -/
def RV (E : List zEv) (R : Int) (h : zH) : Prop := h 403 73 = w32 R ∧ h 403 74 = w32 (esum eRu E) ∧ h 403 75 = w32 (esum eGo E) ∧ h 403 76 = w32 (esum eWo E) ∧ h 403 77 = etop E 0
def DR (v : Int) (Λ : zLw) (d : Nat) (Δ : zDu) (h0 h : zH) : Prop := v = 0 → RD Δ h ∧ LawR Λ d h ∧ frD h0 h
theorem DR.fr {v : Int} {Λ : zLw} {d : Nat} {Δ : zDu} {h0 h h' : zH} (r : DR v Λ d Δ h0 h) (h1 : h' 403 12 = h 403 12) (hr : ∀ r, 429 ≤ r ∧ r ≤ 434 ∨ r = 451 ∨ r = 452 ∨ r = 453 → h' r = h r) : DR v Λ d Δ h0 h' := fun z => by
  obtain ⟨a, b, c⟩ := r z
  exact ⟨a.fr (hr 451 (by decide)) (hr 452 (by decide)) (hr 453 (by decide)), b.fr h1 (fun r r1 r2 => hr r (Or.inl ⟨r1, r2⟩)), c.t (frD.e (hr 451 (by decide)) (hr 452 (by decide)) (hr 453 (by decide)))⟩
/-- how many cells lie lower -/
def blw (σ : zH) (c : Int) : Int := zct (fun j => decide (σ 1 j < σ 1 c)) (nC σ).toNat 0
theorem blw_lt {σ : zH} {n c : Int} (hn : 0 ≤ n ∧ n < nC σ) (h : σ 1 n < σ 1 c) : blw σ n < blw σ c := by
  unfold blw
  have a := zct_mn (f := fun j => decide (σ 1 j < σ 1 c) && decide (j ≠ n)) (g := fun j => decide (σ 1 j < σ 1 n)) (nC σ).toNat 0 (fun j _ _ hj => by
    have hj := of_decide_eq_true hj
    rw [Bool.and_eq_true]
    exact ⟨decide_eq_true (by omega), decide_eq_true (fun z => by rw [z] at hj; omega)⟩)
  have b := zct_upd (f := fun j => decide (σ 1 j < σ 1 c)) (g := fun j => decide (σ 1 j < σ 1 c) && decide (j ≠ n)) (j := n) (decide_eq_true h) (by simp) (nC σ).toNat 0 hn.1 (by omega) (fun x _ _ hx => by simp [hx])
  omega
theorem blw_le {σ : zH} (w : WS σ) {c : Int} (hc : 0 ≤ c ∧ c < nC σ) : 0 ≤ blw σ c ∧ blw σ c < 60 := by
  have hn := w.n
  unfold blw
  have a := zct_le (fun j => decide (σ 1 j < σ 1 c)) (nC σ).toNat 0
  have b := zct_upd (f := fun j => decide (σ 1 j < σ 1 c) || decide (j = c)) (g := fun j => decide (σ 1 j < σ 1 c)) (j := c) (by simp) (by simp) (nC σ).toNat 0 hc.1 (by omega) (fun x _ _ hx => by simp [hx])
  have e := zct_le (fun j => decide (σ 1 j < σ 1 c) || decide (j = c)) (nC σ).toNat 0
  omega
theorem q_owesIf {d : Nat} {σ : zH} {Λ : zLw} {v s c n sp val wl k kd : Int} {h h0 : zH} {Δ : zDu} (w : WS σ) (g : RS σ h) (hs : 0 ≤ s ∧ s < nS σ) (hc : 0 ≤ c ∧ c < nC σ) (hn : 0 ≤ n ∧ n < nC σ) (hsp : 0 ≤ sp ∧ sp ≤ 9999) (hval : 0 ≤ val ∧ val ≤ 9999) (hk : 0 ≤ k ∧ k ≤ 9999) (hkd : kd = 2 ∨ kd = 3) (hwl : wl = if kd = 2 then 1 else 0) (dr : DR v Λ (d + 1) Δ h0 h) {F : zH → zR} {Q : zV → zH → Prop}
    (K : ∀ h', frR v h h' → (∀ r, ¬ (r = 442 ∨ r = 443 ∨ r = 451 ∨ r = 452 ∨ r = 453) → h' r = h r) → DR v Λ (d + 1) (dueF Λ σ Δ (ecl σ [(s, σ 6 c, (kd, n, sp, val, k))])) h0 h' → zWp (F h') Q) :
    zWp (if v = 0 then zqv (m_R_owes (d + 2) s c n sp val wl k h) F else F h) Q := by
  by_cases z : v = 0
  · obtain ⟨rd, la, fd⟩ := dr z
    obtain ⟨v1, h1, e1, rd1, la1, fd1, r1⟩ := q_R_owes w g hs hc hn hsp hval hk hkd hwl rd la
    refine zWp_it z (zWp_qv e1 (K h1 ?_ r1 (fun _ => ⟨rd1, la1, fd.t fd1⟩)))
    exact ⟨fun r a b => r1 r (by omega), fun q _ => by rw [r1 403 (by decide)], fun i _ => ⟨by rw [r1 444 (by decide)], by rw [r1 445 (by decide)], by rw [r1 446 (by decide)]⟩, fun i _ => by rw [r1 447 (by decide)], fun i _ => by rw [r1 448 (by decide)]⟩
  · exact zWp_nt z (K h (frR.rf h) (fun _ _ => rfl) (fun y => absurd y z))
/-- what the reference's roll comes to -/
def RPost (σ : zH) (q : zRo) (v s pay : Int) (Λ : zLw) (d : Nat) (E : List zEv) (R : Int) (W : List Int) (Δ : zDu) (h0 h : zH) (x : zV) (h' : zH) : Prop :=
  x = .inl q.2.2.1 ∧ RT σ q.1 v h' ∧ RS σ h' ∧ frR v h h' ∧ RV (E ++ evs s pay q.2.1) R h' ∧ RW (W ++ cellsOf q.2.1) h' ∧ (¬ q.2.2.1 = -1 → h' 403 80 = q.2.2.2) ∧ DR v Λ d (dueF Λ σ Δ (ecl σ (evs s pay q.2.1))) h0 h'
theorem RV.one {E : List zEv} {R : Int} {h h' : zH} (r : RV E R h) (e : zEv) (h73 : h' 403 73 = h 403 73) (h74 : h' 403 74 = w32 (h 403 74 + eRu e)) (h75 : h' 403 75 = w32 (h 403 75 + eGo e)) (h76 : h' 403 76 = w32 (h 403 76 + eWo e)) (h77 : h' 403 77 = if h 403 77 < eSp e then eSp e else h 403 77) : RV (E ++ [e]) R h' := by
  obtain ⟨a1, a2, a3, a4, a5⟩ := r
  refine ⟨h73.trans a1, ?_, ?_, ?_, ?_⟩
  · rw [h74, a2, w32_a, esum_app, esum_1]
  · rw [h75, a3, w32_a, esum_app, esum_1]
  · rw [h76, a4, w32_a, esum_app, esum_1]
  · rw [h77, a5, etop_app]; rfl
theorem RV.w {E : List zEv} {R : Int} {h : zH} (r : RV E R h) : w32 (h 403 74 + 0) = h 403 74 ∧ w32 (h 403 75 + 0) = h 403 75 ∧ w32 (h 403 76 + 0) = h 403 76 := by
  obtain ⟨a1, a2, a3, a4, a5⟩ := r
  rw [Int.add_zero, Int.add_zero, Int.add_zero, a2, a3, a4]
  exact ⟨w32_w, w32_w, w32_w⟩
