/-! what a mover notes -/
/-- stone, payer, what happened -/
abbrev zEv : Type := Int × Int × zRec
abbrev eK (e : zEv) : Int := e.2.2.1
abbrev eN (e : zEv) : Int := e.2.2.2.1
abbrev eSp (e : zEv) : Int := e.2.2.2.2.1
abbrev eV (e : zEv) : Int := e.2.2.2.2.2.1
abbrev eM (e : zEv) : Int := e.2.2.2.2.2.2
def esum (f : zEv → Int) : List zEv → Int
  | [] => 0
  | e :: E => f e + esum f E
theorem esum_app (f : zEv → Int) : ∀ (E F : List zEv), esum f (E ++ F) = esum f E + esum f F
  | [], F => by show esum f F = 0 + esum f F; omega
  | e :: E, F => by
    show f e + esum f (E ++ F) = f e + esum f E + esum f F
    rw [esum_app f E F]; omega
theorem esum_1 (f : zEv → Int) (e : zEv) : esum f [e] = f e := by show f e + 0 = f e; omega
def eRu (e : zEv) : Int := if eK e = 3 then 1 else 0
def eWo (e : zEv) : Int := if eK e = 3 then eV e else 0
def eMt (e : zEv) : Int := if eK e = 1 ∨ eK e = 2 then 1 else 0
def eGo (e : zEv) : Int := if eK e = 2 then 1 else 0
def etop : List zEv → Int → Int
  | [], x => x
  | e :: E, x => etop E (if x < eSp e then eSp e else x)
theorem etop_app : ∀ (E F : List zEv) (x : Int), etop (E ++ F) x = etop F (etop E x)
  | [], F, x => rfl
  | e :: E, F, x => etop_app E F _
def eClaims (σ : zH) (e : zEv) : Prop := (eK e = 2 ∨ eK e = 3) ∧ e.2.1 ≠ -1 ∧ σ 6 (eN e) ≠ -1 ∧ e.2.1 ≠ σ 6 (eN e)
def eRow (σ : zH) (e : zEv) : List Int := [e.2.1, σ 6 (eN e), e.1, eSp e, eV e, if eK e = 2 then 1 else 0, eM e]
noncomputable def ecl (σ : zH) : List zEv → List zEv
  | [] => []
  | e :: E => @ite _ (eClaims σ e) (Classical.propDecidable _) (e :: ecl σ E) (ecl σ E)
theorem ecl_app (σ : zH) : ∀ E F : List zEv, ecl σ (E ++ F) = ecl σ E ++ ecl σ F
  | [], F => rfl
  | e :: E, F => by
    show @ite _ (eClaims σ e) (Classical.propDecidable _) (e :: ecl σ (E ++ F)) (ecl σ (E ++ F)) = @ite _ (eClaims σ e) (Classical.propDecidable _) (e :: ecl σ E) (ecl σ E) ++ ecl σ F
    rw [ecl_app σ E F]
    split <;> rfl
theorem ecl_y {σ : zH} {e : zEv} (h : eClaims σ e) : ecl σ [e] = [e] := by
  show @ite _ (eClaims σ e) (Classical.propDecidable _) [e] [] = [e]
  exact if_pos h
theorem ecl_n {σ : zH} {e : zEv} (h : ¬ eClaims σ e) : ecl σ [e] = [] := by
  show @ite _ (eClaims σ e) (Classical.propDecidable _) [e] [] = []
  exact if_neg h
theorem q_claim {d : Nat} {σ : zH} {a m n v iw : Int} {h : zH} (g : CS σ a h) (w : WS σ) (hm : MA m) (ea : h m 11 = a) (hn : 0 ≤ n ∧ n < nC σ) (hk : 0 ≤ h m 10 ∧ h m 10 < 68) :
    zWp (m_Mover_claim (d + 1) m n v iw h) (fun _ h' => (∀ r, ¬ (r = m ∨ r = m + 2) → h' r = h r) ∧ (∀ k, ¬ k = 10 → h' m k = h m k) ∧
      (h m 17 = -1 ∨ σ 6 n = -1 ∨ h m 17 = σ 6 n → h' m 10 = h m 10 ∧ h' (m + 2) = h (m + 2)) ∧
      (h m 17 ≠ -1 ∧ σ 6 n ≠ -1 ∧ h m 17 ≠ σ 6 n → h' m 10 = h m 10 + 1 ∧ (∀ i, i < 7 * h m 10 → h' (m + 2) i = h (m + 2) i) ∧ ∀ q : Nat, q < 7 → h' (m + 2) (7 * h m 10 + q) = [h m 17, σ 6 n, h m 14, h m 15, v, iw, h m 16].getD q 0)) := by
  have hml := hm.low
  have ha := g.a
  have hnn := w.n
  have z0 : 0 ≤ m := by omega
  have z1 : 0 ≤ a := by omega
  have z2 : 0 ≤ a + 6 := by omega
  have z3 : 0 ≤ m + 2 := by omega
  have b3 : 0 ≤ n ∧ n < ((60 : Nat) : Int) := by omega
  have n8 : ¬ m = m + 2 := by omega
  have e60 : h (a + 6) n = σ 6 n := g.g 6 (by omega)
  obtain ⟨k, ek⟩ : ∃ k, h m 10 = k := ⟨_, rfl⟩
  rw [ek] at hk
  have i0 : w32 (k * 7) = 7 * k := by rw [w32_i (by omega)]; omega
  have i1 : w32 (7 * k + 1) = 7 * k + 1 := w32_i (by omega)
  have i2 : w32 (7 * k + 2) = 7 * k + 2 := w32_i (by omega)
  have i3 : w32 (7 * k + 3) = 7 * k + 3 := w32_i (by omega)
  have i4 : w32 (7 * k + 4) = 7 * k + 4 := w32_i (by omega)
  have i5 : w32 (7 * k + 5) = 7 * k + 5 := w32_i (by omega)
  have i6 : w32 (7 * k + 6) = 7 * k + 6 := w32_i (by omega)
  have i7 : w32 (k + 1) = k + 1 := w32_i (by omega)
  have j0 : 0 ≤ 7 * k ∧ 7 * k < ((476 : Nat) : Int) := by omega
  have j1 : 0 ≤ 7 * k + 1 ∧ 7 * k + 1 < ((476 : Nat) : Int) := by omega
  have j2 : 0 ≤ 7 * k + 2 ∧ 7 * k + 2 < ((476 : Nat) : Int) := by omega
  have j3 : 0 ≤ 7 * k + 3 ∧ 7 * k + 3 < ((476 : Nat) : Int) := by omega
  have j4 : 0 ≤ 7 * k + 4 ∧ 7 * k + 4 < ((476 : Nat) : Int) := by omega
  have j5 : 0 ≤ 7 * k + 5 ∧ 7 * k + 5 < ((476 : Nat) : Int) := by omega
  have j6 : 0 ≤ 7 * k + 6 ∧ 7 * k + 6 < ((476 : Nat) : Int) := by omega
  rw [em_Mover_claim]
  simp only [ea, e60, ek, i0]
  refine zWp_po z0 (zWp_po z1 (zWp_po z2 (zWp_it b3 (zWp_po z0 (zWp_if (fun c1 => ?_) (fun c1 => zWp_if (fun c2 => ?_) (fun c2 => zWp_po z0 (zWp_if (fun c3 => ?_) (fun c3 => zWp_po z0 (zWp_it hk.2 (zWp_po z0 (zWp_po z0 (zWp_po z0 (zWp_po z3 (zWp_it j0 ?_)))))))))))))))
  · exact zWp_s ⟨fun _ _ => rfl, fun _ _ => rfl, fun _ => ⟨ek, rfl⟩, fun q => absurd c1 q.1⟩
  · exact zWp_s ⟨fun _ _ => rfl, fun _ _ => rfl, fun _ => ⟨ek, rfl⟩, fun q => absurd c2 q.2.1⟩
  · exact zWp_s ⟨fun _ _ => rfl, fun _ _ => rfl, fun _ => ⟨ek, rfl⟩, fun q => absurd c3 q.2.2⟩
  refine zWp_lt fun h1 e1 => ?_
  have f1 : ∀ k, h1 m k = h m k := fun k => by rw [e1, zset_o n8]
  simp only [f1, ek, i1]
  refine zWp_po z0 (zWp_po z3 (zWp_it j1 (zWp_lt fun h2 e2 => ?_)))
  have f2 : ∀ k, h2 m k = h m k := fun k => by rw [e2, zset_o n8, f1]
  simp only [f2, ek, i2]
  refine zWp_po z0 (zWp_po z0 (zWp_po z3 (zWp_it j2 (zWp_lt fun h3 e3 => ?_))))
  have f3 : ∀ k, h3 m k = h m k := fun k => by rw [e3, zset_o n8, f2]
  simp only [f3, ek, i3]
  refine zWp_po z0 (zWp_po z0 (zWp_po z3 (zWp_it j3 (zWp_lt fun h4 e4 => ?_))))
  have f4 : ∀ k, h4 m k = h m k := fun k => by rw [e4, zset_o n8, f3]
  simp only [f4, ek, i4]
  refine zWp_po z0 (zWp_po z3 (zWp_it j4 (zWp_lt fun h5 e5 => ?_)))
  have f5 : ∀ k, h5 m k = h m k := fun k => by rw [e5, zset_o n8, f4]
  simp only [f5, ek, i5]
  refine zWp_po z0 (zWp_po z3 (zWp_it j5 (zWp_lt fun h6 e6 => ?_)))
  have f6 : ∀ k, h6 m k = h m k := fun k => by rw [e6, zset_o n8, f5]
  simp only [f6, ek, i6]
  refine zWp_po z0 (zWp_po z0 (zWp_po z3 (zWp_it j6 (zWp_lt fun h7 e7 => ?_))))
  have f7 : ∀ k, h7 m k = h m k := fun k => by rw [e7, zset_o n8, f6]
  simp only [f7, ek, i7]
  refine zWp_po z0 (zWp_po z0 (zWp_lt fun h8 e8 => zWp_s ⟨fun r hr => ?_, fun k hk => ?_, fun q => ?_, fun _ => ⟨?_, fun i hi => ?_, fun q hq => ?_⟩⟩))
  · rw [e8, e7, e6, e5, e4, e3, e2, e1, zset_n (by omega), zset_n (by omega), zset_n (by omega), zset_n (by omega), zset_n (by omega), zset_n (by omega), zset_n (by omega), zset_n (by omega)]
  · rw [e8, zset_j hk, f7]
  · rcases q with q | q | q
    · exact absurd q c1
    · exact absurd q c2
    · exact absurd q c3
  · rw [e8, zset_e]
  · rw [e8, e7, e6, e5, e4, e3, e2, e1, zset_o (by omega), zset_j (by omega), zset_j (by omega), zset_j (by omega), zset_j (by omega), zset_j (by omega), zset_j (by omega), zset_j (by omega)]
  · rw [e8, e7, e6, e5, e4, e3, e2, e1, zset_o (by omega)]
    rcases q with _ | _ | _ | _ | _ | _ | _ | q
    · rw [zset_j (by omega), zset_j (by omega), zset_j (by omega), zset_j (by omega), zset_j (by omega), zset_j (by omega), zset_1 rfl (by omega)]; rfl
    · rw [zset_j (by omega), zset_j (by omega), zset_j (by omega), zset_j (by omega), zset_j (by omega), zset_1 rfl (by omega)]; rfl
    · rw [zset_j (by omega), zset_j (by omega), zset_j (by omega), zset_j (by omega), zset_1 rfl (by omega)]; rfl
    · rw [zset_j (by omega), zset_j (by omega), zset_j (by omega), zset_1 rfl (by omega)]; rfl
    · rw [zset_j (by omega), zset_j (by omega), zset_1 rfl (by omega)]; rfl
    · rw [zset_j (by omega), zset_1 rfl (by omega)]; rfl
    · rw [zset_1 rfl (by omega)]; rfl
    · omega
