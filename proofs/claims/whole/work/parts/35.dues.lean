/-! dues -/
abbrev zLw : Type := Int → Int → Int → Int → Int → Int
/-- balances, and the dues that are told -/
abbrev zDu : Type := (Int → Int) × List (Int × Int × Int × Int)
abbrev dueN (Λ : zLw) (σ : zH) (e : zEv) : Int := Λ (σ 13 e.1) (eSp e) (eV e) (if eK e = 2 then 1 else 0) (eM e)
def due1 (Λ : zLw) (σ : zH) (Δ : zDu) (e : zEv) : zDu :=
  if dueN Λ σ e = 0 then Δ else (fun o => Δ.1 o - (if o = e.2.1 then dueN Λ σ e else 0) + (if o = σ 6 (eN e) then dueN Λ σ e else 0), if Δ.2.length = 99 then Δ.2 else Δ.2 ++ [(e.2.1, σ 6 (eN e), dueN Λ σ e, e.1)])
def dueF (Λ : zLw) (σ : zH) : zDu → List zEv → zDu
  | Δ, [] => Δ
  | Δ, e :: l => dueF Λ σ (due1 Λ σ Δ e) l
theorem dueF_app (Λ : zLw) (σ : zH) : ∀ (a b : List zEv) (Δ : zDu), dueF Λ σ Δ (a ++ b) = dueF Λ σ (dueF Λ σ Δ a) b
  | [], b, Δ => rfl
  | e :: a, b, Δ => dueF_app Λ σ a b _
/-- the places of a bank's laws -/
def inB (B r i : Int) : Prop := (r = 429 → i = B) ∧ (430 ≤ r → r ≤ 432 → 8 * B ≤ i ∧ i < 8 * B + 8) ∧ (433 ≤ r → 1600 * B ≤ i ∧ i < 1600 * B + 1600)
/-- the reference's law -/
def LawR (Λ : zLw) (d : Nat) (h : zH) : Prop := ∀ h2 : zH, h2 403 12 = h 403 12 → (∀ r i, 429 ≤ r → r ≤ 434 → inB (h 403 12) r i → h2 r i = h r i) → ∀ x1 x2 x3 x4 x5 : Int, 0 ≤ x1 ∧ x1 ≤ 9999 → 0 ≤ x2 ∧ x2 ≤ 9999 → 0 ≤ x3 ∧ x3 ≤ 9999 → 0 ≤ x4 ∧ x4 ≤ 1 → 0 ≤ x5 ∧ x5 ≤ 9999 → (0 ≤ Λ x1 x2 x3 x4 x5 ∧ Λ x1 x2 x3 x4 x5 ≤ 9999) ∧ zWp (m_R_lawOf d x1 x2 x3 x4 x5 h2) (fun v h' => v = .inl (Λ x1 x2 x3 x4 x5) ∧ ∀ r, ¬ (r = 442 ∨ r = 443) → h' r = h2 r)
theorem LawR.fl {Λ : zLw} {d : Nat} {h h' : zH} (l : LawR Λ d h) (h0 : h' 403 12 = h 403 12) (hr : ∀ r i, 429 ≤ r → r ≤ 434 → inB (h 403 12) r i → h' r i = h r i) : LawR Λ d h' := fun h2 a b => l h2 (a.trans h0) (fun r i r1 r2 x => (b r i r1 r2 (by rw [h0]; exact x)).trans (hr r i r1 r2 x))
theorem LawR.fr {Λ : zLw} {d : Nat} {h h' : zH} (l : LawR Λ d h) (h0 : h' 403 12 = h 403 12) (hr : ∀ r, 429 ≤ r → r ≤ 434 → h' r = h r) : LawR Λ d h' := l.fl h0 (fun r i r1 r2 _ => by rw [hr r r1 r2])
def RD (Δ : zDu) (h : zH) : Prop := (∀ o, 0 ≤ o → o < 6 → h 451 o = w64 (Δ.1 o)) ∧ (h 452 0 = Δ.2.length ∧ (Δ.2.length : Int) ≤ 99) ∧ ∀ (j : Nat) (x : Int × Int × Int × Int), Δ.2[j]? = some x → h 453 (4 * j) = x.1 ∧ h 453 (4 * j + 1) = x.2.1 ∧ h 453 (4 * j + 2) = x.2.2.1 ∧ h 453 (4 * j + 3) = x.2.2.2
theorem RD.fr {Δ : zDu} {h h' : zH} (l : RD Δ h) (h1 : h' 451 = h 451) (h2 : h' 452 = h 452) (h3 : h' 453 = h 453) : RD Δ h' := by unfold RD; rw [h1, h2, h3]; exact l
def frD (h h' : zH) : Prop := (∀ i, ¬ (0 ≤ i ∧ i < 6) → h' 451 i = h 451 i) ∧ (∀ i, ¬ i = 0 → h' 452 i = h 452 i) ∧ (∀ i, ¬ (0 ≤ i ∧ i < 396) → h' 453 i = h 453 i)
theorem frD.rf (h : zH) : frD h h := ⟨fun _ _ => rfl, fun _ _ => rfl, fun _ _ => rfl⟩
theorem frD.t {a b c : zH} (h1 : frD a b) (h2 : frD b c) : frD a c := ⟨fun i x => (h2.1 i x).trans (h1.1 i x), fun i x => (h2.2.1 i x).trans (h1.2.1 i x), fun i x => (h2.2.2 i x).trans (h1.2.2 i x)⟩
theorem frD.e {h h' : zH} (h1 : h' 451 = h 451) (h2 : h' 452 = h 452) (h3 : h' 453 = h 453) : frD h h' := ⟨fun i _ => by rw [h1], fun i _ => by rw [h2], fun i _ => by rw [h3]⟩
theorem w64_a {x y : Int} : w64 (w64 x + y) = w64 (x + y) := by unfold w64; omega
theorem w64_s {x y : Int} : w64 (w64 x - y) = w64 (x - y) := by unfold w64; omega
theorem q_R_owes {d : Nat} {σ : zH} {Λ : zLw} {s c n sp val wl k kd : Int} {h : zH} {Δ : zDu} (w : WS σ) (g : RS σ h) (hs : 0 ≤ s ∧ s < nS σ) (hc : 0 ≤ c ∧ c < nC σ) (hn : 0 ≤ n ∧ n < nC σ) (hsp : 0 ≤ sp ∧ sp ≤ 9999) (hval : 0 ≤ val ∧ val ≤ 9999) (hk : 0 ≤ k ∧ k ≤ 9999) (hkd : kd = 2 ∨ kd = 3) (hwl : wl = if kd = 2 then 1 else 0) (rd : RD Δ h) (la : LawR Λ (d + 1) h) :
    zWp (m_R_owes (d + 2) s c n sp val wl k h) (fun _ h' => RD (dueF Λ σ Δ (ecl σ [(s, σ 6 c, (kd, n, sp, val, k))])) h' ∧ LawR Λ (d + 1) h' ∧ frD h h' ∧ ∀ r, ¬ (r = 442 ∨ r = 443 ∨ r = 451 ∨ r = 452 ∨ r = 453) → h' r = h r) := by
  have hb := g.b
  have hS10 : nS σ ≤ 10 := w.2.1.2.2.2.1
  have hO6 : nO σ ≤ 6 := w.2.1.2.1
  have hcp := w.2.2.2.1 c hc.1 hc.2
  have hnp := w.2.2.2.1 n hn.1 hn.2
  have c6 : -1 ≤ σ 6 c ∧ σ 6 c < nO σ := ⟨hcp.2.2.2.2.1, hcp.2.2.2.2.2.1⟩
  have n6 : -1 ≤ σ 6 n ∧ σ 6 n < nO σ := ⟨hnp.2.2.2.2.1, hnp.2.2.2.2.2.1⟩
  clear hcp hnp
  have hW : 1 ≤ σ 13 s ∧ σ 13 s ≤ 999 := ⟨(w.2.2.2.2.1 s hs.1 hs.2).1, (w.2.2.2.2.1 s hs.1 hs.2).2.1⟩
  rw [em_R_owes]
  refine zWp_qi (q_R_ownerOf w g hc) (zWp_qi (q_R_ownerOf w g hn) ?_)
  by_cases c1 : σ 6 c = -1
  · rw [ecl_n (fun z => z.2.1 c1)]
    exact zWp_it c1 (zWp_s ⟨rd, la, frD.rf h, fun _ _ => rfl⟩)
  by_cases c2 : σ 6 n = -1
  · rw [ecl_n (fun z => z.2.2.1 c2)]
    exact zWp_nt c1 (zWp_it c2 (zWp_s ⟨rd, la, frD.rf h, fun _ _ => rfl⟩))
  by_cases c3 : σ 6 c = σ 6 n
  · rw [ecl_n (fun z => z.2.2.2 c3)]
    exact zWp_nt c1 (zWp_nt c2 (zWp_it c3 (zWp_s ⟨rd, la, frD.rf h, fun _ _ => rfl⟩)))
  rw [ecl_y (show eClaims σ (s, σ 6 c, (kd, n, sp, val, k)) from ⟨hkd, c1, c2, c3⟩)]
  have ix : w32 (w32 (10 * h 403 12) + s) = 10 * h 403 12 + s := ixw (by omega) (by omega)
  rw [ix, (g.2.2.2.2.1 s hs.1 hs.2).1]
  refine zWp_nt c1 (zWp_nt c2 (zWp_nt c3 (zWp_it (by omega) ?_)))
  have hwl2 : 0 ≤ wl ∧ wl ≤ 1 := by rw [hwl]; split <;> omega
  obtain ⟨hL, v, h1, e1, rfl, r1⟩ := la h rfl (fun _ _ _ _ _ => rfl) (σ 13 s) sp val wl k (by omega) hsp hval hwl2 hk
  refine zWp_qi e1 ?_
  have eN : dueN Λ σ (s, σ 6 c, (kd, n, sp, val, k)) = Λ (σ 13 s) sp val wl k := by rw [hwl]
  have la1 : LawR Λ (d + 1) h1 := la.fr (by rw [r1 403 (by decide)]) (fun r a b => r1 r (by omega))
  have rd1 : RD Δ h1 := rd.fr (r1 451 (by decide)) (r1 452 (by decide)) (r1 453 (by decide))
  show zWp _ (fun _ h' => RD (due1 Λ σ Δ (s, σ 6 c, (kd, n, sp, val, k))) h' ∧ _)
  by_cases c4 : Λ (σ 13 s) sp val wl k = 0
  · have eD : due1 Λ σ Δ (s, σ 6 c, (kd, n, sp, val, k)) = Δ := by unfold due1; rw [eN, if_pos c4]
    rw [eD]
    exact zWp_it c4 (zWp_s ⟨rd1, la1, frD.e (r1 451 (by decide)) (r1 452 (by decide)) (r1 453 (by decide)), fun r hr => r1 r (by omega)⟩)
  obtain ⟨N, eNN⟩ : ∃ N, Λ (σ 13 s) sp val wl k = N := ⟨_, rfl⟩
  rw [eNN] at hL eN c4 ⊢
  have eD : due1 Λ σ Δ (s, σ 6 c, (kd, n, sp, val, k)) = (fun o => Δ.1 o - (if o = σ 6 c then N else 0) + (if o = σ 6 n then N else 0), if Δ.2.length = 99 then Δ.2 else Δ.2 ++ [(σ 6 c, σ 6 n, N, s)]) := by unfold due1; rw [eN, if_neg c4]
  rw [eD]
  refine zWp_nt c4 (zWp_it (by omega) (zWp_it (by omega) (zWp_lt fun h2 e2 => zWp_it (by omega) (zWp_it (by omega) (zWp_lt fun h3 e3 => zWp_it (by decide) ?_)))))
  have e2' : h2 = zset h1 451 (σ 6 c) (w64 (Δ.1 (σ 6 c) - N)) := by rw [e2, rd1.1 (σ 6 c) (by omega) (by omega), w64_s]
  have e3' : h3 = zset h2 451 (σ 6 n) (w64 (Δ.1 (σ 6 n) + N)) := by rw [e3, e2', zset_j (by omega), rd1.1 (σ 6 n) (by omega) (by omega), w64_a]
  have r3 : ∀ r, ¬ r = 451 → h3 r = h1 r := fun r hr => by rw [e3', zset_n hr, e2', zset_n hr]
  have b3 : ∀ o, 0 ≤ o → o < 6 → h3 451 o = w64 (Δ.1 o - (if o = σ 6 c then N else 0) + (if o = σ 6 n then N else 0)) := fun o o1 o2 => by
    rw [e3', zset_g, e2', zset_g, rd1.1 o o1 o2]
    by_cases y1 : o = σ 6 n
    · rw [if_pos y1, if_pos y1, if_neg (by omega), y1, Int.sub_zero]
    · rw [if_neg y1, if_neg y1, Int.add_zero]
      by_cases y2 : o = σ 6 c
      · rw [if_pos y2, if_pos y2, y2]
      · rw [if_neg y2, if_neg y2, Int.sub_zero]
  have o3 : ∀ i, ¬ (0 ≤ i ∧ i < 6) → h3 451 i = h 451 i := fun i hi => by rw [e3', zset_j (by omega), e2', zset_j (by omega), r1 451 (by decide)]
  have la3 : LawR Λ (d + 1) h3 := la1.fr (by rw [r3 403 (by decide)]) (fun r a b => r3 r (by omega))
  obtain ⟨d1, d2, d3⟩ := rd1
  have e452 : h3 452 0 = Δ.2.length := by rw [r3 452 (by decide), d2.1]
  rw [e452]
  by_cases c5 : Δ.2.length = 99
  · rw [if_pos c5]
    refine zWp_it (by omega) (zWp_s ⟨⟨b3, ⟨e452, d2.2⟩, fun j x hx => ?_⟩, la3, ⟨o3, fun i _ => by rw [r3 452 (by decide), r1 452 (by decide)], fun i _ => by rw [r3 453 (by decide), r1 453 (by decide)]⟩, fun r hr => by rw [r3 r (by omega), r1 r (by omega)]⟩)
    rw [r3 453 (by decide)]; exact d3 j x hx
  · rw [if_neg c5]
    obtain ⟨M, eM⟩ : ∃ M : Int, (Δ.2.length : Int) = M := ⟨_, rfl⟩
    rw [eM] at d2 e452 ⊢
    have hM : 0 ≤ M ∧ M < 99 := by omega
    rw [w32_i (x := 4 * M) (by omega), w32_i (x := 4 * M + 1) (by omega), w32_i (x := 4 * M + 2) (by omega), w32_i (x := 4 * M + 3) (by omega)]
    refine zWp_nt (by omega) (zWp_it (by decide) (zWp_it (by omega) (zWp_lt fun h4 e4 => zWp_it (by omega) (zWp_lt fun h5 e5 => zWp_it (by omega) (zWp_lt fun h6 e6 => zWp_it (by omega) (zWp_lt fun h7 e7 => zWp_it (by decide) (zWp_it (by decide) (zWp_lt fun h8 e8 => zWp_s ?_))))))))
    have r7 : ∀ r, ¬ r = 453 → h7 r = h3 r := fun r hr => by rw [e7, zset_n hr, e6, zset_n hr, e5, zset_n hr, e4, zset_n hr]
    have e8' : h8 = zset h7 452 0 (M + 1) := by rw [e8, r7 452 (by decide), e452, w32_i (by omega)]
    have r8 : ∀ r, ¬ (r = 452 ∨ r = 453) → h8 r = h3 r := fun r hr => by rw [e8', zset_n (by omega), r7 r (by omega)]
    have q8 : ∀ i, h8 453 i = if i = 4 * M + 3 then s else if i = 4 * M + 2 then N else if i = 4 * M + 1 then σ 6 n else if i = 4 * M then σ 6 c else h 453 i := fun i => by
      rw [e8', zset_o (by decide), e7, zset_g, e6, zset_g, e5, zset_g, e4, zset_g, r3 453 (by decide), r1 453 (by decide)]
    refine ⟨⟨fun o o1 o2 => by rw [r8 451 (by decide)]; exact b3 o o1 o2, ⟨by rw [e8', zset_e, List.length_append]; simp; omega, by rw [List.length_append]; simp; omega⟩, fun j x hx => ?_⟩, la3.fr (by rw [r8 403 (by decide)]) (fun r a b => r8 r (by omega)), ⟨fun i hi => by rw [r8 451 (by decide)]; exact o3 i hi, fun i hi => by rw [e8', zset_j hi, r7 452 (by decide), r3 452 (by decide), r1 452 (by decide)], fun i hi => by rw [q8 i, if_neg (by omega), if_neg (by omega), if_neg (by omega), if_neg (by omega)]⟩, fun r hr => by rw [r8 r (by omega), r3 r (by omega), r1 r (by omega)]⟩
    rw [List.getElem?_append] at hx
    by_cases hj : j < Δ.2.length
    · rw [if_pos hj] at hx
      have := d3 j x hx
      rw [r1 453 (by decide)] at this
      rw [q8, q8, q8, q8, if_neg (by omega), if_neg (by omega), if_neg (by omega), if_neg (by omega), if_neg (by omega), if_neg (by omega), if_neg (by omega), if_neg (by omega), if_neg (by omega), if_neg (by omega), if_neg (by omega), if_neg (by omega), if_neg (by omega), if_neg (by omega), if_neg (by omega), if_neg (by omega)]
      exact this
    · rw [if_neg hj] at hx
      have hz : j - Δ.2.length = 0 := by
        rcases Nat.eq_zero_or_pos (j - Δ.2.length) with z | z
        · exact z
        · rw [List.getElem?_eq_none (by exact z)] at hx; cases hx
      rw [hz] at hx
      cases hx
      have hjM : (j : Int) = M := by omega
      rw [hjM, q8, q8, q8, q8]
      refine ⟨?_, ?_, ?_, ?_⟩
      · rw [if_neg (by omega), if_neg (by omega), if_neg (by omega), if_pos rfl]
      · rw [if_neg (by omega), if_neg (by omega), if_pos rfl]
      · rw [if_neg (by omega), if_pos rfl]
      · rw [if_pos rfl]
