/-! what the reference holds of a slope so far, in the bank that it reads into -/
def gF (σ h : zH) : Prop := (h 403 44 = 0 ∨ h 403 44 = 1) ∧ h 405 (h 403 44) = σ 0 0 ∧ h 406 (h 403 44) = σ 0 1
def gC (r k : Int) (σ h : zH) : Prop := ∀ c, 0 ≤ c → c < 60 → h r (60 * h 403 44 + c) = σ k c
def gK (σ h : zH) : Prop := h 407 (h 403 44) = σ 8 1 ∧ h 412 (h 403 44) = σ 8 12 ∧ h 413 (h 403 44) = nO σ ∧ h 415 (h 403 44) = nS σ ∧ h 420 (h 403 44) = nHo σ ∧ h 424 (h 403 44) = nT σ ∧ h 427 (h 403 44) = nRo σ ∧ h 429 (h 403 44) = nLa σ
def gO (m : Int) (σ h : zH) : Prop := ∀ i, 0 ≤ i → i < m → NmR (σ 9 i) (h 414 (6 * h 403 44 + i))
def gS (m : Int) (σ h : zH) : Prop := ∀ i, 0 ≤ i → i < m → NmR (σ 10 i) (h 416 (10 * h 403 44 + i)) ∧ h 417 (10 * h 403 44 + i) = σ 13 i ∧ h 418 (10 * h 403 44 + i) = σ 14 i ∧ h 419 (10 * h 403 44 + i) = σ 15 i
def gH (m : Int) (σ h : zH) : Prop := ∀ i, 0 ≤ i → i < m → NmR (σ 11 i) (h 421 (8 * h 403 44 + i)) ∧ h 422 (8 * h 403 44 + i) = σ 16 i ∧ h 423 (8 * h 403 44 + i) = σ 17 i
def gT (m : Int) (σ h : zH) : Prop := ∀ i, 0 ≤ i → i < m → h 425 (6 * h 403 44 + i) = σ 18 i ∧ h 426 (6 * h 403 44 + i) = σ 19 i
def gR (m : Int) (σ h : zH) : Prop := ∀ i, 0 ≤ i → i < m → h 428 (9 * h 403 44 + i) = σ 20 i
def PR (σ h : zH) : Prop := gF σ h ∧ (gC 408 1 σ h ∧ gC 409 4 σ h ∧ gC 411 5 σ h ∧ gC 410 6 σ h) ∧ gK σ h ∧ gO (nO σ) σ h ∧ gS (nS σ) σ h ∧ gH (nHo σ) σ h ∧ gT (nT σ) σ h ∧ gR (nRo σ) σ h
theorem PR.b {σ h : zH} (p : PR σ h) : 0 ≤ h 403 44 ∧ h 403 44 < ((2 : Nat) : Int) := by rcases p.1.1 with e | e <;> omega
theorem gF.fr {σ σ' h h' : zH} (g : gF σ h) (e : h' 403 44 = h 403 44) (hs : σ' 0 = σ 0) (h1 : h' 405 = h 405) (h2 : h' 406 = h 406) : gF σ' h' := by
  unfold gF at g ⊢; rw [e, hs, h1, h2]; exact g
theorem gC.fr {r k : Int} {σ σ' h h' : zH} (g : gC r k σ h) (e : h' 403 44 = h 403 44) (hs : σ' k = σ k) (h1 : h' r = h r) : gC r k σ' h' := by
  unfold gC at g ⊢; rw [e, hs, h1]; exact g
theorem gK.fr {σ σ' h h' : zH} (g : gK σ h) (e : h' 403 44 = h 403 44) (hs : σ' 8 = σ 8) (hr : ∀ r, r = 407 ∨ r = 412 ∨ r = 413 ∨ r = 415 ∨ r = 420 ∨ r = 424 ∨ r = 427 ∨ r = 429 → h' r = h r) : gK σ' h' := by
  unfold gK nO nS nHo nT nRo nLa at g ⊢
  rw [e, hs, hr 407 (by decide), hr 412 (by decide), hr 413 (by decide), hr 415 (by decide), hr 420 (by decide), hr 424 (by decide), hr 427 (by decide), hr 429 (by decide)]; exact g
theorem gO.fr {m : Int} {σ σ' h h' : zH} (g : gO m σ h) (e : h' 403 44 = h 403 44) (hs : σ' 9 = σ 9) (h1 : h' 414 = h 414) : gO m σ' h' := by
  unfold gO at g ⊢; rw [e, hs, h1]; exact g
theorem gS.fr {m : Int} {σ σ' h h' : zH} (g : gS m σ h) (e : h' 403 44 = h 403 44) (hs : ∀ k, k = 10 ∨ k = 13 ∨ k = 14 ∨ k = 15 → σ' k = σ k) (hr : ∀ r, 416 ≤ r → r ≤ 419 → h' r = h r) : gS m σ' h' := by
  unfold gS at g ⊢
  rw [e, hs 10 (by decide), hs 13 (by decide), hs 14 (by decide), hs 15 (by decide), hr 416 (by decide) (by decide), hr 417 (by decide) (by decide), hr 418 (by decide) (by decide), hr 419 (by decide) (by decide)]; exact g
theorem gH.fr {m : Int} {σ σ' h h' : zH} (g : gH m σ h) (e : h' 403 44 = h 403 44) (hs : ∀ k, k = 11 ∨ k = 16 ∨ k = 17 → σ' k = σ k) (hr : ∀ r, 421 ≤ r → r ≤ 423 → h' r = h r) : gH m σ' h' := by
  unfold gH at g ⊢
  rw [e, hs 11 (by decide), hs 16 (by decide), hs 17 (by decide), hr 421 (by decide) (by decide), hr 422 (by decide) (by decide), hr 423 (by decide) (by decide)]; exact g
theorem gT.fr {m : Int} {σ σ' h h' : zH} (g : gT m σ h) (e : h' 403 44 = h 403 44) (hs : ∀ k, k = 18 ∨ k = 19 → σ' k = σ k) (h1 : h' 425 = h 425) (h2 : h' 426 = h 426) : gT m σ' h' := by
  unfold gT at g ⊢; rw [e, hs 18 (by decide), hs 19 (by decide), h1, h2]; exact g
theorem gR.fr {m : Int} {σ σ' h h' : zH} (g : gR m σ h) (e : h' 403 44 = h 403 44) (hs : σ' 20 = σ 20) (h1 : h' 428 = h 428) : gR m σ' h' := by
  unfold gR at g ⊢; rw [e, hs, h1]; exact g
/-- nothing but the token has changed -/
theorem PR.fr {σ h h' : zH} (p : PR σ h) (f : frE h h') : PR σ h' := by
  obtain ⟨p1, ⟨p2, p3, p4, p5⟩, p6, p7, p8, p9, p10, p11⟩ := p
  have e := f.2 44 (by decide)
  have r : ∀ r, 405 ≤ r → h' r = h r := fun r hr => f.1 r (by omega)
  exact ⟨p1.fr e rfl (r _ (by decide)) (r _ (by decide)), ⟨p2.fr e rfl (r _ (by decide)), p3.fr e rfl (r _ (by decide)), p4.fr e rfl (r _ (by decide)), p5.fr e rfl (r _ (by decide))⟩, p6.fr e rfl (fun q hq => r q (by omega)), p7.fr e rfl (r _ (by decide)), p8.fr e (fun _ _ => rfl) (fun q h1 h2 => r q (by omega)), p9.fr e (fun _ _ => rfl) (fun q h1 h2 => r q (by omega)), p10.fr e (fun _ _ => rfl) (r _ (by decide)) (r _ (by decide)), p11.fr e rfl (r _ (by decide))⟩
/-- how much of a row a bank has -/
def rsz (r : Int) : Int := if r = 408 ∨ r = 409 ∨ r = 410 ∨ r = 411 then 60 else if r = 414 ∨ r = 425 ∨ r = 426 then 6 else if 416 ≤ r ∧ r ≤ 419 then 10 else if 421 ≤ r ∧ r ≤ 423 ∨ 430 ≤ r ∧ r ≤ 432 then 8 else if r = 428 then 9 else if r = 433 ∨ r = 434 then 1600 else 1
/-- what a statement but a law's may change: the bank that is read into, no law, no code -/
def frBk (h h' : zH) : Prop := (∀ r, ¬ (r = 403 ∨ 405 ≤ r ∧ r ≤ 429) → h' r = h r) ∧ (∀ q, ¬ (3 ≤ q ∧ q ≤ 9) → h' 403 q = h 403 q) ∧ ∀ r i, 405 ≤ r → r ≤ 429 → ¬ (rsz r * h 403 44 ≤ i ∧ i < rsz r * h 403 44 + rsz r) → h' r i = h r i
theorem frBk.rf (h : zH) : frBk h h := ⟨fun _ _ => rfl, fun _ _ => rfl, fun _ _ _ _ _ => rfl⟩
theorem frBk.t {a b c : zH} (h1 : frBk a b) (h2 : frBk b c) : frBk a c := by
  refine ⟨fun r x => (h2.1 r x).trans (h1.1 r x), fun q x => (h2.2.1 q x).trans (h1.2.1 q x), fun r i r1 r2 x => (h2.2.2 r i r1 r2 ?_).trans (h1.2.2 r i r1 r2 x)⟩
  rw [h1.2.1 44 (by decide)]
  exact x
theorem frE.n {h h' : zH} (f : frE h h') : frBk h h' := ⟨fun r x => f.1 r (by omega), fun q x => f.2 q (by omega), fun r i r1 r2 _ => by rw [f.1 r (by omega)]⟩
theorem frBk.st {h : zH} {r i v : Int} (hr : 405 ≤ r ∧ r ≤ 429) (hi : rsz r * h 403 44 ≤ i ∧ i < rsz r * h 403 44 + rsz r) : frBk h (zset h r i v) := by
  refine ⟨fun q x => by rw [zset_n (by omega)], fun q x => by rw [zset_o (by omega)], fun q j q1 q2 x => ?_⟩
  refine zset_2 (fun z => ?_)
  rw [z.1, z.2] at x
  exact x hi
theorem frBk.b {h h' : zH} (f : frBk h h') : h' 403 44 = h 403 44 := f.2.1 44 (by decide)
/-- what any of them may change -/
def frBw (h h' : zH) : Prop := (∀ r, ¬ (r = 403 ∨ 405 ≤ r ∧ r ≤ 440) → h' r = h r) ∧ (∀ q, ¬ (3 ≤ q ∧ q ≤ 9 ∨ q = 43 ∨ 45 ≤ q ∧ q ≤ 66) → h' 403 q = h 403 q) ∧ ∀ r i, 405 ≤ r → r ≤ 434 → ¬ (rsz r * h 403 44 ≤ i ∧ i < rsz r * h 403 44 + rsz r) → h' r i = h r i
theorem frBw.rf (h : zH) : frBw h h := ⟨fun _ _ => rfl, fun _ _ => rfl, fun _ _ _ _ _ => rfl⟩
theorem frBw.t {a b c : zH} (h1 : frBw a b) (h2 : frBw b c) : frBw a c := by
  refine ⟨fun r x => (h2.1 r x).trans (h1.1 r x), fun q x => (h2.2.1 q x).trans (h1.2.1 q x), fun r i r1 r2 x => (h2.2.2 r i r1 r2 ?_).trans (h1.2.2 r i r1 r2 x)⟩
  rw [h1.2.1 44 (by decide)]
  exact x
theorem frBw.st {h : zH} {r i v : Int} (hr : 405 ≤ r ∧ r ≤ 434) (hi : rsz r * h 403 44 ≤ i ∧ i < rsz r * h 403 44 + rsz r) : frBw h (zset h r i v) := by
  refine ⟨fun q x => by rw [zset_n (by omega)], fun q x => by rw [zset_o (by omega)], fun q j q1 q2 x => ?_⟩
  refine zset_2 (fun z => ?_)
  rw [z.1, z.2] at x
  exact x hi
theorem frBw.b {h h' : zH} (f : frBw h h') : h' 403 44 = h 403 44 := f.2.1 44 (by decide)
theorem frBk.w {h h' : zH} (f : frBk h h') : frBw h h' := by
  refine ⟨fun r x => f.1 r (by omega), fun q x => f.2.1 q (by omega), fun r i r1 r2 x => ?_⟩
  by_cases z : r ≤ 429
  · exact f.2.2 r i r1 z x
  · rw [f.1 r (by omega)]
theorem NmR.eq {p q p' q' : Int} (h : NmR p q) (h' : NmR p' q') : p = p' ↔ q = q' := by
  obtain ⟨L, l, e1, e2⟩ := h
  obtain ⟨M, m, e3, e4⟩ := h'
  constructor
  · intro z
    rw [e1, e3] at z
    rw [e2, e4, pk5_inj L M 0 l.2.2 m.2.2 (by have := l.2.1; omega) (by have := m.2.1; omega) (Int.ofNat.inj z)]
  · intro z
    rw [e2, e4] at z
    rw [e1, e3, pk8_inj l.2.2 m.2.2 (Int.ofNat.inj z)]
theorem q_R_many {d : Nat} {σ h : zH} (p : PR σ h) {x : Int} (hx : 0 ≤ x ∧ x < 3) : m_R_manyOf (d + 1) (h 403 44) x h = some (.inl (cntA σ x), h) := by
  have b := p.b
  obtain ⟨_, _, g, _⟩ := p
  rw [em_R_manyOf, g.2.2.1, g.2.2.2.1, g.2.2.2.2.1]
  unfold cntA
  by_cases c0 : x = 0
  · rw [zit_t c0, zit_t b, if_pos c0]
  rw [zit_f c0, if_neg c0]
  by_cases c1 : x = 1
  · rw [zit_t c1, zit_t b, if_pos c1]
  · rw [zit_f c1, zit_t b, if_neg c1]
theorem q_R_nm {d : Nat} {σ h : zH} (w : WB σ) (p : PR σ h) {x i : Int} (hx : 0 ≤ x ∧ x < 3) (hi : 0 ≤ i ∧ i < cntA σ x) : ∃ q, m_R_nameOf (d + 1) (h 403 44) x i h = some (.inr (.inl q), h) ∧ NmR (σ (9 + x) i) q := by
  have b := p.b
  have w2 := w.2
  obtain ⟨_, _, _, gO, gS, gH, _⟩ := p
  rw [em_R_nameOf]
  unfold cntA at hi
  by_cases c0 : x = 0
  · rw [if_pos c0] at hi
    rw [zit_t c0, ixw (by omega) (by omega), zit_t (by omega), c0]
    exact ⟨_, rfl, gO i hi.1 hi.2⟩
  rw [if_neg c0] at hi
  rw [zit_f c0]
  by_cases c1 : x = 1
  · rw [if_pos c1] at hi
    rw [zit_t c1, ixw (by omega) (by omega), zit_t (by omega), c1]
    exact ⟨_, rfl, (gS i hi.1 hi.2).1⟩
  · rw [if_neg c1] at hi
    have c2 : x = 2 := by omega
    rw [zit_f c1, ixw (by omega) (by omega), zit_t (by omega), c2]
    exact ⟨_, rfl, (gH i hi.1 hi.2).1⟩
theorem q_R_named3 {d : Nat} {σ h : zH} (w : WB σ) (p : PR σ h) {x a q : Int} (hx : 0 ≤ x ∧ x < 3) (nm : NmR a q) : ∀ (n : Nat) {i : Int}, 0 ≤ i → i + n = cntA σ x → l_R_named_3 (d + 1) x q i h = some (.inl (zfs (fun k => decide (σ (9 + x) k = a)) n i), h)
  | 0, i, h0, hn => by
    rw [el_R_named_3, q_R_many p hx, zqi_s, zit_f (by omega)]
    rfl
  | n + 1, i, h0, hn => by
    have hb := cntA_b w hx
    obtain ⟨y, ey, ny⟩ := q_R_nm (d := d) w p hx (i := i) (by omega)
    have eq := ny.eq nm
    rw [el_R_named_3, q_R_many p hx, zqi_s, zit_t (by omega), ey]
    show (if zlc y q = 0 then _ else _) = _
    rw [w32_i (x := i + 1) (by omega)]
    by_cases z : σ (9 + x) i = a
    · rw [zit_t (by rw [zlc_0]; exact eq.1 z), zfs_t (f := fun k => decide (σ (9 + x) k = a)) (decide_eq_true z)]
    · rw [zit_f (by rw [zlc_0]; exact fun t => z (eq.2 t)), zfs_f (f := fun k => decide (σ (9 + x) k = a)) (decide_eq_false z)]
      exact q_R_named3 w p hx nm n (by omega) (by omega)
theorem q_R_named {d : Nat} {σ h : zH} (w : WB σ) (p : PR σ h) {x a q : Int} (hx : 0 ≤ x ∧ x < 3) (nm : NmR a q) : m_R_named (d + 2) x q h = some (.inl (fndA σ x a), h) := by
  have hb := cntA_b w hx
  rw [em_R_named, q_R_named3 w p hx nm (cntA σ x).toNat (by decide) (by omega)]
  rfl
