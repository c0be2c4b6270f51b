/-! statements, in the reference: roughness, walls, thaws, ropes, owners -/
def StR (T : Int → Int) (n : Int) (x : zH × zRd) (h h' : zH) : Prop := RR T n x.2 h' ∧ frBk h h' ∧ (effK (toks T n) x.2 = 0 → PR x.1 h')
theorem k_ct {d : Nat} {T : Int → Int} {n x : Int} {s : zRd} {σ h : zH} {f : Int → zH → zR} {Q : zV → zH → Prop} (p : PR σ h) (r : RR T n s h) (hd : effK (toks T n) s = 0) (hk : (tkI (toks T n) s.1).1 ≠ 0) (k0 : ∀ h', effK (toks T n) (if x = 0 then advS s else flS 5 (tkI (toks T n) s.1).2.1 s) ≠ 0 → RR T n (if x = 0 then advS s else flS 5 (tkI (toks T n) s.1).2.1 s) h' → frE h h' → zWp (f 0 h') Q) (k1 : ∀ h', x = 0 → effK (toks T n) (advS s) = 0 → PR σ h' → RR T n (advS s) h' → frE h h' → zWp (f 1 h') Q) : zWp (zqi (m_R_counts (d + 3) x h) f) Q := by
  refine zWp_bi (P := fun a h' => a = (if effK (toks T n) (if x = 0 then advS s else flS 5 (tkI (toks T n) s.1).2.1 s) = 0 then 1 else 0) ∧ RR T n (if x = 0 then advS s else flS 5 (tkI (toks T n) s.1).2.1 s) h' ∧ frE h h') (q_R_counts (d := d) r hd hk) (fun a h1 u => ?_)
  rw [u.1]
  by_cases z : effK (toks T n) (if x = 0 then advS s else flS 5 (tkI (toks T n) s.1).2.1 s) = 0
  · rw [if_pos z]
    by_cases c : x = 0
    · rw [if_pos c] at z u
      exact k1 h1 c z (p.fr u.2.2) u.2.1 u.2.2
    · rw [if_neg c, (flS_e hd (by decide)).1] at z
      exact absurd z (by decide)
  · rw [if_neg z]
    exact k0 h1 z u.2.1 u.2.2
theorem k_fc {d : Nat} {T : Int → Int} {n : Int} {s : zRd} {σ h : zH} {f : Int → zH → zR} {Q : zV → zH → Prop} (w : WP σ) (p : PR σ h) (r : RR T n s h) (k : ∀ y h', ((frcS (toks T n) σ s).2.2.1 = 0 → y = (frcS (toks T n) σ s).1) → PR σ h' → RR T n (frcS (toks T n) σ s).2 h' → frE h h' → zWp (f y h') Q) : zWp (zqi (m_R_freeCell (d + 4) h) f) Q :=
  zWp_bi (P := fun y h' => ((frcS (toks T n) σ s).2.2.1 = 0 → y = (frcS (toks T n) σ s).1) ∧ RR T n (frcS (toks T n) σ s).2 h' ∧ frE h h') (q_R_freeC (d := d) w p r) (fun x h1 u => k x h1 u.1 (p.fr u.2.2) u.2.1 u.2.2)
/-- a row of the reference that a bank has, written -/
theorem RR.wr {T : Int → Int} {n : Int} {s : zRd} {h : zH} (r : RR T n s h) {q i v : Int} (hq : 405 ≤ q) : RR T n s (zset h q i v) := r.fr (fun q' _ _ => by rw [zset_o (by omega)]) (by rw [zset_n (by omega)])
theorem gC.wr {q k c v : Int} {σ h : zH} (g : gC q k σ h) (hq : q ≠ 403) : gC q k (zset σ k c v) (zset h q (60 * h 403 44 + c) v) := by
  intro c' h0 h1
  rw [zset_o (fun z => hq z.symm), zset_g, zset_g, g c' h0 h1]
  by_cases e : c' = c
  · rw [if_pos e, if_pos (by omega)]
  · rw [if_neg e, if_neg (by omega)]
theorem rz {r z : Int} (h : rsz r = z) {h' : zH} {i : Int} (hi : 0 ≤ i ∧ i < z) : rsz r * h' 403 44 ≤ z * h' 403 44 + i ∧ z * h' 403 44 + i < rsz r * h' 403 44 + rsz r := by rw [h]; omega
/-- counts that the reference does not keep -/
theorem PR.sk {σ h : zH} (p : PR σ h) {k v : Int} (hk : k = 0 ∨ k = 2 ∨ k = 5) : PR (zset σ 8 k v) h := by
  have e8 : ∀ j, j ≠ k → zset σ 8 k v 8 j = σ 8 j := fun j hj => zset_j hj
  have eo : ∀ q, q ≠ 8 → zset σ 8 k v q = σ q := fun q hq => by rw [zset_n hq]
  obtain ⟨p1, ⟨p2, p3, p4, p5⟩, p6, p7, p8, p9, p10, p11⟩ := p
  have nO' : nO (zset σ 8 k v) = nO σ := e8 4 (by omega)
  have nS' : nS (zset σ 8 k v) = nS σ := e8 7 (by omega)
  have nH' : nHo (zset σ 8 k v) = nHo σ := e8 10 (by omega)
  have nT' : nT (zset σ 8 k v) = nT σ := e8 13 (by omega)
  have nR' : nRo (zset σ 8 k v) = nRo σ := e8 15 (by omega)
  have nL' : nLa (zset σ 8 k v) = nLa σ := e8 16 (by omega)
  refine ⟨p1.fr rfl (eo _ (by decide)) rfl rfl, ⟨p2.fr rfl (eo _ (by decide)) rfl, p3.fr rfl (eo _ (by decide)) rfl, p4.fr rfl (eo _ (by decide)) rfl, p5.fr rfl (eo _ (by decide)) rfl⟩, ?_, ?_, ?_, ?_, ?_, ?_⟩
  · unfold gK
    rw [nO', nS', nH', nT', nR', nL', e8 1 (by omega), e8 12 (by omega)]
    exact p6
  · rw [nO']; exact p7.fr rfl (eo _ (by decide)) rfl
  · rw [nS']; exact p8.fr rfl (fun q hq => eo q (by omega)) (fun _ _ _ => rfl)
  · rw [nH']; exact p9.fr rfl (fun q hq => eo q (by omega)) (fun _ _ _ => rfl)
  · rw [nT']; exact p10.fr rfl (fun q hq => eo q (by omega)) rfl rfl
  · rw [nR']; exact p11.fr rfl (eo _ (by decide)) rfl
/-- a cell's row -/
theorem PR.wc {σ h : zH} (p : PR σ h) {q k c v : Int} (hq : q = 408 ∧ k = 1 ∨ q = 409 ∧ k = 4 ∨ q = 411 ∧ k = 5 ∨ q = 410 ∧ k = 6) : PR (zset σ k c v) (zset h q (60 * h 403 44 + c) v) := by
  have e0 : zset h q (60 * h 403 44 + c) v 403 44 = h 403 44 := zset_o (by omega)
  have eo : ∀ j, j ≠ k → zset σ k c v j = σ j := fun j hj => by rw [zset_n hj]
  have er : ∀ r, r ≠ q → zset h q (60 * h 403 44 + c) v r = h r := fun r hr => by rw [zset_n hr]
  have e8 : zset σ k c v 8 = σ 8 := eo 8 (by omega)
  obtain ⟨p1, ⟨p2, p3, p4, p5⟩, p6, p7, p8, p9, p10, p11⟩ := p
  have g : ∀ q' k', (q' = 408 ∧ k' = 1 ∨ q' = 409 ∧ k' = 4 ∨ q' = 411 ∧ k' = 5 ∨ q' = 410 ∧ k' = 6) → gC q' k' σ h → gC q' k' (zset σ k c v) (zset h q (60 * h 403 44 + c) v) := by
    intro q' k' hq' g'
    by_cases e : q' = q
    · have ek : k' = k := by omega
      rw [e, ek] at g' ⊢
      exact g'.wr (by omega)
    · exact g'.fr e0 (eo _ (by omega)) (er _ e)
  have cn : ∀ j, zset σ k c v 8 j = σ 8 j := fun j => by rw [e8]
  refine ⟨p1.fr e0 (eo _ (by omega)) (er _ (by omega)) (er _ (by omega)), ⟨g _ _ (by decide) p2, g _ _ (by decide) p3, g _ _ (by decide) p4, g _ _ (by decide) p5⟩, p6.fr e0 e8 (fun r hr => er r (by omega)), ?_, ?_, ?_, ?_, ?_⟩
  · rw [show nO (zset σ k c v) = nO σ from cn 4]; exact p7.fr e0 (eo _ (by omega)) (er _ (by omega))
  · rw [show nS (zset σ k c v) = nS σ from cn 7]; exact p8.fr e0 (fun j hj => eo j (by omega)) (fun r _ _ => er r (by omega))
  · rw [show nHo (zset σ k c v) = nHo σ from cn 10]; exact p9.fr e0 (fun j hj => eo j (by omega)) (fun r _ _ => er r (by omega))
  · rw [show nT (zset σ k c v) = nT σ from cn 13]; exact p10.fr e0 (fun j hj => eo j (by omega)) (er _ (by omega)) (er _ (by omega))
  · rw [show nRo (zset σ k c v) = nRo σ from cn 15]; exact p11.fr e0 (eo _ (by omega)) (er _ (by omega))
theorem d_rough {A : List zTk} {σ : zH} {s : zRd} (hd : effK A s ≠ 0) : sRough A σ s = (σ, dS A s) := by
  unfold sRough
  rw [d_nb hd, d_nd (by decide) (s := (((-1 : Int), dS A s) : Int × zRd).2) (dS_e hd), d_cl (dS_e (dS_e hd))]
  show ((if (-1 : Int) = -1 then σ else _), dS A (dS A (dS A s))) = _
  rw [dS_2, dS_2, if_pos rfl]
theorem q_R_rough {d : Nat} {T : Int → Int} {n v : Int} {s : zRd} {σ h : zH} (w : WP σ) (p : PR σ h) (r : RR T n s h) (hd : effK (toks T n) s = 0) (hk : (tkI (toks T n) s.1).1 ≠ 0) : zWp (m_R_roughing (d + 5) h) (fun _ h' => StR T n (zset (sRough (toks T n) σ (advS s)).1 8 2 v, (sRough (toks T n) σ (advS s)).2) h h') := by
  have w1 := w.1.1
  rw [em_R_roughing]
  refine k_ct (d := d + 1) (x := 0) p r hd hk (fun h1 z r1 f1 => ?_) (fun h1 _ z p1 r1 f1 => ?_)
  · rw [if_pos rfl] at z r1
    rw [d_rough z]
    exact zWp_it rfl (zWp_s ⟨r1.ds z, f1.n, fun y => absurd y (dS_e z)⟩)
  refine zWp_nt (by decide) (k_nb (d := d + 1) p1 r1 (fun y h2 ey p2 r2 f2 => k_ow (d := d + 1) p2 r2 3 (by decide) (by decide) (fun h3 p3 r3 f3 => k_cl (d := d) w.1 p3 r3 ⟨by decide, by decide⟩ (fun c h4 ec _ p4 r4 f4 => ?_))))
  have ff := (f1.n.t f2.n).t (f3.n.t f4.n)
  have b4 := p4.b
  rw [r4.2.1.1]
  by_cases z2 : effK (toks T n) (celS (toks T n) σ 0 0 (ndS (toks T n) 2 (3 : Nat) (nbS (toks T n) 1 99 (advS s)).2)).2 = 0
  · have z0 := (eff_0 z2).1
    obtain ⟨y0, x', y', x1, x2, y1, y2, e', p1', p2', p3'⟩ := cel_ok (A := toks T n) (lx := 0) (ly := 0) (s := ndS (toks T n) 2 (3 : Nat) (nbS (toks T n) 1 99 (advS s)).2) w.1 ⟨by decide, by decide⟩ z0
    have pc := ec z2
    have pe : (celS (toks T n) σ 0 0 (ndS (toks T n) 2 (3 : Nat) (nbS (toks T n) 1 99 (advS s)).2)).1 = y' * σ 0 0 + x' := by rw [e']
    have n0 : (nbS (toks T n) 1 99 (advS s)).2.2.1 = 0 := by
      by_cases q : (nbS (toks T n) 1 99 (advS s)).2.2.1 = 0
      · exact q
      · have : effK (toks T n) (nbS (toks T n) 1 99 (advS s)).2 ≠ 0 := by rw [(eff_f q).1]; exact q
        rw [d_nd (by decide) this] at y0
        exact absurd y0 dS_z
    have es : sRough (toks T n) σ (advS s) = (zset σ 4 c y, (celS (toks T n) σ 0 0 (ndS (toks T n) 2 (3 : Nat) (nbS (toks T n) 1 99 (advS s)).2)).2) := by
      unfold sRough
      rw [ey n0, pc]
      show ((if (celS (toks T n) σ 0 0 (ndS (toks T n) 2 (3 : Nat) (nbS (toks T n) 1 99 (advS s)).2)).1 = -1 then _ else _), _) = _
      rw [if_neg (by rw [pe]; omega)]
      rfl
    rw [pe] at pc
    rw [ixw (by omega) (by omega), es]
    refine zWp_it z2 (zWp_it (by omega) (zWp_lt fun h5 e5 => zWp_s ?_))
    rw [e5]
    exact ⟨r4.wr (by decide), ff.t (frBk.st ⟨by decide, by decide⟩ (rz (show rsz 409 = 60 by decide) (by omega))), fun _ => (p4.wc (by decide)).sk (by decide)⟩
  · refine zWp_nt z2 (zWp_s ⟨?_, ff, fun y => absurd y ?_⟩)
    · exact r4
    · exact z2
theorem d_wall {A : List zTk} {σ : zH} {s : zRd} (hd : effK A s ≠ 0) : sWall A σ s = (σ, dS A s) := by
  unfold sWall
  rw [d_nb hd, d_fr (s := (((-1 : Int), dS A s) : Int × zRd).2) (dS_e hd)]
  show ((if (-1 : Int) = -1 then σ else _), dS A (dS A s)) = _
  rw [dS_2, if_pos rfl]
