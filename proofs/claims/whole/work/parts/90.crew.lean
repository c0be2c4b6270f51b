/-! crew: both alike -/
def SL (L : List Int) (h : zH) : Prop := h 343 9 = L.length ∧ ∀ (j : Nat) (y : Int), L[j]? = some y → h 348 (j : Int) = y
theorem q_find32 {d : Nat} {x T : Int} (hx : zI32 x) {Q : zV → zH → Prop} : ∀ (n : Nat) {i : Int} {L : List Int} {h : zH}, 0 ≤ i → i + n = 10 → SL L h → (L.length : Int) + isum (mkI x) n i ≤ 3 → (∀ h', SL (L ++ nmL x n i) h' → (∀ r, ¬ (r = 343 ∨ r = 348) → h' r = h r) → (∀ q, ¬ q = 9 → h' 343 q = h 343 q) → zWp (l_CrewSearch_find_32 d 343 T x 10 h') Q) → zWp (l_CrewSearch_find_32 d 343 T x i h) Q := by
  intro n
  induction n with
  | zero =>
    intro i L h hi hh gl hL N
    have ei : i = 10 := by omega
    rw [ei]
    exact N h (by rw [show nmL x 0 i = [] from rfl, List.append_nil]; exact gl) (fun _ _ => rfl) (fun _ _ => rfl)
  | succ n ih =>
    intro i L h hi hh gl hL N
    have ge := mkI_b (x := x) n (i + 1)
    rw [show isum (mkI x) (n + 1) i = mkI x i + isum (mkI x) n (i + 1) from rfl] at hL
    rw [el_CrewSearch_find_32, mkB_t hx (by omega), w32_i (x := i + 1) (by omega), show (343 + 5 : Int) = 348 from rfl, gl.1]
    refine zWp_it (by omega) ?_
    cases hmk : mkB x i with
    | false =>
      have e0 : mkI x i = 0 := by unfold mkI; rw [hmk]; rfl
      have el : nmL x (n + 1) i = nmL x n (i + 1) := by rw [nmL, hmk]
      rw [el] at N
      exact zWp_nt (by decide) (ih (by omega) (by omega) gl (by omega) N)
    | true =>
      have e0 : mkI x i = 1 := by unfold mkI; rw [hmk]; rfl
      have el : nmL x (n + 1) i = [i] ++ nmL x n (i + 1) := by rw [nmL, hmk]; rfl
      rw [el, ← List.append_assoc] at N
      have el2 : ((L ++ [i]).length : Int) = (L.length : Int) + 1 := by rw [List.length_append]; rfl
      refine zWp_it rfl (zWp_po (by decide) (zWp_it (by omega) (zWp_po (by decide) (zWp_po (by decide) (zWp_po (by decide) (zWp_it (by omega) (zWp_lt fun h1 q1 => zWp_po (by decide) (zWp_po (by decide) (zWp_lt fun h2 q2 => ?_)))))))))
      have g2 : SL (L ++ [i]) h2 := by
        refine ⟨?_, fun j y hj => ?_⟩
        · rw [q2, zset_e, q1, zset_o (by decide), gl.1, w32_i (by omega), el2]
        · rw [q2, zset_o (by decide), q1, zset_g]
          by_cases e : (j : Int) = (L.length : Int)
          · have ej : j = L.length := by omega
            rw [if_pos e]
            rw [ej, List.getElem?_append_right (Nat.le_refl _), Nat.sub_self] at hj
            exact Option.some.inj hj
          · rw [if_neg e]
            have hlt : j < (L ++ [i]).length := (List.getElem?_eq_some_iff.1 hj).1
            rw [List.length_append] at hlt
            rw [List.getElem?_append_left (show j < L.length by simp at hlt; omega)] at hj
            exact gl.2 j y hj
      exact ih (by omega) (by omega) g2 (by omega) (fun h' s1 s2 s3 => N h' s1 (fun r hr => by rw [s2 r hr, q2, zset_n (by omega), q1, zset_n (by omega)]) (fun q hq => by rw [s3 q hq, q2, zset_j hq, q1, zset_o (by decide)]))
abbrev bzC (σ st : zH) (o : Int) (L : List Int) : Option zZ := (lvs σ o L L.length (List.range L.length) st).foldl (bst L.length) none
theorem q_findC {d : Nat} {σ st : zH} {D : zDR} {K : zKp} {Λ : zLw} {G : zH} {x o : Int} {h : zH} (c : CI σ st D K Λ G h) (hx : zI32 x) (ho : 0 ≤ o ∧ o < nO σ) (ly : LyP σ st x 3) : zWp (m_CrewSearch_find (d + 13) 343 (h 0 7) 67 x o h) (fun v h' => v = .inl (match bzC σ st o (nmL x (nS σ).toNat 0) with | none => 0 | some _ => 1) ∧ frY h h' ∧ KC σ (h 0 7) o (nmL x (nS σ).toNat 0) h' ∧ BH (nmL x (nS σ).toNat 0).length (bzC σ st o (nmL x (nS σ).toNat 0)) h') := by
  have b := c.1
  have w := b.2.2.2.1
  have wt := b.2.2.2.2
  have ha := b.2.1.a
  have hS0 : 0 ≤ nS σ := w.2.1.2.2.1
  have hS10 : nS σ ≤ 10 := w.2.1.2.2.2.1
  have ok := okS_of (σ := σ) (by decide) hS0 ly
  have len := nmL_len (x := x) (nS σ).toNat 0
  have l3 := ly.2.1.2
  have e10 := nmL_10 (x := x) (n := (nS σ).toNat) (by omega) ly.1
  have is10 : isum (mkI x) 10 0 ≤ 3 := by
    have := nmL_len (x := x) 10 0
    rw [e10] at this
    omega
  rw [em_CrewSearch_find]
  refine zWp_po (by decide) (zWp_lt fun h1 q1 => zWp_po (by decide) (zWp_lt fun h2 q2 => zWp_po (by decide) (zWp_lt fun h3 q3 => zWp_po (by decide) (zWp_lt fun h4 q4 => zWp_po (by decide) (zWp_bv (q_fill (d := d + 11) (by decide) (by decide)) (fun _ h5 u5 => ?_))))))
  have u5r : ∀ r, ¬ r = 349 → h5 r = h4 r := fun r hr => u5.2 r hr
  have r5 : ∀ r, ¬ (r = 343 ∨ r = 349) → h5 r = h r := fun r hr => by rw [u5r r (by omega), q4, zset_n (by omega), q3, zset_n (by omega), q2, zset_n (by omega), q1, zset_n (by omega)]
  have s7 : h5 343 7 = h 0 7 := by rw [u5r 343 (by decide), q4, zset_j (by decide), q3, zset_j (by decide), q2, zset_j (by decide), q1, zset_e]
  have s8 : h5 343 8 = o := by rw [u5r 343 (by decide), q4, zset_j (by decide), q3, zset_j (by decide), q2, zset_e]
  have s9 : h5 343 9 = 0 := by rw [u5r 343 (by decide), q4, zset_j (by decide), q3, zset_e]
  have s10 : h5 343 10 = -1 := by rw [u5r 343 (by decide), q4, zset_e]
  refine q_find32 hx 10 (i := 0) (L := []) (h := h5) (by decide) (by decide) ⟨s9, fun j y hj => by cases hj⟩ (by show (0 : Int) + _ ≤ 3; omega) (fun h6 g6 f6 k6 => ?_)
  rw [List.nil_append, e10] at g6
  generalize hL : nmL x (nS σ).toNat 0 = L at *
  have hm : 1 ≤ L.length ∧ L.length ≤ 3 := ⟨ok.1, by omega⟩
  have r6 : ∀ r, ¬ (r = 343 ∨ r = 348 ∨ r = 349) → h6 r = h r := fun r hr => by rw [f6 r (by omega), r5 r (by omega)]
  have kc : KC σ (h 0 7) o L h6 := ⟨by rw [k6 7 (by decide)]; exact s7, by rw [k6 8 (by decide)]; exact s8, g6.1, b.2.1.fr (fun r z1 z2 => r6 r (by omega)), fun j hj => g6.2 j _ (by rw [List.getD_eq_getElem?_getD, List.getElem?_eq_getElem hj]; rfl), fun i i1 i2 => by rw [r6 347 (by decide)]; exact c.2.2.2.1.2.2.1 i i1 i2⟩
  have u0 := un_0 L.length (by omega)
  have p := q_place (σ := σ) (a := h 0 7) (L := L) w ho.1 rfl hm ok.2.2 L.length (d + 2 * (3 - L.length) + 1) 67 st [] 0 none h6 (by show 0 + L.length = L.length; omega) (Nat.two_pow_pos _) u0.2 ⟨fun z hz => (by cases hz), fun k hk hb => (by rw [Nat.zero_testBit] at hb; cases hb)⟩ kc (b.2.2.1.fr (fun r z1 z2 => r6 r (by omega))) wt (by omega) (fun j z hz => by cases hz) (by show h6 343 10 = -1; rw [k6 10 (by decide)]; exact s10)
  rw [show d + 2 * (3 - L.length) + 1 + 2 * L.length + 5 = d + 12 by omega, u0.1, show (lvs σ o L L.length (List.range L.length) st).map (fun Z => [] ++ Z) = lvs σ o L L.length (List.range L.length) st from List.map_id' _] at p
  rw [el_CrewSearch_find_32]
  refine zWp_nt (by decide) (zWp_po (by decide) (zWp_bv p (fun _ h7 u7 => zWp_po (by decide) ?_)))
  obtain ⟨b7, _, f7⟩ := u7
  have f7' : frC9 0 h6 h7 := f7
  have y7 : frY h h7 := fun r hr => by rw [f7'.1 r (by omega), r6 r (by omega)]
  have kc7 := kc.fr (by decide) f7'
  cases hB : bzC σ st o L with
  | none =>
    have b7' := b7
    rw [show (lvs σ o L L.length (List.range L.length) st).foldl (bst L.length) none = none from hB] at b7'
    exact zWp_it b7' (zWp_s ⟨rfl, y7, kc7, b7'⟩)
  | some Z =>
    have b7' := b7
    rw [show (lvs σ o L L.length (List.range L.length) st).foldl (bst L.length) none = some Z from hB] at b7'
    have g := nm_b hm b7'.2.2.2
    exact zWp_nt (by rw [b7'.1]; omega) (zWp_s ⟨rfl, y7, kc7, b7'⟩)
def vCre (σ st : zH) (x o k : Int) : Int := if LyP σ st x 3 then (if 0 ≤ o ∧ o < nO σ then (match bzC σ st o (nmL x (nS σ).toNat 0) with
  | none => -1
  | some Z => if k = -1 then sm (nmL x (nS σ).toNat 0).length (lk Z) else if 0 ≤ k ∧ k < (nmL x (nS σ).toNat 0).length then lk Z k.toNat else if 10 ≤ k ∧ k < 10 + (nmL x (nS σ).toNat 0).length then (nmL x (nS σ).toNat 0).getD (Z.getD (k.toNat - 10) (0, 0)).1 0 else -1) else -1) else -1
theorem bz_in {σ st : zH} {o : Int} {L : List Int} (hm : 1 ≤ L.length ∧ L.length ≤ 3) {Z : zZ} (h : bzC σ st o L = some Z) : Z.length = L.length ∧ ∀ z ∈ Z, z.1 < L.length := by
  have a := List.mem_of_find?_eq_some (bst_top h).2
  obtain ⟨b, _⟩ := lvs_in _ _ _ Z a
  obtain ⟨j, hj⟩ : ∃ j, L.length = j + 1 := ⟨L.length - 1, by omega⟩
  have ok := lex_ok j (by omega)
  rw [hj] at b
  have c := okO_of (List.all_eq_true.1 ok _ b)
  rw [hj]
  exact ⟨by have := c.1; rwa [List.length_map] at this, fun z hz => c.2 _ (List.mem_map.2 ⟨z, hz, rfl⟩)⟩
theorem q_crew {d : Nat} {σ st : zH} {D : zDR} {K : zKp} {Λ : zLw} {G : zH} {x o k : Int} {h : zH} (c : CI σ st D K Λ G h) (hx : zI32 x) : zWp (m_B_crew (d + 14) x o k h) (fun v h' => v = .inl (vCre σ st x o k) ∧ frY h h') := by
  have b := c.1
  have w := b.2.2.2.1
  have hS0 : 0 ≤ nS σ := w.2.1.2.2.1
  have hS10 : nS σ ≤ 10 := w.2.1.2.2.2.1
  unfold vCre
  rw [em_B_crew]
  obtain ⟨v1, h1, e1, rfl, rfl⟩ := q_areLying (d := d + 11) (m := 3) b hx
  refine zWp_qi e1 ?_
  by_cases c1 : LyP σ st x 3
  case neg => rw [if_neg c1, if_neg c1]; exact zWp_it rfl (zWp_s ⟨rfl, frY.rf _⟩)
  rw [if_pos c1, if_pos c1]
  refine zWp_nt (by decide) (zWp_qi (q_hasOwner b) ?_)
  by_cases c2 : 0 ≤ o ∧ o < nO σ
  case neg => rw [if_neg c2, if_neg c2]; exact zWp_it rfl (zWp_s ⟨rfl, frY.rf _⟩)
  rw [if_pos c2, if_pos c2]
  refine zWp_nt (by decide) (zWp_qi q_between ?_)
  have fd := q_findC (d := d) c hx c2 c1
  have ok := okS_of (σ := σ) (by decide) hS0 c1
  have len := nmL_len (x := x) (nS σ).toNat 0
  have l3 := c1.2.1.2
  generalize hL : nmL x (nS σ).toNat 0 = L at *
  have hm : 1 ≤ L.length ∧ L.length ≤ 3 := ⟨ok.1, by omega⟩
  have l41 : (-1 ≤ k ∧ k ≤ 2 ∨ 10 ≤ k ∧ k ≤ 12) → zWp (l_B_crew_41 (d + 13) x o k h1) (fun v h' => v = .inl (match bzC σ st o L with | none => -1 | some Z => if k = -1 then sm L.length (lk Z) else if 0 ≤ k ∧ k < L.length then lk Z k.toNat else if 10 ≤ k ∧ k < 10 + L.length then L.getD (Z.getD (k.toNat - 10) (0, 0)).1 0 else -1) ∧ frY h1 h') := by
    intro hk
    rw [el_B_crew_41]
    obtain ⟨v2, h2, e2, rfl, y2, kc, bh⟩ := fd
    refine zWp_qi e2 ?_
    cases hB : bzC σ st o L with
    | none => exact zWp_it rfl (zWp_s ⟨rfl, y2⟩)
    | some Z =>
      rw [hB] at bh
      obtain ⟨z1, z2⟩ := bz_in hm hB
      obtain ⟨b1, b2, b3, b4⟩ := bh
      refine zWp_nt (show ¬ (1 : Int) = 0 by decide) ?_
      by_cases k1 : k = -1
      · refine zWp_it k1 (zWp_s ⟨?_, y2⟩)
        show _ = Sum.inl (if k = -1 then sm L.length (lk Z) else _)
        rw [if_pos k1, b1]
      refine zWp_nt k1 ?_
      show zWp _ (fun v h' => v = .inl (if k = -1 then sm L.length (lk Z) else if 0 ≤ k ∧ k < L.length then lk Z k.toNat else if 10 ≤ k ∧ k < 10 + L.length then L.getD (Z.getD (k.toNat - 10) (0, 0)).1 0 else -1) ∧ frY h1 h')
      rw [if_neg k1]
      by_cases k2 : k < 10
      · refine zWp_it k2 ?_
        rw [em_CrewSearch_menOf, zpo_t (by decide), kc.2.2.1, q_within, zqi_s, if_neg (show ¬ (10 ≤ k ∧ k < 10 + (L.length : Int)) by omega)]
        by_cases k3 : 0 ≤ k ∧ k < (L.length : Int)
        · obtain ⟨j, hj⟩ := Int.eq_ofNat_of_zero_le k3.1
          rw [if_pos k3, if_pos k3, zit_f (by decide), zpo_t (by decide), zpo_t (by decide), zit_t (by omega), zqi_s]
          refine zWp_s ⟨?_, y2⟩
          rw [show (343 + 8 : Int) = 351 from rfl, hj, b2 j (by omega), Int.toNat_natCast]
        · rw [if_neg k3, if_neg k3, zit_t rfl, zqi_s]
          exact zWp_s ⟨rfl, y2⟩
      · refine zWp_nt k2 ?_
        rw [if_neg (show ¬ (0 ≤ k ∧ k < (L.length : Int)) by omega), w32_i (x := k - 10) (by omega), em_CrewSearch_stoneInOrder, zpo_t (by decide), kc.2.2.1, q_within, zqi_s]
        by_cases k3 : 10 ≤ k ∧ k < 10 + (L.length : Int)
        · obtain ⟨j, hj⟩ := Int.eq_ofNat_of_zero_le (show 0 ≤ k - 10 by omega)
          have hjl : j < Z.length := by omega
          have ez : Z[j]? = some (Z.getD j (0, 0)) := by rw [List.getD_eq_getElem?_getD, List.getElem?_eq_getElem hjl]; rfl
          have zl := z2 (Z.getD j (0, 0)) (List.mem_iff_getElem?.2 ⟨j, ez⟩)
          have e52 : h2 352 (j : Int) = ((Z.getD j (0, 0)).1 : Int) := b3 j _ ez
          have e48 : h2 348 (((Z.getD j (0, 0)).1 : Nat) : Int) = L.getD (Z.getD j (0, 0)).1 0 := kc.2.2.2.2.1 _ zl
          rw [if_pos k3, if_pos (show 0 ≤ k - 10 ∧ k - 10 < (L.length : Int) by omega), zit_f (by decide), zpo_t (by decide), zpo_t (by decide), zpo_t (by decide), zit_t (by omega), zpo_t (by decide), show (343 + 9 : Int) = 352 from rfl, show (343 + 5 : Int) = 348 from rfl, hj, e52, zit_t (by omega), e48, zqi_s]
          refine zWp_s ⟨?_, y2⟩
          rw [show k.toNat - 10 = j by omega]
        · rw [if_neg k3, if_neg (show ¬ (0 ≤ k - 10 ∧ k - 10 < (L.length : Int)) by omega), zit_t rfl, zqi_s]
          exact zWp_s ⟨rfl, y2⟩
  have out : ¬ (-1 ≤ k ∧ k ≤ 2 ∨ 10 ≤ k ∧ k ≤ 12) → (match bzC σ st o L with | none => (-1 : Int) | some Z => if k = -1 then sm L.length (lk Z) else if 0 ≤ k ∧ k < L.length then lk Z k.toNat else if 10 ≤ k ∧ k < 10 + L.length then L.getD (Z.getD (k.toNat - 10) (0, 0)).1 0 else -1) = -1 := by
    intro hk
    cases hB : bzC σ st o L with
    | none => rfl
    | some Z =>
      show (if k = -1 then sm L.length (lk Z) else if 0 ≤ k ∧ k < L.length then lk Z k.toNat else if 10 ≤ k ∧ k < 10 + L.length then L.getD (Z.getD (k.toNat - 10) (0, 0)).1 0 else -1) = -1
      rw [if_neg (by omega), if_neg (by omega), if_neg (by omega)]
  by_cases k1 : -1 ≤ k ∧ k ≤ 2
  · exact zWp_nt (by rw [if_pos k1]; decide) (l41 (Or.inl k1))
  refine zWp_it (by rw [if_neg k1]) (zWp_qi q_between ?_)
  by_cases k2 : 10 ≤ k ∧ k ≤ 12
  · exact zWp_nt (by rw [if_pos k2]; decide) (l41 (Or.inr k2))
  · refine zWp_it (by rw [if_neg k2]) (zWp_s ⟨?_, frY.rf _⟩)
    rw [out (by omega)]
/-- the reference -/
def RCc (σ st : zH) (L : List Int) (h : zH) : Prop := RS σ h ∧ RT σ st 0 h ∧ GL L h
theorem q_br12 {d : Nat} {σ : zH} {o : Int} {L : List Int} {ν : Nat → Int} {Q : zV → zH → Prop} (w : WS σ) (hL : ∀ j : Nat, j < L.length → 0 ≤ L.getD j 0 ∧ L.getD j 0 < nS σ) (h3 : L.length ≤ 3) (dν : ∀ k, 0 ≤ ν k ∧ ν k ≤ 9) : ∀ (R : List Nat) {j : Nat} {st h : zH} {E : List zEv} {W : List Int} {Y : Int}, (j : Int) + R.length = L.length → RS σ h → GL L h → RT σ st 1 h → WT σ st → RV E Y h → RW W h → (W.length : Int) + 600 * R.length ≤ 700000 → (∀ k : Nat, k < L.length → h 458 (k : Int) = ν k) → (∀ i : Nat, i < R.length → h 459 ((j : Int) + i) = ((R.getD i 0 : Nat) : Int)) → (∀ p ∈ R, p < L.length) → (∀ st' h', RS σ h' → GL L h' → RT σ st' 1 h' → WT σ st' → frQR h h' → okR σ o L ν R st = sucB σ o L st' → zWp (l_R_brings_65 (d + 4) o 0 h') Q) → zWp (l_R_brings_12 (d + 4) o (j : Int) h) Q := by
  intro R
  induction R with
  | nil =>
    intro j st h E W Y hj g gl rt wt rv rw hW hν hR hp N
    have hj' : (j : Int) + 0 = L.length := hj
    rw [el_R_brings_12, gl.1]
    exact zWp_nt (by omega) (N st h g gl rt wt (frQR.rf h) rfl)
  | cons p R ih =>
    intro j st h E W Y hj g gl rt wt rv rw hW hν hR hp N
    have hj' : (j : Int) + ((R.length + 1 : Nat) : Int) = L.length := hj
    have hW' : (W.length : Int) + 600 * ((R.length + 1 : Nat) : Int) ≤ 700000 := hW
    have pL := hp p (List.mem_cons_self ..)
    have e0 : h 459 (j : Int) = (p : Int) := by
      have := hR 0 (Nat.succ_pos _)
      rw [show (j : Int) + ((0 : Nat) : Int) = j by omega] at this
      exact this
    have dp := dν p
    rw [el_R_brings_12, gl.1, e0, hν p pL, gl.at pL, w32_i (x := (j : Int) + 1) (by omega), w32_i (x := 10 * ν p) (by omega), show (j : Int) + 1 = ((j + 1 : Nat) : Int) from rfl]
    have nx : ∀ h1, frQR h h1 → ∀ i : Nat, i < R.length → h1 459 (((j + 1 : Nat) : Int) + i) = ((R.getD i 0 : Nat) : Int) := fun h1 f1 i hi => by
      have := hR (i + 1) (by show i + 1 < R.length + 1; omega)
      rw [f1.1 459 (by decide), show ((j + 1 : Nat) : Int) + (i : Int) = (j : Int) + ((i + 1 : Nat) : Int) by omega]
      exact this
    refine zWp_it (by omega) (zWp_it (by omega) (zWp_it (by omega) ?_))
    by_cases c : 0 < ν p
    · refine zWp_it c (zWp_it (by omega) (zWp_it (by omega) ?_))
      obtain ⟨v1, h1, e1, k1, k2, k3, k4, k5, k6, _⟩ := q_R_drives (d := d) (Λ := noLw) (h0 := h) (Δ := noDu) w g rt wt (hL p pL) (show 0 ≤ 10 * ν p ∧ 10 * ν p ≤ 2000000 by omega) rv rw (by omega) (noDR (by decide))
      rw [k1] at e1
      refine zWp_qi e1 ?_
      have f1 := k4.q (by decide)
      have lw := drvB_cells (σ := σ) 10 st (if st 1 (L.getD p 0) ≠ -1 ∧ σ 2 (st 1 (L.getD p 0)) ≠ -1 ∧ σ 14 (L.getD p 0) < 10 * ν p + σ 3 (st 1 (L.getD p 0)) then L.getD p 0 else -1)
      have lw' : ((trCells (drv σ st (L.getD p 0) (10 * ν p)).2).length : Int) ≤ 60 * ((10 : Nat) : Int) := lw
      refine ih (j := j + 1) (by omega) k3 (gl.fr (f1.2.1 86 (by decide)) (f1.1 457 (by decide))) k2 (drv_ok w wt (hL p pL)).1 k5 k6 (by rw [List.length_append]; omega) (fun k hk => by rw [f1.1 458 (by decide)]; exact hν k hk) (nx h1 f1) (fun x hx => hp x (List.mem_cons_of_mem _ hx)) (fun st' h' s1 s2 s3 s4 s5 s6 => N st' h' s1 s2 s3 s4 (f1.t s5) ?_)
      rw [okR, if_pos c]
      exact s6
    · refine zWp_nt c (ih (j := j + 1) (by omega) g gl rt wt rv rw (by omega) hν (nx h (frQR.rf h)) (fun x hx => hp x (List.mem_cons_of_mem _ hx)) (fun st' h' s1 s2 s3 s4 s5 s6 => N st' h' s1 s2 s3 s4 s5 ?_))
      rw [okR, if_neg c]
      exact s6
theorem q_br65 {d : Nat} {σ st : zH} {o : Int} {L : List Int} {h : zH} (w : WS σ) (wt : WT σ st) (hL : ∀ j : Nat, j < L.length → 0 ≤ L.getD j 0 ∧ L.getD j 0 < nS σ) (h3 : L.length ≤ 3) (g : RS σ h) (gl : GL L h) (rt : RT σ st 1 h) : ∀ (n : Nat) {k : Nat}, k + n = L.length → l_R_brings_65 (d + 2) o (k : Int) h = some (.inl (if (L.drop k).all (fun s => decide (st 1 s ≠ -1 ∧ σ 6 (st 1 s) = o)) = true then 1 else 0), h)
  | 0, k, hk => by
    have ed : L.drop k = [] := by rw [show k = L.length by omega]; exact List.drop_length
    rw [el_R_brings_65, gl.1, zit_f (by omega), ed]
    rfl
  | n + 1, k, hk => by
    have ed : L.drop k = L.getD k 0 :: L.drop (k + 1) := by
      rw [List.getD_eq_getElem?_getD, List.getElem?_eq_getElem (by omega)]
      exact (List.drop_eq_getElem_cons (by omega))
    rw [el_R_brings_65, gl.1, zit_t (by omega), zit_t (by omega), gl.at (by omega), q_R_isOn w g rt wt (hL k (by omega)), zqi_s, w32_i (x := (k : Int) + 1) (by omega), ed, List.all_cons, show (k : Int) + 1 = ((k + 1 : Nat) : Int) from rfl]
    by_cases q : st 1 (L.getD k 0) ≠ -1 ∧ σ 6 (st 1 (L.getD k 0)) = o
    · rw [if_pos q, zit_f (by decide), decide_eq_true q, Bool.true_and]
      exact q_br65 w wt hL h3 g gl rt n (by omega)
    · rw [if_neg q, zit_t rfl, decide_eq_false q, Bool.false_and]
      rfl
theorem q_brings {d : Nat} {σ st : zH} {o : Int} {L : List Int} {ν : Nat → Int} {P : List Nat} {h : zH} (w : WS σ) (wt : WT σ st) (hL : ∀ j : Nat, j < L.length → 0 ≤ L.getD j 0 ∧ L.getD j 0 < nS σ) (h3 : L.length ≤ 3) (dν : ∀ k, 0 ≤ ν k ∧ ν k ≤ 9) (c : RCc σ st L h) (hν : ∀ k : Nat, k < L.length → h 458 (k : Int) = ν k) (ol : OL P h) (hl : P.length = L.length) (hp : ∀ p ∈ P, p < L.length) : zWp (m_R_brings (d + 5) o h) (fun v h' => v = .inl (if okR σ o L ν P st = true then 1 else 0) ∧ frQR h h') := by
  obtain ⟨g, r0, gl⟩ := c
  rw [em_R_brings]
  refine zWp_bv (q_copiesT (d := d + 3) (t := 1) (f := 0) (h := h) (by decide) (by decide) (by decide)) (fun _ h1 u1 => ?_)
  obtain ⟨cp, o1⟩ := u1
  have f1 := cp.q (by decide) o1
  have r1 : RT σ st 1 h1 := cp.t w (by decide) r0
  refine zWp_bv (q_R_forgets (d := d + 3) (h := h1)) (fun _ h2 u2 => ?_)
  obtain ⟨v1, v2, v3, v4⟩ := u2
  have f2 : frQR h h2 := f1.t (frQR.fg v3 v4)
  refine q_br12 (d := d) (ν := ν) w hL h3 dν P (j := 0) (by rw [hl]; omega) (g.q f2) (gl.fr (f2.2.1 86 (by decide)) (f2.1 457 (by decide))) (r1.fr (fun r a b => v3 r (by omega))) wt v1 v2 (by show ((0 : Nat) : Int) + 600 * (P.length : Int) ≤ 700000; omega) (fun k hk => by rw [f2.1 458 (by decide)]; exact hν k hk) (fun i hi => ?_) hp (fun st' h' s1 s2 s3 s4 s5 s6 => ?_)
  · rw [show ((0 : Nat) : Int) + (i : Int) = i by omega, f2.1 459 (by decide)]
    exact ol.2 i hi
  · have e := q_br65 (d := d + 2) (o := o) w s4 hL h3 s1 s2 s3 L.length (k := 0) (by omega)
    rw [List.drop_zero] at e
    rw [show (0 : Int) = ((0 : Nat) : Int) from rfl, e]
    exact zWp_s ⟨by rw [s6]; rfl, f2.t s5⟩
def RBH (m : Nat) (B : Option (Nat × List Nat)) (h : zH) : Prop := match B with
  | none => h 403 87 = -1
  | some x => h 403 87 = sm m (dg m x.1) ∧ (∀ k : Nat, k < m → h 460 (k : Int) = dg m x.1 k) ∧ ∀ j : Nat, j < m → h 461 (j : Int) = ((x.2.getD j 0 : Nat) : Int)
theorem RBH.fr {m : Nat} {B : Option (Nat × List Nat)} {h h' : zH} (b : RBH m B h) (h1 : h' 403 87 = h 403 87) (h2 : h' 460 = h 460) (h3 : h' 461 = h 461) : RBH m B h' := by
  cases B with
  | none => show h' 403 87 = -1; rw [h1]; exact b
  | some Z =>
    obtain ⟨b1, b2, b3⟩ := b
    exact ⟨by rw [h1]; exact b1, fun k hk => by rw [h2]; exact b2 k hk, fun j hj => by rw [h3]; exact b3 j hj⟩
theorem RCc.x {σ st : zH} {L : List Int} {h h' : zH} (w : WS σ) (c : RCc σ st L h) (f : frX h h') (h1 : h' 403 86 = h 403 86) (h2 : h' 457 = h 457) : RCc σ st L h' := by
  have hn := w.n
  have hS10 : nS σ ≤ 10 := w.2.1.2.2.2.1
  have hH8 : nHo σ ≤ 8 := w.2.1.2.2.2.2.2.1
  obtain ⟨g, ⟨t0, t1, t2, t3⟩, gl⟩ := c
  refine ⟨g.fr (f.2.1 12 (by decide)) (fun r a b => f.1 r (by omega)), ⟨t0, fun i a b => ?_, fun i a b => ?_, fun i a b => ?_⟩, gl.fr h1 h2⟩
  · have := f.2.2.1 (10 * 0 + i) (by omega)
    rw [this.1, this.2.1, this.2.2]; exact t1 i a b
  · rw [f.2.2.2.1 (8 * 0 + i) (by omega)]; exact t2 i a b
  · have := f.2.2.2.2 (60 * 0 + i) (by omega)
    rw [this.1, this.2.1, this.2.2]; exact t3 i a b
theorem q_cr145 {d m n : Nat} {o N : Int} {P : List Nat} {Q : zV → zH → Prop} (h6 : m ≤ 3) (hp : P.length = m) : ∀ (i : Nat) {k : Nat} {h : zH}, k + i = m → h 403 86 = m → (∀ k : Nat, k < m → h 458 (k : Int) = dg m n k) → (∀ j : Nat, j < m → h 459 (j : Int) = ((P.getD j 0 : Nat) : Int)) → (∀ j : Nat, j < k → h 460 (j : Int) = dg m n j ∧ h 461 (j : Int) = ((P.getD j 0 : Nat) : Int)) → (∀ h', (∀ j : Nat, j < m → h' 460 (j : Int) = dg m n j ∧ h' 461 (j : Int) = ((P.getD j 0 : Nat) : Int)) → (∀ r, ¬ (r = 460 ∨ r = 461) → h' r = h r) → zWp (l_R_crews_191 d o N n (sm m (dg m n)) 0 h') Q) → zWp (l_R_crews_145 d o N n (sm m (dg m n)) (k : Int) h) Q
  | 0, k, h, hk, e86, e1, e2, e3, C => by
    rw [el_R_crews_145, e86]
    exact zWp_nt (by omega) (C h (fun j hj => e3 j (by omega)) (fun _ _ => rfl))
  | i + 1, k, h, hk, e86, e1, e2, e3, C => by
    rw [el_R_crews_145, e86, w32_i (x := (k : Int) + 1) (by omega), show (k : Int) + 1 = ((k + 1 : Nat) : Int) from rfl]
    refine zWp_it (by omega) (zWp_it (by omega) (zWp_it (by omega) (zWp_lt fun h1 q1 => zWp_it (by omega) (zWp_it (by omega) (zWp_lt fun h2 q2 => ?_)))))
    have r2 : ∀ r, ¬ (r = 460 ∨ r = 461) → h2 r = h r := fun r hr => by rw [q2, zset_n (by omega), q1, zset_n (by omega)]
    refine q_cr145 h6 hp i (k := k + 1) (by omega) (by rw [r2 403 (by decide)]; exact e86) (fun j hj => by rw [r2 458 (by decide)]; exact e1 j hj) (fun j hj => by rw [r2 459 (by decide)]; exact e2 j hj) (fun j hj => ?_) (fun h' s1 s2 => C h' s1 (fun r hr => (s2 r hr).trans (r2 r hr)))
    rw [q2, zset_o (by decide), zset_g, q1, zset_g, zset_o (by decide), zset_o (by decide)]
    by_cases e : (j : Int) = (k : Int)
    · have ej : j = k := by omega
      rw [if_pos e, if_pos e, ej, e1 k (by omega), e2 k (by omega)]
      exact ⟨rfl, rfl⟩
    · rw [if_neg e, if_neg e]
      exact e3 j (by omega)
theorem q_cr123 {d m n : Nat} {σ st : zH} {o N : Int} {L : List Int} {B : Option (Nat × List Nat)} {Q : zV → zH → Prop} (w : WS σ) (wt : WT σ st) (hl : L.length = m) (hm : 1 ≤ m ∧ m ≤ 3) (hL : ∀ j : Nat, j < L.length → 0 ≤ L.getD j 0 ∧ L.getD j 0 < nS σ) : ∀ (r : List (List Nat)) {P : List Nat} {h : zH}, chn (P :: r) = true → (P :: r).all (okO m) = true → RCc σ st L h → OL P h → (∀ k : Nat, k < m → h 458 (k : Int) = dg m n k) → RBH m B h → (∀ h', RCc σ st L h' → frX h h' → RBH m (match (P :: r).find? (fun P => okR σ o L (dg m n) P st) with | none => B | some Q => some (n, Q)) h' → zWp (l_R_crews_37 (d + 5) o N (w32 ((n : Int) + 1)) h') Q) → zWp (l_R_crews_123 (d + 5) o N n (sm m (dg m n)) 1 h) Q := by
  intro r
  induction r with
  | nil =>
    intro P h hc ha c ol e58 rb N
    have oP := okO_of (by rw [List.all_cons, Bool.and_eq_true] at ha; exact ha.1)
    rw [el_R_crews_123]
    refine zWp_nt (by decide) ?_
    obtain ⟨v1, h1, e1, rfl, f1⟩ := q_brings (d := d) (o := o) (ν := dg m n) w wt hL (by omega) (fun k => dg_b) c (fun k hk => e58 k (by omega)) ol (by rw [oP.1, hl]) (fun p hp => by rw [hl]; exact oP.2 p hp)
    refine zWp_qi e1 ?_
    have c1 := c.x w f1.x (f1.2.1 86 (by decide)) (f1.1 457 (by decide))
    have ol1 := ol.fr (h' := h1) (f1.2.1 86 (by decide)) (f1.1 459 (by decide))
    have rb1 := rb.fr (h' := h1) (f1.2.1 87 (by decide)) (f1.1 460 (by decide)) (f1.1 461 (by decide))
    by_cases gd : okR σ o L (dg m n) P st = true
    · refine zWp_nt (by rw [if_pos gd]; decide) (zWp_lt fun h3 q3 => ?_)
      have r3 : ∀ q, ¬ q = 403 → h3 q = h1 q := fun q hq => by rw [q3, zset_n hq]
      have e86 : h3 403 86 = m := by rw [q3, zset_j (by decide), ol1.1, oP.1]
      refine q_cr145 hm.2 oP.1 m (k := 0) (by omega) e86 (fun k hk => by rw [r3 458 (by decide), f1.1 458 (by decide)]; exact e58 k hk) (fun j hj => by rw [r3 459 (by decide)]; exact ol1.2 j (by rw [oP.1]; exact hj)) (fun j hj => by omega) (fun h4 s1 s2 => ?_)
      rw [el_R_crews_191]
      refine zWp_it rfl ?_
      rw [el_R_crews_123]
      refine zWp_it rfl ?_
      have x4 : frX h1 h4 := (by rw [q3] at s2; exact (frX.sl (h := h1) (q := 87) (x := sm m (dg m n)) (by decide)).t (frX.hi (fun q hq => s2 q (by omega))))
      refine N h4 (c1.x w x4 (by rw [s2 403 (by decide), q3, zset_j (by decide)]) (by rw [s2 457 (by decide), r3 457 (by decide)])) (f1.x.t x4) ?_
      rw [List.find?_cons, gd]
      exact ⟨by rw [s2 403 (by decide), q3, zset_e], fun k hk => (s1 k hk).1, fun j hj => (s1 j hj).2⟩
    · refine zWp_it (by rw [if_neg gd]) ?_
      have gd' : okR σ o L (dg m n) P st = false := by simpa using gd
      rw [el_R_crews_191]
      refine zWp_nt (by decide) ?_
      obtain ⟨v2, h2, e2, f2, o2⟩ := q_R_nextL (d := d + 4) ol1 ⟨hm.1, by omega⟩ hc ha
      have v20 : v2 = .inl 0 := by
        rcases o2 with z | ⟨Q, r', z, _⟩
        · exact z.2
        · cases z
      rw [v20] at e2
      refine zWp_qi e2 (zWp_it rfl ?_)
      rw [el_R_crews_123]
      refine zWp_it rfl ?_
      have x2 : frX h1 h2 := frX.hi (fun q hq => f2 q (by omega))
      refine N h2 (c1.x w x2 (by rw [f2 403 (by decide)]) (f2 457 (by decide))) (f1.x.t x2) ?_
      rw [List.find?_cons, gd']
      exact rb1.fr (by rw [f2 403 (by decide)]) (f2 460 (by decide)) (f2 461 (by decide))
  | cons Q0 r ih =>
    intro P h hc ha c ol e58 rb N
    have oP := okO_of (by rw [List.all_cons, Bool.and_eq_true] at ha; exact ha.1)
    rw [el_R_crews_123]
    refine zWp_nt (by decide) ?_
    obtain ⟨v1, h1, e1, rfl, f1⟩ := q_brings (d := d) (o := o) (ν := dg m n) w wt hL (by omega) (fun k => dg_b) c (fun k hk => e58 k (by omega)) ol (by rw [oP.1, hl]) (fun p hp => by rw [hl]; exact oP.2 p hp)
    refine zWp_qi e1 ?_
    have c1 := c.x w f1.x (f1.2.1 86 (by decide)) (f1.1 457 (by decide))
    have ol1 := ol.fr (h' := h1) (f1.2.1 86 (by decide)) (f1.1 459 (by decide))
    have rb1 := rb.fr (h' := h1) (f1.2.1 87 (by decide)) (f1.1 460 (by decide)) (f1.1 461 (by decide))
    by_cases gd : okR σ o L (dg m n) P st = true
    · refine zWp_nt (by rw [if_pos gd]; decide) (zWp_lt fun h3 q3 => ?_)
      have r3 : ∀ q, ¬ q = 403 → h3 q = h1 q := fun q hq => by rw [q3, zset_n hq]
      have e86 : h3 403 86 = m := by rw [q3, zset_j (by decide), ol1.1, oP.1]
      refine q_cr145 hm.2 oP.1 m (k := 0) (by omega) e86 (fun k hk => by rw [r3 458 (by decide), f1.1 458 (by decide)]; exact e58 k hk) (fun j hj => by rw [r3 459 (by decide)]; exact ol1.2 j (by rw [oP.1]; exact hj)) (fun j hj => by omega) (fun h4 s1 s2 => ?_)
      rw [el_R_crews_191]
      refine zWp_it rfl ?_
      rw [el_R_crews_123]
      refine zWp_it rfl ?_
      have x4 : frX h1 h4 := (by rw [q3] at s2; exact (frX.sl (h := h1) (q := 87) (x := sm m (dg m n)) (by decide)).t (frX.hi (fun q hq => s2 q (by omega))))
      refine N h4 (c1.x w x4 (by rw [s2 403 (by decide), q3, zset_j (by decide)]) (by rw [s2 457 (by decide), r3 457 (by decide)])) (f1.x.t x4) ?_
      rw [List.find?_cons, gd]
      exact ⟨by rw [s2 403 (by decide), q3, zset_e], fun k hk => (s1 k hk).1, fun j hj => (s1 j hj).2⟩
    · refine zWp_it (by rw [if_neg gd]) ?_
      have gd' : okR σ o L (dg m n) P st = false := by simpa using gd
      rw [el_R_crews_191]
      refine zWp_nt (by decide) ?_
      obtain ⟨v2, h2, e2, f2, o2⟩ := q_R_nextL (d := d + 4) ol1 ⟨hm.1, by omega⟩ hc ha
      obtain ⟨v20, ol2, hc2, ha2⟩ : v2 = .inl 1 ∧ OL Q0 h2 ∧ chn (Q0 :: r) = true ∧ (Q0 :: r).all (okO m) = true := by
        rcases o2 with z | ⟨Q, r', z, z1, z2, z3, z4⟩
        · cases z.1
        · cases z; exact ⟨z1, z2, z3, z4⟩
      rw [v20] at e2
      refine zWp_qi e2 (zWp_nt (by decide) ?_)
      have x2 : frX h1 h2 := frX.hi (fun q hq => f2 q (by omega))
      refine ih hc2 ha2 (c1.x w x2 (by rw [f2 403 (by decide)]) (f2 457 (by decide))) ol2 (fun k hk => by rw [f2 458 (by decide), f1.1 458 (by decide)]; exact e58 k hk) (rb1.fr (by rw [f2 403 (by decide)]) (f2 460 (by decide)) (f2 461 (by decide))) (fun h' s1 s2 s3 => N h' s1 ((f1.x.t x2).t s2) ?_)
      rw [List.find?_cons (a := P), gd']
      exact s3
theorem q_cr56 {d m n : Nat} {o N : Int} {Q : zV → zH → Prop} (hm : 1 ≤ m ∧ m ≤ 3) (hn : n < 1000) : ∀ (j : Nat) {h : zH}, j ≤ m → (∀ i : Nat, j ≤ i → i < m → h 458 (i : Int) = dg m n i) → (∀ h', (∀ i : Nat, i < m → h' 458 (i : Int) = dg m n i) → (∀ r, ¬ r = 458 → h' r = h r) → zWp (l_R_crews_56 d o N n ((n / 10 ^ m : Nat) : Int) (sm m (dg m n)) (-1) h') Q) → zWp (l_R_crews_56 d o N n ((n / 10 ^ (m - j) : Nat) : Int) (smA (dg m n) (m - j) j) ((j : Int) - 1) h) Q
  | 0, h, hj, e, C => C h (fun i hi => e i (Nat.zero_le i) hi) (fun _ _ => rfl)
  | j + 1, h, hj, e, C => by
    have eD : Int.tmod ((n / 10 ^ (m - (j + 1)) : Nat) : Int) 10 = dg m n j := by
      rw [Int.tmod_eq_emod_of_nonneg (Int.natCast_nonneg _)]
      unfold dg
      rw [show m - 1 - j = m - (j + 1) by omega]
      generalize n / 10 ^ (m - (j + 1)) = y
      omega
    have eV : Int.tdiv ((n / 10 ^ (m - (j + 1)) : Nat) : Int) 10 = ((n / 10 ^ (m - j) : Nat) : Int) := by
      rw [Int.tdiv_eq_ediv_of_nonneg (Int.natCast_nonneg _), show m - j = m - (j + 1) + 1 by omega, Nat.pow_succ, ← Nat.div_div_eq_div_mul]
      generalize n / 10 ^ (m - (j + 1)) = y
      omega
    have eS : smA (dg m n) (m - j) j = dg m n j + smA (dg m n) (m - (j + 1)) (j + 1) := by
      rw [show m - j = m - (j + 1) + 1 by omega, smA]
    have bS : 0 ≤ smA (dg m n) (m - (j + 1)) (j + 1) ∧ smA (dg m n) (m - (j + 1)) (j + 1) ≤ 9 * ((m - (j + 1) : Nat) : Int) := by
      have : ∀ (a b : Nat), 0 ≤ smA (dg m n) a b ∧ smA (dg m n) a b ≤ 9 * (a : Int) := by
        intro a
        induction a with
        | zero => intro b; show 0 ≤ (0 : Int) ∧ (0 : Int) ≤ 9 * ((0 : Nat) : Int); decide
        | succ a ih =>
          intro b
          have := ih (b + 1)
          have := dg_b (m := m) (n := n) (k := b)
          rw [smA]
          omega
      exact this _ _
    have bd := dg_b (m := m) (n := n) (k := j)
    have bn : ((n / 10 ^ (m - j) : Nat) : Int) ≤ (n : Int) := Int.ofNat_le.2 (Nat.div_le_self _ _)
    have bz : 0 ≤ ((n / 10 ^ (m - j) : Nat) : Int) := Int.natCast_nonneg _
    rw [show ((j + 1 : Nat) : Int) - 1 = j by omega, el_R_crews_56, eD, eV, w32_i (x := ((n / 10 ^ (m - j) : Nat) : Int)) (by omega), w32_i (x := smA (dg m n) (m - (j + 1)) (j + 1) + dg m n j) (by omega), w32_i (x := (j : Int) + -1) (by omega), show (j : Int) + -1 = (j : Int) - 1 by omega, Int.add_comm (smA _ _ _) (dg m n j), ← eS]
    refine zWp_nt (by omega) (zWp_it (by omega) (zWp_lt fun h1 q1 => ?_))
    refine q_cr56 hm hn j (by omega) (fun i i1 i2 => ?_) (fun h' s1 s2 => C h' s1 (fun r hr => by rw [s2 r hr, q1, zset_n hr]))
    rw [q1, zset_g]
    by_cases c : (i : Int) = (j : Int)
    · rw [if_pos c, show i = j by omega]
    · rw [if_neg c]; exact e i (by omega) i2
theorem q_cr37 {d m : Nat} {σ st : zH} {o : Int} {L : List Int} (w : WS σ) (wt : WT σ st) (hl : L.length = m) (hm : 1 ≤ m ∧ m ≤ 3) (hL : ∀ j : Nat, j < L.length → 0 ≤ L.getD j 0 ∧ L.getD j 0 < nS σ) : ∀ (i : Nat) {n : Nat} {B : Option (Nat × List Nat)} {h : zH}, n + i = 10 ^ m → RCc σ st L h → RBH m B h → BestR σ o L st m n B → zWp (l_R_crews_37 (d + 5) o ((10 ^ m : Nat) : Int) n h) (fun v h' => ∃ B', v = .inl (match B' with | none => 0 | some _ => 1) ∧ RBH m B' h' ∧ BestR σ o L st m (10 ^ m) B' ∧ frX h h' ∧ GL L h')
  | 0, n, B, h, hn, c, rb, br => by
    rw [el_R_crews_37]
    have en : n = 10 ^ m := by omega
    rw [en] at br
    refine zWp_nt (by omega) ?_
    cases B with
    | none => exact zWp_it rb (zWp_s ⟨none, rfl, rb, br, frX.rf h, c.2.2⟩)
    | some x =>
      have b := (nm_b hm (fun k _ => dg_b (m := m) (n := x.1) (k := k))).2
      refine zWp_nt (by rw [rb.1]; omega) (zWp_s ⟨some x, rfl, rb, br, frX.rf h, c.2.2⟩)
  | i + 1, n, B, h, hn, c, rb, br => by
    have p := p10 hm.2
    rw [el_R_crews_37, c.2.2.1, hl, w32_i (x := (m : Int) - 1) (by omega)]
    refine zWp_it (by omega) ?_
    have st56 := q_cr56 (d := d + 5) (m := m) (n := n) (o := o) (N := ((10 ^ m : Nat) : Int)) (Q := fun v h' => ∃ B', v = .inl (match B' with | none => 0 | some _ => 1) ∧ RBH m B' h' ∧ BestR σ o L st m (10 ^ m) B' ∧ frX h h' ∧ GL L h') hm (by omega) m (h := h) (Nat.le_refl _) (fun i i1 i2 => by omega) (fun h1 s1 s2 => ?_)
    · rw [Nat.sub_self, Nat.pow_zero, Nat.div_one] at st56
      exact st56
    have x1 : frX h h1 := frX.hi (fun q hq => s2 q (by omega))
    have c1 := c.x w x1 (by rw [s2 403 (by decide)]) (s2 457 (by decide))
    have rb1 := rb.fr (h' := h1) (by rw [s2 403 (by decide)]) (s2 460 (by decide)) (s2 461 (by decide))
    have kn : keyM m (dg m n) = 1000 * sm m (dg m n) + n := by
      obtain ⟨j, rfl⟩ : ∃ j, m = j + 1 := ⟨m - 1, by omega⟩
      unfold keyM
      rw [dg_nm j (by omega) n (by omega) (by omega)]
    have kx : ∀ y : Nat, y < 10 ^ m → keyM m (dg m y) = 1000 * sm m (dg m y) + y := fun y hy => by
      obtain ⟨j, rfl⟩ : ∃ j, m = j + 1 := ⟨m - 1, by omega⟩
      unfold keyM
      rw [dg_nm j (by omega) y (by omega) hy]
    have go : ∀ h2 B', RCc σ st L h2 → frX h h2 → RBH m B' h2 → BestR σ o L st m (n + 1) B' → zWp (l_R_crews_37 (d + 5) o ((10 ^ m : Nat) : Int) (w32 ((n : Int) + 1)) h2) (fun v h' => ∃ B', v = .inl (match B' with | none => 0 | some _ => 1) ∧ RBH m B' h' ∧ BestR σ o L st m (10 ^ m) B' ∧ frX h h' ∧ GL L h') := by
      intro h2 B' c2 x2 rb2 br2
      rw [w32_i (x := (n : Int) + 1) (by omega), show (n : Int) + 1 = ((n + 1 : Nat) : Int) from rfl]
      refine zWp_m (q_cr37 w wt hl hm hL i (n := n + 1) (by omega) c2 rb2 br2) (fun v h' u => ?_)
      obtain ⟨B2, u1, u2, u3, u4, u5⟩ := u
      exact ⟨B2, u1, u2, u3, x2.t u4, u5⟩
    have ord : (∀ x, B = some x → sm m (dg m n) < sm m (dg m x.1)) → zWp (zqv (m_R_firstOrder (d + 5) h1) fun h2 => l_R_crews_123 (d + 5) o ((10 ^ m : Nat) : Int) n (sm m (dg m n)) 1 h2) (fun v h' => ∃ B', v = .inl (match B' with | none => 0 | some _ => 1) ∧ RBH m B' h' ∧ BestR σ o L st m (10 ^ m) B' ∧ frX h h' ∧ GL L h') := by
      intro hlt
      rw [em_R_firstOrder]
      refine zWp_bv (q_R_first2 (d := d + 4) (k := (m : Int)) (by omega) m (i := 0) (by rw [c1.2.2.1, hl]) (by decide) (by omega) (fun j j1 j2 => by omega)) (fun _ h3 u3 => ?_)
      obtain ⟨f3, o3⟩ := u3
      have x3 : frX h1 h3 := frX.hi (fun q hq => o3 q (by omega))
      have c3 := c1.x w x3 (by rw [o3 403 (by decide)]) (o3 457 (by decide))
      obtain ⟨j, hj⟩ : ∃ j, m = j + 1 := ⟨m - 1, by omega⟩
      have hc := lex_chn j (by omega)
      have ha := lex_ok j (by omega)
      have hd := lex_hd j (by omega)
      rw [← hj] at hc ha hd
      have ol3 : OL (List.range m) h3 := by
        refine ⟨by rw [c3.2.2.1, hl, List.length_range], fun i hi => ?_⟩
        rw [List.length_range] at hi
        rw [f3 i (by omega) (by omega), List.getD_eq_getElem?_getD, List.getElem?_range hi]
        rfl
      have fE : fndC σ o L st m n = (lexL m (List.range m)).find? (fun P => okR σ o L (dg m n) P st) := rfl
      generalize hA : lexL m (List.range m) = A at *
      cases A with
      | nil => cases hd
      | cons P r =>
        have eP : P = List.range m := Option.some.inj hd
        rw [← eP] at ol3
        refine q_cr123 (d := d) (n := n) w wt hl hm hL r hc ha c3 ol3 (fun k hk => by rw [o3 458 (by decide)]; exact s1 k hk) (rb1.fr (by rw [o3 403 (by decide)]) (o3 460 (by decide)) (o3 461 (by decide))) (fun h4 t1 t2 t3 => go h4 _ t1 ((x1.t x3).t t2) t3 ?_)
        rw [← fE]
        cases hf : fndC σ o L st m n with
        | none =>
          show BestR σ o L st m (n + 1) B
          cases B with
          | none =>
            intro y hy
            by_cases z : y = n
            · rw [z]; exact hf
            · exact br y (by omega)
          | some x =>
            refine ⟨by have := br.1; omega, br.2.1, fun y hy hne => ?_⟩
            by_cases z : y = n
            · rw [z] at hne; exact absurd hf hne
            · exact br.2.2 y (by omega) hne
        | some Q =>
          show BestR σ o L st m (n + 1) (some (n, Q))
          refine ⟨Nat.lt_succ_self n, hf, fun y hy hne => ?_⟩
          show keyM m (dg m n) ≤ keyM m (dg m y)
          by_cases z : y = n
          · rw [z]; exact Int.le_refl _
          · cases B with
            | none => exact absurd (br y (by omega)) hne
            | some x =>
              have k1 := br.2.2 y (by omega) hne
              have k2 := hlt x rfl
              have k3 := br.1
              rw [kx x.1 (by omega)] at k1
              rw [kn]
              omega
    rw [el_R_crews_56]
    refine zWp_it (by decide) ?_
    cases B with
    | none => exact zWp_it rb1 (ord (fun x hx => by cases hx))
    | some x =>
      have b := (nm_b hm (fun k _ => dg_b (m := m) (n := x.1) (k := k))).2
      rw [rb1.1]
      refine zWp_nt (by omega) (zWp_if (fun z => ord (fun y hy => by cases hy; exact z)) (fun z => go h1 (some x) c1 x1 rb1 ⟨by have := br.1; omega, br.2.1, fun y hy hne => ?_⟩))
      by_cases q : y = n
      · rw [q, kn, kx x.1 (by have := br.1; omega)]
        have := br.1
        omega
      · exact br.2.2 y (by omega) hne
theorem q_R_crew {d : Nat} {σ st : zH} {x o k : Int} {h : zH} (b : RC σ st h) (hx : zI32 x) : zWp (m_R_crew (d + 9) x o k h) (fun v h' => v = .inl (vCre σ st x o k) ∧ frX h h') := by
  have w := b.2.2.1
  have wt := b.2.2.2
  have hS0 : 0 ≤ nS σ := w.2.1.2.2.1
  unfold vCre
  rw [em_R_crew]
  refine zWp_qi (q_R_isOwner b.1) ?_
  by_cases c2 : 0 ≤ o ∧ o < nO σ
  case neg =>
    rw [if_neg c2, if_neg c2]
    refine zWp_it rfl (zWp_s ⟨?_, frX.rf h⟩)
    split <;> rfl
  rw [if_pos c2, if_pos c2]
  refine zWp_nt (by decide) ?_
  obtain ⟨v1, h1, e1, rfl, f1, g1⟩ := q_R_gathers (d := d + 7) (m := 3) b hx (by decide)
  refine zWp_qi e1 ?_
  by_cases c1 : LyP σ st x 3
  case neg => rw [if_neg c1, if_neg c1]; exact zWp_it rfl (zWp_s ⟨rfl, f1.x⟩)
  rw [if_pos c1, if_pos c1]
  refine zWp_nt (by decide) ?_
  have gl := g1 c1
  have ok := okS_of (σ := σ) (by decide) hS0 c1
  have b1 := RC_g b f1
  have len := nmL_len (x := x) (nS σ).toNat 0
  have l3 := c1.2.1.2
  generalize hL : nmL x (nS σ).toNat 0 = L at *
  have hm : 1 ≤ L.length ∧ L.length ≤ 3 := ⟨ok.1, by omega⟩
  have p := p10 hm.2
  have out : ¬ (k = -1 ∨ 0 ≤ k ∧ k < L.length ∨ 10 ≤ k ∧ k < 10 + L.length) → (match bzC σ st o L with | none => (-1 : Int) | some Z => if k = -1 then sm L.length (lk Z) else if 0 ≤ k ∧ k < L.length then lk Z k.toNat else if 10 ≤ k ∧ k < 10 + L.length then L.getD (Z.getD (k.toNat - 10) (0, 0)).1 0 else -1) = -1 := by
    intro hk
    cases hB : bzC σ st o L with
    | none => rfl
    | some Z =>
      show (if k = -1 then sm L.length (lk Z) else if 0 ≤ k ∧ k < L.length then lk Z k.toNat else if 10 ≤ k ∧ k < 10 + L.length then L.getD (Z.getD (k.toNat - 10) (0, 0)).1 0 else -1) = -1
      rw [if_neg (by omega), if_neg (by omega), if_neg (by omega)]
  have l56 : (k = -1 ∨ 0 ≤ k ∧ k < L.length ∨ 10 ≤ k ∧ k < 10 + L.length) → zWp (l_R_crew_56 (d + 8) o k h1) (fun v h' => v = .inl (match bzC σ st o L with | none => -1 | some Z => if k = -1 then sm L.length (lk Z) else if 0 ≤ k ∧ k < L.length then lk Z k.toNat else if 10 ≤ k ∧ k < 10 + L.length then L.getD (Z.getD (k.toNat - 10) (0, 0)).1 0 else -1) ∧ frX h h') := by
    intro hk
    rw [el_R_crew_56, em_R_crews]
    have run : zWp (zlt (zset h1 403 87 (-1)) fun h2 => if h2 403 86 = 1 then l_R_crews_37 (d + 7) o 10 0 h2 else if h2 403 86 = 2 then l_R_crews_37 (d + 7) o 100 0 h2 else l_R_crews_37 (d + 7) o 1000 0 h2) (fun v h' => ∃ B', v = .inl (match B' with | none => 0 | some _ => 1) ∧ RBH L.length B' h' ∧ BestR σ o L st L.length (10 ^ L.length) B' ∧ frX h1 h' ∧ GL L h') := by
      refine zWp_lt fun h2 q2 => ?_
      have x2 : frX h1 h2 := by rw [q2]; exact frX.sl (by decide)
      have c2' : RCc σ st L h2 := RCc.x w ⟨b1.1, b1.2.1, gl⟩ x2 (by rw [q2, zset_j (by decide)]) (by rw [q2, zset_n (by decide)])
      have lp := q_cr37 (d := d + 2) (σ := σ) (st := st) (o := o) w wt rfl hm ok.2.2 (10 ^ L.length) (n := 0) (B := none) (h := h2) (by omega) c2' (by show h2 403 87 = -1; rw [q2, zset_e]) (fun n hn => by omega)
      have lp' := zWp_m lp (fun v h' u => show ∃ B', v = .inl (match B' with | none => 0 | some _ => 1) ∧ RBH L.length B' h' ∧ BestR σ o L st L.length (10 ^ L.length) B' ∧ frX h1 h' ∧ GL L h' from by
        obtain ⟨B', u1, u2, u3, u4, u5⟩ := u
        exact ⟨B', u1, u2, u3, x2.t u4, u5⟩)
      rw [c2'.2.2.1]
      rcases m3 hm with e | e | e
      · rw [e] at lp' ⊢
        exact zWp_it rfl lp'
      · rw [e] at lp' ⊢
        exact zWp_nt (by decide) (zWp_it rfl lp')
      · rw [e] at lp' ⊢
        exact zWp_nt (by decide) (zWp_nt (by decide) lp')
    obtain ⟨v3, h3, e3, B, rfl, rb, br, x3, gl3⟩ := run
    refine zWp_qi e3 ?_
    have ce := crew_eq (σ := σ) w (o := o) (L := L) (st := st) rfl hm ok.2.2 br
    have ce' : bzC σ st o L = B.map (fun x => x.2.map (fun p => (p, dg L.length x.1 p))) := ce
    rw [ce']
    cases B with
    | none => exact zWp_it rfl (zWp_s ⟨rfl, f1.x.t x3⟩)
    | some y =>
      obtain ⟨n, P⟩ := y
      obtain ⟨r1, r2, r3⟩ := rb
      have hPA : P ∈ lexL L.length (List.range L.length) := List.mem_of_find?_eq_some br.2.1
      obtain ⟨p1, p2, p3⟩ := lex3_of hm hPA
      have pl : P.length = L.length := by
        obtain ⟨j, hj⟩ : ∃ j, L.length = j + 1 := ⟨L.length - 1, by omega⟩
        have := lex_ok j (by omega)
        rw [← hj] at this
        exact (okO_of (List.all_eq_true.1 this P hPA)).1
      have kl : ∀ j, j < L.length → lk (P.map (fun p => (p, dg L.length n p))) j = dg L.length n j := fun j hj => lk_map P (p2 j hj)
      refine zWp_nt (show ¬ (1 : Int) = 0 by decide) ?_
      show zWp _ (fun v h' => v = .inl (if k = -1 then sm L.length (lk (P.map (fun p => (p, dg L.length n p)))) else if 0 ≤ k ∧ k < L.length then lk (P.map (fun p => (p, dg L.length n p))) k.toNat else if 10 ≤ k ∧ k < 10 + L.length then L.getD ((P.map (fun p => (p, dg L.length n p))).getD (k.toNat - 10) (0, 0)).1 0 else -1) ∧ frX h h')
      by_cases k1 : k = -1
      · refine zWp_it k1 (zWp_s ⟨?_, f1.x.t x3⟩)
        rw [if_pos k1, r1, show sm L.length (lk (P.map (fun p => (p, dg L.length n p)))) = sm L.length (dg L.length n) from smA_cg L.length 0 (fun j _ hj => kl j (by omega))]
      refine zWp_nt k1 ?_
      rw [if_neg k1]
      by_cases k2 : k < 10
      · obtain ⟨j, hj⟩ := Int.eq_ofNat_of_zero_le (show 0 ≤ k by omega)
        refine zWp_it k2 (zWp_it (by omega) (zWp_s ⟨?_, f1.x.t x3⟩))
        rw [if_pos (show 0 ≤ k ∧ k < (L.length : Int) by omega), hj, r2 j (by omega), Int.toNat_natCast, kl j (by omega)]
      · obtain ⟨j, hj⟩ := Int.eq_ofNat_of_zero_le (show 0 ≤ k - 10 by omega)
        have pj : P.getD j 0 < L.length := p3 _ (by rw [List.getD_eq_getElem?_getD, List.getElem?_eq_getElem (by omega)]; exact List.getElem_mem _)
        have r3' : h3 461 (j : Int) = ((P.getD j 0 : Nat) : Int) := r3 j (by omega)
        have eM : (P.map (fun p => (p, dg L.length n p))).getD j (0, 0) = (P.getD j 0, dg L.length n (P.getD j 0)) := by
          rw [List.getD_eq_getElem?_getD, List.getElem?_map, List.getElem?_eq_getElem (show j < P.length by omega), List.getD_eq_getElem?_getD, List.getElem?_eq_getElem (show j < P.length by omega)]
          rfl
        rw [w32_i (x := k - 10) (by omega), hj, r3', gl3.at pj]
        refine zWp_nt k2 (zWp_it (by omega) (zWp_it (by omega) (zWp_s ⟨?_, f1.x.t x3⟩)))
        rw [if_neg (show ¬ (0 ≤ k ∧ k < (L.length : Int)) by omega), if_pos (show 10 ≤ k ∧ k < 10 + (L.length : Int) by omega), show k.toNat - 10 = j by omega, eM]
  by_cases k1 : k = -1
  · exact zWp_it k1 (l56 (Or.inl k1))
  refine zWp_nt k1 ?_
  rw [gl.1, w32_i (x := (L.length : Int) - 1) (by omega)]
  refine zWp_qi q_R_is ?_
  by_cases k2 : 0 ≤ k ∧ k < (L.length : Int)
  · rw [if_pos (show 0 ≤ k ∧ k ≤ (L.length : Int) - 1 by omega)]
    exact zWp_nt (by decide) (l56 (Or.inr (Or.inl k2)))
  rw [if_neg (show ¬ (0 ≤ k ∧ k ≤ (L.length : Int) - 1) by omega)]
  refine zWp_it rfl ?_
  rw [gl.1, w32_i (x := 9 + (L.length : Int)) (by omega)]
  refine zWp_qi q_R_is ?_
  by_cases k3 : 10 ≤ k ∧ k < 10 + (L.length : Int)
  · rw [if_pos (show 10 ≤ k ∧ k ≤ 9 + (L.length : Int) by omega)]
    exact zWp_nt (by decide) (l56 (Or.inr (Or.inr k3)))
  · rw [if_neg (show ¬ (10 ≤ k ∧ k ≤ 9 + (L.length : Int)) by omega)]
    refine zWp_it rfl (zWp_s ⟨?_, f1.x⟩)
    rw [out (by omega)]
theorem a_crew {d : Nat} {x o k : Int} {h : zH} (i : INV h) (hx : zI32 x) : Alike (m_B_crew (d + 14) x o k h) (m_R_crew (d + 14) x o k) := by
  obtain ⟨σ, st, D, K, Λ, G, c, r, wk, wg⟩ := i
  exact alike_x c r wk wg (q_crew c hx) (fun h' r' => q_R_crew (d := d + 5) r'.1 hx)
