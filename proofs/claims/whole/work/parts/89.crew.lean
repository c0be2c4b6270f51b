/-! crew: the class -/
def KC (σ : zH) (a o : Int) (L : List Int) (h : zH) : Prop := h 343 7 = a ∧ h 343 8 = o ∧ h 343 9 = L.length ∧ CS σ a h ∧ (∀ j : Nat, j < L.length → h 348 (j : Int) = L.getD j 0) ∧ ∀ i, 0 ≤ i → i < 3 → h 347 i = 353 + 8 * i
def frC9 (k : Int) (h h' : zH) : Prop := (∀ r, ¬ (343 ≤ r ∧ r < 347 ∨ 349 ≤ r ∧ r < 353 ∨ 353 + 8 * k ≤ r ∧ r < 377) → h' r = h r) ∧ ∀ q, ¬ q = 10 → h' 343 q = h 343 q
theorem frC9.rf {k : Int} (h : zH) : frC9 k h h := ⟨fun _ _ => rfl, fun _ _ => rfl⟩
theorem frC9.t {k j : Int} {a b c : zH} (hj : k ≤ j) (h1 : frC9 k a b) (h2 : frC9 j b c) : frC9 k a c := ⟨fun r hr => (h2.1 r (by omega)).trans (h1.1 r hr), fun q hq => (h2.2 q hq).trans (h1.2 q hq)⟩
theorem KC.fr {σ : zH} {a o : Int} {L : List Int} {k : Int} {h h' : zH} (c : KC σ a o L h) (hk : 0 ≤ k) (f : frC9 k h h') : KC σ a o L h' := by
  obtain ⟨c1, c2, c3, c4, c5, c6⟩ := c
  have ha := c4.a
  exact ⟨by rw [f.2 7 (by decide)]; exact c1, by rw [f.2 8 (by decide)]; exact c2, by rw [f.2 9 (by decide)]; exact c3, c4.fr (fun r r1 r2 => f.1 r (by omega)), fun j hj => by rw [f.1 348 (by omega)]; exact c5 j hj, fun i i1 i2 => by rw [f.1 347 (by omega)]; exact c6 i i1 i2⟩
def BH (m : Nat) (B : Option zZ) (h : zH) : Prop := match B with
  | none => h 343 10 = -1
  | some Z => h 343 10 = sm m (lk Z) ∧ (∀ k : Nat, k < m → h 351 (k : Int) = lk Z k) ∧ (∀ (j : Nat) (z : Nat × Int), Z[j]? = some z → h 352 (j : Int) = z.1) ∧ digs m (lk Z)
theorem BH.fr {m : Nat} {B : Option zZ} {h h' : zH} (b : BH m B h) (h1 : h' 343 10 = h 343 10) (h2 : h' 351 = h 351) (h3 : h' 352 = h 352) : BH m B h' := by
  cases B with
  | none => show h' 343 10 = -1; rw [h1]; exact b
  | some Z =>
    obtain ⟨b1, b2, b3, b4⟩ := b
    exact ⟨by rw [h1]; exact b1, fun k hk => by rw [h2]; exact b2 k hk, fun j z hz => by rw [h3]; exact b3 j z hz, b4⟩
def AC (acc : zZ) (h : zH) : Prop := ∀ (j : Nat) (z : Nat × Int), acc[j]? = some z → h 350 (j : Int) = z.1 ∧ h 349 (z.1 : Int) = z.2
/-- which numbers are used already -/
def UsP (m t : Nat) (acc : zZ) : Prop := (∀ z ∈ acc, t.testBit z.1 = true ∧ z.1 < m ∧ 0 ≤ z.2 ∧ z.2 ≤ 9) ∧ ∀ k, k < m → t.testBit k = true → ∃ z ∈ acc, z.1 = k
theorem UsP.add {m t i : Nat} {acc : zZ} {v : Int} (u : UsP m t acc) (hi : i < m) (hv : 0 ≤ v ∧ v ≤ 9) : UsP m (t ||| 2 ^ i) (acc ++ [(i, v)]) := by
  refine ⟨fun z hz => ?_, fun k hk hb => ?_⟩
  · rcases List.mem_append.1 hz with q | q
    · have := u.1 z q
      exact ⟨by rw [Nat.testBit_or, this.1, Bool.true_or], this.2⟩
    · rw [List.mem_singleton.1 q]
      exact ⟨by rw [Nat.testBit_or, Nat.testBit_two_pow_self, Bool.or_true], hi, hv⟩
  · rw [Nat.testBit_or, Bool.or_eq_true] at hb
    rcases hb with q | q
    · obtain ⟨z, hz, e⟩ := u.2 k hk q
      exact ⟨z, List.mem_append.2 (Or.inl hz), e⟩
    · rw [Nat.testBit_two_pow] at q
      have : i = k := of_decide_eq_true q
      exact ⟨(i, v), List.mem_append.2 (Or.inr (List.mem_singleton.2 rfl)), this⟩
theorem AC.add {acc : zZ} {h : zH} {i : Nat} {v : Int} (c : AC acc h) (h1 : h 350 (acc.length : Int) = i) (h2 : h 349 (i : Int) = v) : AC (acc ++ [(i, v)]) h := by
  intro j z hz
  by_cases e : j < acc.length
  · rw [List.getElem?_append_left e] at hz
    exact c j z hz
  · have hlt : j < (acc ++ [(i, v)]).length := (List.getElem?_eq_some_iff.1 hz).1
    rw [List.length_append] at hlt
    have ej : j = acc.length := by
      have : j < acc.length + 1 := hlt
      omega
    rw [ej, List.getElem?_append_right (Nat.le_refl _), Nat.sub_self] at hz
    have : (i, v) = z := Option.some.inj hz
    rw [← this, ej]
    exact ⟨h1, h2⟩
theorem AC.low {acc : zZ} {h : zH} {i : Nat} {v : Int} (c : AC (acc ++ [(i, v)]) h) : AC acc h := fun j z hz => c j z (by rw [List.getElem?_append_left (List.getElem?_eq_some_iff.1 hz).1]; exact hz)
theorem AC.men {acc : zZ} {h : zH} (c : AC acc h) {k : Nat} (hk : ∃ z ∈ acc, z.1 = k) : h 349 (k : Int) = lk acc k := by
  obtain ⟨j, hj, e⟩ := List.mem_iff_getElem.1 (lk_mem acc hk)
  have := (c j (k, lk acc k) (by rw [List.getElem?_eq_getElem hj, e])).2
  exact this
theorem q_few2 {d m : Nat} {acc Z : zZ} {h : zH} (h6 : (m : Int) ≤ 3) (e9 : h 343 9 = m) (c1 : ∀ k : Nat, k < m → h 349 (k : Int) = lk acc k) (c2 : ∀ k : Nat, k < m → h 351 (k : Int) = lk Z k) : ∀ (n : Nat) {k : Nat}, k + n = m → l_CrewSearch_isFewerFirst_2 d 343 k h = some (.inl (if fwB (lk acc) (lk Z) n k = true then 1 else 0), h)
  | 0, k, hk => by rw [el_CrewSearch_isFewerFirst_2, zpo_t (by decide), e9, zit_f (by omega)]; rfl
  | n + 1, k, hk => by
    rw [el_CrewSearch_isFewerFirst_2, zpo_t (by decide), e9, zit_t (by omega), zpo_t (by decide), zpo_t (by decide), zit_t (by omega), zpo_t (by decide), zpo_t (by decide), zit_t (by omega), show (343 + 6 : Int) = 349 from rfl, show (343 + 8 : Int) = 351 from rfl, c1 k (by omega), c2 k (by omega), fwB, w32_i (x := (k : Int) + 1) (by omega)]
    by_cases c : lk acc k = lk Z k
    · rw [zit_t c, if_pos c, show (k : Int) + 1 = ((k + 1 : Nat) : Int) from rfl]
      exact q_few2 h6 e9 c1 c2 n (by omega)
    · rw [zit_f c, if_neg c, zpo_t (by decide), zpo_t (by decide), zit_t (by omega), zpo_t (by decide), zpo_t (by decide), zit_t (by omega)]
      by_cases c3 : lk acc k < lk Z k
      · rw [zit_t c3, decide_eq_true c3]; rfl
      · rw [zit_f c3, decide_eq_false c3]; rfl
theorem q_judge84 {d m : Nat} {acc : zZ} {h : zH} {x : Int} (hm : m ≤ 3) (hl : acc.length = m) (c : AC acc h) (full : ∀ k, k < m → ∃ z ∈ acc, z.1 = k) (dgs : digs m (lk acc)) (hx : x = sm m (lk acc)) : zWp (l_CrewSearch_judge_84 d 343 x h) (fun _ h' => BH m (some acc) h' ∧ AC acc h' ∧ frC9 3 h h') := by
  rw [el_CrewSearch_judge_84]
  refine zWp_po (by decide) (zWp_lt fun h1 e1 => zWp_po (by decide) (zWp_po (by decide) (zWp_po (by decide) (zWp_po (by decide) (zWp_it (by decide) (zWp_lt fun h2 e2 => zWp_po (by decide) (zWp_po (by decide) (zWp_po (by decide) (zWp_po (by decide) (zWp_it (by decide) (zWp_lt fun h3 e3 => zWp_s ?_)))))))))))
  have e2' : h2 = zcpy h1 351 0 349 0 3 := e2
  have e3' : h3 = zcpy h2 352 0 350 0 3 := e3
  have o : ∀ r i, ¬ (r = 343 ∨ r = 351 ∨ r = 352) → h3 r i = h r i := fun r i hr => by rw [e3', zcpy_o (by omega), e2', zcpy_o (by omega), e1, zset_o (by omega)]
  refine ⟨⟨?_, fun k hk => ?_, fun j z hz => ?_, dgs⟩, fun j z hz => ?_, fun r hr => ?_, fun q hq => ?_⟩
  · rw [e3', zcpy_o (by decide), e2', zcpy_o (by decide), e1, zset_e, hx]
  · rw [e3', zcpy_o (by decide), e2', zcpy_i (by omega), show 0 + ((k : Int) - 0) = k by omega, e1, zset_o (by decide)]
    exact c.men (full k hk)
  · have hj : j < acc.length := (List.getElem?_eq_some_iff.1 hz).1
    rw [e3', zcpy_i (by omega), show 0 + ((j : Int) - 0) = j by omega, e2', zcpy_o (by decide), e1, zset_o (by decide)]
    exact (c j z hz).1
  · rw [o 350 _ (by decide), o 349 _ (by decide)]
    exact c j z hz
  · funext i; exact o r i (by omega)
  · rw [e3', zcpy_o (by decide), e2', zcpy_o (by decide), e1, zset_j hq]
theorem q_judge4 {d m : Nat} {σ st : zH} {a o T : Int} {L : List Int} {acc : zZ} {B : Option zZ} {h : zH} (w : WS σ) (wt : WT σ st) (ho : 0 ≤ o) (hl : L.length = m) (hm : 1 ≤ m ∧ m ≤ 3) (hL : ∀ j : Nat, j < L.length → 0 ≤ L.getD j 0 ∧ L.getD j 0 < nS σ) (kc : KC σ a o L h) (t : CT σ st T h) (al : acc.length = m) (c : AC acc h) (full : ∀ k, k < m → ∃ z ∈ acc, z.1 = k) (dgs : digs m (lk acc)) (b : BH m B h) : ∀ (n : Nat) {k : Nat} {x : Int}, k + n = m → x + smA (lk acc) n k = sm m (lk acc) → 0 ≤ x ∧ x ≤ 9 * k → zWp (l_CrewSearch_judge_4 (d + 2) 343 T x k h) (fun _ h' => BH m (if (L.drop k).all (fun s => decide (st 1 s ≠ -1 ∧ σ 6 (st 1 s) = o)) = true then bst m B acc else B) h' ∧ AC acc h' ∧ frC9 3 h h')
  | 0, k, x, hk, hs, hx => by
    have hT := t.1.low
    have ek : k = m := by omega
    have ed : L.drop k = [] := by rw [ek, ← hl]; exact List.drop_length
    have hs' : x = sm m (lk acc) := by
      have : x + 0 = sm m (lk acc) := hs
      omega
    rw [el_CrewSearch_judge_4, kc.2.2.1, hl, ed]
    refine zWp_po (by decide) (zWp_nt (by omega) (zWp_po (by decide) ?_))
    show zWp _ (fun _ h' => BH m (if true = true then bst m B acc else B) h' ∧ AC acc h' ∧ frC9 3 h h')
    rw [if_pos rfl]
    cases B with
    | none => exact zWp_it b (q_judge84 hm.2 al c full dgs hs')
    | some Y =>
      obtain ⟨b1, b2, b3, b4⟩ := b
      have ga := nm_b hm dgs
      have gb := nm_b hm b4
      have p := p10 hm.2
      rw [b1]
      refine zWp_nt (by omega) (zWp_po (by decide) ?_)
      show zWp _ (fun _ h' => BH m (if keyM m (lk acc) < keyM m (lk Y) then some acc else some Y) h' ∧ AC acc h' ∧ frC9 3 h h')
      by_cases s1 : x < sm m (lk Y)
      · refine zWp_it s1 ?_
        rw [if_pos (by unfold keyM; omega)]
        exact q_judge84 hm.2 al c full dgs hs'
      refine zWp_nt s1 (zWp_po (by decide) ?_)
      by_cases s2 : x = sm m (lk Y)
      · refine zWp_it s2 (zWp_po (by decide) ?_)
        rw [em_CrewSearch_isFewerFirst, show (0 : Int) = ((0 : Nat) : Int) from rfl, q_few2 (m := m) (acc := acc) (Z := Y) (by omega) (by rw [kc.2.2.1, hl]) (fun k hk => c.men (full k hk)) b2 m (by omega), zqi_s]
        have fi := fw_iff hm dgs b4
        by_cases s3 : fwB (lk acc) (lk Y) m 0 = true
        · refine zWp_nt (by rw [if_pos s3]; decide) ?_
          rw [if_pos (by have := fi.1 s3; unfold keyM; omega)]
          exact q_judge84 hm.2 al c full dgs hs'
        · refine zWp_it (by rw [if_neg s3]; rfl) (zWp_s ⟨?_, c, frC9.rf h⟩)
          rw [if_neg (fun z => s3 (fi.2 (by unfold keyM at z; omega)))]
          exact ⟨b1, b2, b3, b4⟩
      · refine zWp_nt s2 (zWp_s ⟨?_, c, frC9.rf h⟩)
        rw [if_neg (by unfold keyM; omega)]
        exact ⟨b1, b2, b3, b4⟩
  | n + 1, k, x, hk, hs, hx => by
    have hT := t.1.low
    have ha := kc.2.2.2.1.a
    have hS10 : nS σ ≤ 10 := w.2.1.2.2.2.1
    have pL := hL k (by omega)
    have e5 : h 348 (k : Int) = L.getD k 0 := kc.2.2.2.2.1 k (by omega)
    have ep : h (T + 1) (L.getD k 0) = st 1 (L.getD k 0) := t.pl (by omega)
    have ed : L.drop k = L.getD k 0 :: L.drop (k + 1) := by
      rw [List.getD_eq_getElem?_getD, List.getElem?_eq_getElem (by omega)]
      exact (List.drop_eq_getElem_cons (by omega))
    have dk := dgs k (by omega)
    have hs' : x + (lk acc k + smA (lk acc) n (k + 1)) = sm m (lk acc) := hs
    rw [el_CrewSearch_judge_4, kc.2.2.1, hl, show (343 + 5 : Int) = 348 from rfl, e5, ep, kc.1, ed]
    refine zWp_po (by decide) (zWp_it (by omega) (zWp_po (by decide) (zWp_po (by omega) (zWp_po (by decide) (zWp_po (by decide) (zWp_it (by omega) (zWp_po (by omega) (zWp_it (by omega) (zWp_po (by omega) (zWp_qi (q_ownerOf kc.2.2.2.1 w) (zWp_po (by decide) ?_)))))))))))
    rw [kc.2.1]
    by_cases q : st 1 (L.getD k 0) ≠ -1 ∧ σ 6 (st 1 (L.getD k 0)) = o
    · refine zWp_it ((own_on wt pL ho).2 q) (zWp_po (by decide) (zWp_po (by decide) (zWp_it (by omega) ?_)))
      rw [show (343 + 6 : Int) = 349 from rfl, c.men (full k (by omega)), w32_i (x := x + lk acc k) (by omega), w32_i (x := (k : Int) + 1) (by omega), List.all_cons, decide_eq_true q, Bool.true_and, show (k : Int) + 1 = ((k + 1 : Nat) : Int) from rfl]
      exact q_judge4 w wt ho hl hm hL kc t al c full dgs b n (by omega) (by omega) (by omega)
    · refine zWp_nt (fun z => q ((own_on wt pL ho).1 z)) (zWp_s ⟨?_, c, frC9.rf h⟩)
      rw [List.all_cons, decide_eq_false q, Bool.false_and, if_neg Bool.false_ne_true]
      exact b
abbrev lvF (σ : zH) (o : Int) (L : List Int) (n : Nat) (U : List Nat) (st : zH) (i : Nat) : List zZ := (lvs σ o L n (U.erase i) st).map (fun Z => (i, (0 : Int)) :: Z) ++ (if 1 ≤ fewA σ st (L.getD i 0) ∧ fewA σ st (L.getD i 0) ≤ 9 then (lvs σ o L n (U.erase i) (drv σ st (L.getD i 0) (10 * fewA σ st (L.getD i 0))).1).map (fun Z => (i, fewA σ st (L.getD i 0)) :: Z) else [])
theorem ma344 : MA 344 := Or.inr (Or.inr rfl)
theorem map_acc {acc : zZ} {i : Nat} {v : Int} {A : List zZ} : (A.map (fun Z => (i, v) :: Z)).map (fun Z => acc ++ Z) = A.map (fun Z => (acc ++ [(i, v)]) ++ Z) := by
  rw [List.map_map]
  refine List.map_congr_left (fun Z _ => ?_)
  show acc ++ (i, v) :: Z = acc ++ [(i, v)] ++ Z
  rw [List.append_assoc]
  rfl
/-- what the search does from a state on -/
def PlP (σ : zH) (a o : Int) (L : List Int) (m e n : Nat) : Prop := ∀ (T : Int) (st : zH) (acc : zZ) (t : Nat) (B : Option zZ) (h : zH), acc.length + n = m → t < 2 ^ m → zer m t = n → UsP m t acc → KC σ a o L h → CT σ st T h → WT σ st → (T + 8 ≤ 328 ∨ 353 ≤ T ∧ T + 8 ≤ 353 + 8 * (acc.length : Int)) → AC acc h → BH m B h → zWp (m_CrewSearch_place e 343 T (acc.length : Int) (t : Int) h) (fun _ h' => BH m (((lvs σ o L n (un t m 0) st).map (fun Z => acc ++ Z)).foldl (bst m) B) h' ∧ AC acc h' ∧ frC9 acc.length h h')
theorem q_lever {σ : zH} {a o : Int} {L : List Int} {m n e : Nat} (w : WS σ) (hl : L.length = m) (hm : 1 ≤ m ∧ m ≤ 3) (hL : ∀ j : Nat, j < L.length → 0 ≤ L.getD j 0 ∧ L.getD j 0 < nS σ) (ih : PlP σ a o L m (e + 5) n) {T : Int} {st : zH} {acc : zZ} {t i : Nat} {B : Option zZ} {h : zH} (al : acc.length + (n + 1) = m) (ht : t < 2 ^ m) (hz : zer m t = n + 1) (us : UsP m t acc) (kc : KC σ a o L h) (ct : CT σ st T h) (wt : WT σ st) (hT : T + 8 ≤ 328 ∨ 353 ≤ T ∧ T + 8 ≤ 353 + 8 * (acc.length : Int)) (ac : AC acc h) (bh : BH m B h) (hi : i < m) (hb : t.testBit i = false) (e350 : h 350 (acc.length : Int) = i) : zWp (m_CrewSearch_leverOrLeave (e + 6) 343 T (acc.length : Int) ((t ||| 2 ^ i : Nat) : Int) h) (fun _ h' => BH m (((lvF σ o L n (un t m 0) st i).map (fun Z => acc ++ Z)).foldl (bst m) B) h' ∧ AC acc h' ∧ frC9 acc.length h h') := by
  have hTl := ct.1.low
  have h64 : 2 ^ m ≤ 2 ^ 3 := Nat.pow_le_pow_right (by decide) hm.2
  obtain ⟨u1, u2, u3, u4⟩ := un_e m (by omega) t (by omega) i (by omega) hi ht hb
  have pL := hL i (by omega)
  have niacc : ∀ z ∈ acc, ¬ z.1 = i := fun z hz e => by
    have := (us.1 z hz).1
    rw [e, hb] at this
    cases this
  rw [em_CrewSearch_leverOrLeave, show (343 + 7 : Int) = 350 from rfl, show (343 + 6 : Int) = 349 from rfl, show (343 + 5 : Int) = 348 from rfl, show (343 + 4 : Int) = 347 from rfl, show (343 + 1 : Int) = 344 from rfl, e350]
  refine zWp_po (by decide) (zWp_po (by decide) (zWp_it (by omega) (zWp_po (by decide) (zWp_po (by decide) (zWp_it (by omega) (zWp_lt fun h1 e1 => zWp_po (by decide) ?_))))))
  have f1 : frC9 acc.length h h1 := ⟨fun r hr => by rw [e1, zset_n (by omega)], fun q hq => by rw [e1, zset_o (by decide)]⟩
  have keepA : ∀ (h' h'' : zH) (v : Int), AC acc h' → h'' 350 = h' 350 → (∀ q, ¬ q = (i : Int) → h'' 349 q = h' 349 q) → AC acc h'' := by
    intro h' h'' v c' k1 k2 j z hz
    have := c' j z hz
    have ni := niacc z (List.mem_iff_getElem?.2 ⟨j, hz⟩)
    rw [k1, k2 _ (by omega)]
    exact this
  have ac1 : AC (acc ++ [(i, 0)]) h1 := AC.add (keepA h h1 0 ac (by rw [e1, zset_n (by decide)]) (fun q hq => by rw [e1, zset_j hq])) (by rw [e1, zset_o (by decide)]; exact e350) (by rw [e1, zset_e])
  have kc1 := kc.fr (by omega) f1
  have ct1 : CT σ st T h1 := ct.fr (fun r r1 r2 => f1.1 r (by omega))
  have bh1 : BH m B h1 := bh.fr (by rw [e1, zset_o (by decide)]) (by rw [e1, zset_n (by decide)]) (by rw [e1, zset_n (by decide)])
  have al1 : (acc ++ [(i, (0 : Int))]).length = acc.length + 1 := by rw [List.length_append]; rfl
  rw [w32_i (x := (acc.length : Int) + 1) (by omega)]
  have p1 := ih (T := T) (st := st) (acc := acc ++ [(i, 0)]) (t := t ||| 2 ^ i) (B := B) (h := h1) (by omega) u3 (by omega) (us.add hi (by decide)) kc1 ct1 wt (by rw [al1]; omega) ac1 bh1
  rw [al1, show ((acc.length + 1 : Nat) : Int) = (acc.length : Int) + 1 from rfl, u1] at p1
  refine zWp_bv p1 (fun _ h2 q2 => ?_)
  obtain ⟨b2, a2, f2⟩ := q2
  have f12 := f1.t (by omega) f2
  have kc2 := kc.fr (by omega) f12
  have ct2 : CT σ st T h2 := ct.fr (fun r r1 r2 => f12.1 r (by omega))
  have e5 : h2 348 (i : Int) = L.getD i 0 := kc2.2.2.2.2.1 i (by omega)
  have e47 : h2 347 (acc.length : Int) = 353 + 8 * (acc.length : Int) := kc2.2.2.2.2.2 _ (by omega) (by omega)
  rw [kc2.1, e5]
  refine zWp_po (by decide) (zWp_po (by decide) (zWp_po (by decide) (zWp_it (by omega) (zWp_po (by omega) (zWp_qi (q_fewest (d := e + 1) kc2.2.2.2.1 w ct2 wt pL) (zWp_po (by decide) (zWp_po (by decide) (zWp_it (by omega) ?_))))))))
  rw [e47]
  refine zWp_nt (by omega) (zWp_qi q_between ?_)
  rw [List.map_append, List.foldl_append, map_acc]
  by_cases c : 1 ≤ fewA σ st (L.getD i 0) ∧ fewA σ st (L.getD i 0) ≤ 9
  case neg =>
    rw [if_neg c, if_neg c]
    exact zWp_it rfl (zWp_s ⟨b2, a2.low, f12⟩)
  rw [if_pos c, if_pos c, map_acc]
  refine zWp_nt (by decide) (zWp_po (by decide) (zWp_po (by decide) (zWp_it (by omega) (zWp_lt fun h3 e3 => zWp_po (by decide) (zWp_po (by decide) (zWp_it (by omega) (zWp_lt fun h4 e4 => zWp_po (by omega) ?_)))))))
  have f24 : frC9 acc.length h2 h4 := ⟨fun r hr => by rw [e4, zset_n (by omega), e3, zset_n (by omega)], fun q hq => by rw [e4, zset_o (by decide), e3, zset_o (by decide)]⟩
  have f14 := f12.t (Int.le_refl _) f24
  have sU : SA (353 + 8 * (acc.length : Int)) := by unfold SA; omega
  have ct4 : CT σ st T h4 := ct.fr (fun r r1 r2 => f14.1 r (by omega))
  refine zWp_bv (q_copyT (d := e + 4) w sU (by omega) ct4) (fun _ h5 q5 => ?_)
  obtain ⟨ct5, _, f5⟩ := q5
  have f45 : frC9 acc.length h4 h5 := ⟨fun r hr => f5 r (by omega), fun q hq => by rw [f5 343 (by omega)]⟩
  have f15 := f14.t (Int.le_refl _) f45
  have kc5 := kc.fr (by omega) f15
  have e55 : h5 348 (i : Int) = L.getD i 0 := kc5.2.2.2.2.1 i (by omega)
  rw [kc5.1, e55, w32_i (x := 10 * fewA σ st (L.getD i 0)) (by omega)]
  refine zWp_po (by decide) (zWp_po (by decide) (zWp_po (by decide) (zWp_po (by decide) (zWp_it (by omega) (zWp_po (by decide) (zWp_bv (q_pushOne (d := e) w ma344 kc5.2.2.2.1 ct5 wt pL (by omega)) (fun _ h6 q6 => zWp_po (by decide) ?_)))))))
  obtain ⟨pi, f6⟩ := q6
  have f56 : frC9 acc.length h5 h6 := ⟨fun r hr => f6 r (by omega), fun q hq => by rw [f6 343 (by omega)]⟩
  have f16 := f15.t (Int.le_refl _) f56
  have kc6 := kc.fr (by omega) f16
  have r350 : h6 350 = h4 350 := by rw [f6 350 (by omega), f5 350 (by omega)]
  have r349 : h6 349 = h4 349 := by rw [f6 349 (by omega), f5 349 (by omega)]
  have r351 : h6 351 = h2 351 := by rw [f6 351 (by omega), f5 351 (by omega), e4, zset_n (by decide), e3, zset_n (by decide)]
  have r352 : h6 352 = h2 352 := by rw [f6 352 (by omega), f5 352 (by omega), e4, zset_n (by decide), e3, zset_n (by decide)]
  have r343 : h6 343 10 = h2 343 10 := by rw [f6 343 (by omega), f5 343 (by omega), e4, zset_o (by decide), e3, zset_o (by decide)]
  have ac6 : AC (acc ++ [(i, fewA σ st (L.getD i 0))]) h6 := by
    refine AC.add ?_ ?_ ?_
    · intro j z hz
      have := a2.low j z hz
      have ni := niacc z (List.mem_iff_getElem?.2 ⟨j, hz⟩)
      have hj : j < acc.length := (List.getElem?_eq_some_iff.1 hz).1
      rw [r350, r349, e4, zset_o (by decide), zset_j (by omega), e3, zset_j (by omega), zset_o (by decide)]
      exact this
    · rw [r350, e4, zset_o (by decide), e3, zset_e]
    · rw [r349, e4, zset_e]
  have al6 : (acc ++ [(i, fewA σ st (L.getD i 0))]).length = acc.length + 1 := by rw [List.length_append]; rfl
  have p6 := ih (T := 353 + 8 * (acc.length : Int)) (st := (drv σ st (L.getD i 0) (10 * fewA σ st (L.getD i 0))).1) (acc := acc ++ [(i, fewA σ st (L.getD i 0))]) (t := t ||| 2 ^ i) (B := _) (h := h6) (by omega) u3 (by omega) (us.add hi (by omega)) kc6 pi.2.1 pi.2.2.1 (by rw [al6]; omega) ac6 (b2.fr r343 r351 r352)
  rw [al6, show ((acc.length + 1 : Nat) : Int) = (acc.length : Int) + 1 from rfl, u1] at p6
  refine zWp_bv p6 (fun _ h7 q7 => zWp_s ?_)
  obtain ⟨b7, a7, f7⟩ := q7
  exact ⟨b7, a7.low, f16.t (by omega) f7⟩
theorem q_place {σ : zH} {a o : Int} {L : List Int} {m : Nat} (w : WS σ) (ho : 0 ≤ o) (hl : L.length = m) (hm : 1 ≤ m ∧ m ≤ 3) (hL : ∀ j : Nat, j < L.length → 0 ≤ L.getD j 0 ∧ L.getD j 0 < nS σ) : ∀ (n d : Nat), PlP σ a o L m (d + 2 * n + 5) n
  | 0, d => by
    intro T st acc t B h al ht hz us kc ct wt hT ac bh
    have h64 : 2 ^ m ≤ 2 ^ 3 := Nat.pow_le_pow_right (by decide) hm.2
    have et := (zer_0 m (by omega) t (by omega) ht).1 hz
    have full : ∀ k, k < m → ∃ z ∈ acc, z.1 = k := fun k hk => us.2 k hk (by rw [et]; exact all_t m (by omega) k (by omega) hk)
    have dgs : digs m (lk acc) := fun k hk => (us.1 _ (lk_mem acc (full k hk))).2.2
    rw [show d + 2 * 0 + 5 = (d + 4) + 1 by omega, em_CrewSearch_place, kc.2.2.1, hl]
    refine zWp_po (by decide) (zWp_nt (by omega) (zWp_po (by decide) ?_))
    rw [em_CrewSearch_judge]
    refine zWp_bv (q_judge4 (d := d + 1) w wt ho hl hm hL kc ct (by omega) ac full dgs bh m (k := 0) (x := 0) (by omega) (by rw [Int.zero_add]) (by omega)) (fun _ h1 q => zWp_s ⟨?_, q.2.1, ?_⟩)
    · have b := q.1
      rw [List.drop_zero] at b
      show BH m (((match sucB σ o L st with | true => [[]] | false => []).map (fun Z => acc ++ Z)).foldl (bst m) B) h1
      have e : sucB σ o L st = L.all (fun s => decide (st 1 s ≠ -1 ∧ σ 6 (st 1 s) = o)) := rfl
      rw [← e] at b
      cases hs : sucB σ o L st with
      | true =>
        rw [hs, if_pos rfl] at b
        show BH m (bst m B (acc ++ [])) h1
        rw [List.append_nil]
        exact b
      | false =>
        rw [hs, if_neg Bool.false_ne_true] at b
        exact b
    · exact ⟨fun r hr => q.2.2.1 r (by omega), q.2.2.2⟩
  | n + 1, d => by
    intro T st acc t B h al ht hz us kc ct wt hT ac bh
    have h64 : 2 ^ m ≤ 2 ^ 3 := Nat.pow_le_pow_right (by decide) hm.2
    have ih := q_place (σ := σ) (a := a) w ho hl hm hL n d
    rw [show d + 2 * (n + 1) + 5 = (d + 2 * n + 6) + 1 by omega, em_CrewSearch_place, kc.2.2.1, hl]
    refine zWp_po (by decide) (zWp_it (by omega) (zWp_it (by omega) ?_))
    have lp : ∀ (k : Nat) {i : Nat} {B : Option zZ} {h1 : zH}, i + k = m → KC σ a o L h1 → CT σ st T h1 → AC acc h1 → BH m B h1 → zWp (l_CrewSearch_place_22 (d + 2 * n + 6) 343 T (acc.length : Int) (t : Int) (i : Int) h1) (fun _ h' => BH m ((((un t k i).flatMap (lvF σ o L n (un t m 0) st)).map (fun Z => acc ++ Z)).foldl (bst m) B) h' ∧ AC acc h' ∧ frC9 acc.length h1 h') := by
      intro k
      induction k with
      | zero =>
        intro i B h1 hi kc1 ct1 ac1 bh1
        rw [el_CrewSearch_place_22, kc1.2.2.1, hl]
        exact zWp_po (by decide) (zWp_nt (by omega) (zWp_s ⟨bh1, ac1, frC9.rf h1⟩))
      | succ k ih2 =>
        intro i B h1 hi kc1 ct1 ac1 bh1
        rw [el_CrewSearch_place_22, kc1.2.2.1, hl, bit_n (by omega) (by omega), or_n (by omega) (by omega), w32_i (x := (i : Int) + 1) (by omega), show (i : Int) + 1 = ((i + 1 : Nat) : Int) from rfl]
        refine zWp_po (by decide) (zWp_it (by omega) ?_)
        show zWp _ (fun _ h' => BH m ((((match t.testBit i with | true => un t k (i + 1) | false => i :: un t k (i + 1)).flatMap (lvF σ o L n (un t m 0) st)).map (fun Z => acc ++ Z)).foldl (bst m) B) h' ∧ AC acc h' ∧ frC9 acc.length h1 h')
        cases hb : t.testBit i with
        | true => exact zWp_nt (by decide) (ih2 (by omega) kc1 ct1 ac1 bh1)
        | false =>
          refine zWp_it rfl (zWp_po (by decide) (zWp_po (by decide) (zWp_it (by omega) (zWp_lt fun h2 e2 => zWp_po (by decide) ?_))))
          have e2' : h2 = zset h1 350 (acc.length : Int) i := e2
          have f2 : frC9 acc.length h1 h2 := ⟨fun r hr => by rw [e2', zset_n (by omega)], fun q hq => by rw [e2', zset_o (by decide)]⟩
          have ac2 : AC acc h2 := fun j z hz => by
            have hj : j < acc.length := (List.getElem?_eq_some_iff.1 hz).1
            rw [e2', zset_j (by omega), zset_o (by decide)]
            exact ac1 j z hz
          have pv := q_lever (e := d + 2 * n) w hl hm hL ih (B := B) al ht hz us (kc1.fr (by omega) f2) (ct1.fr (fun r r1 r2 => f2.1 r (by omega))) wt hT ac2 (bh1.fr (by rw [e2', zset_o (by decide)]) (by rw [e2', zset_n (by decide)]) (by rw [e2', zset_n (by decide)])) (i := i) (by omega) hb (by rw [e2', zset_e])
          refine zWp_bv pv (fun _ h3 q3 => ?_)
          obtain ⟨b3, a3, f3⟩ := q3
          have f13 := f2.t (Int.le_refl _) f3
          refine zWp_m (ih2 (by omega) (kc1.fr (by omega) f13) (ct1.fr (fun r r1 r2 => f13.1 r (by omega))) a3 b3) (fun _ h4 q4 => ⟨?_, q4.2.1, f13.t (Int.le_refl _) q4.2.2⟩)
          rw [List.flatMap_cons, List.map_append, List.foldl_append]
          exact q4.1
    have := lp m (i := 0) (B := B) (h1 := h) (by omega) kc ct ac bh
    exact this
