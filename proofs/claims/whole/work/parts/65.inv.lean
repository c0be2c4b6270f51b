/-! between calls: what class and reference hold. G: 0: tape's length, picture's length, seed, fault, its place; 1 tape, 2 picture, 3 refusals. D: dues that are told; K: kept states, the newest first -/
abbrev zDR : Type := List (Int × Int × Int × Int)
abbrev zKp : Type := List (zH × zDR)
def CG (G h : zH) : Prop := (h 0 1 = G 0 0 ∧ ∀ j, 0 ≤ j → j < G 0 0 → h 1 j = G 1 j) ∧ (h 0 3 = G 0 1 ∧ ∀ j, 0 ≤ j → j < G 0 1 → h 2 j = G 2 j) ∧ (∀ i, 0 ≤ i → i < 6 → h 3 i = G 3 i) ∧ h 0 5 = G 0 2 ∧ h 5 11 = G 0 3 ∧ h 5 12 = G 0 4
def RG (G h : zH) : Prop := (h 403 1 = G 0 0 ∧ ∀ j, 0 ≤ j → j < G 0 0 → h 404 j = G 1 j) ∧ (h 403 93 = G 0 1 ∧ ∀ j, 0 ≤ j → j < G 0 1 → h 463 j = G 2 j) ∧ (∀ i, 0 ≤ i → i < 6 → h 441 i = G 3 i) ∧ h 403 70 = G 0 2 ∧ h 403 10 = G 0 3 ∧ h 403 11 = G 0 4
def WG (G : zH) : Prop := (0 ≤ G 0 0 ∧ G 0 0 ≤ 1600) ∧ (∀ j, 0 ≤ j → j < G 0 0 → 0 ≤ G 1 j ∧ G 1 j ≤ 255) ∧ (0 ≤ G 0 1 ∧ G 0 1 ≤ 259) ∧ (0 ≤ G 0 2 ∧ G 0 2 < 2147483648)
theorem CG.fr {G h h' : zH} (c : CG G h) (hr : ∀ r, r = 0 ∨ r = 1 ∨ r = 2 ∨ r = 3 ∨ r = 5 → h' r = h r) : CG G h' := by
  unfold CG at c ⊢
  rw [hr 0 (by decide), hr 1 (by decide), hr 2 (by decide), hr 3 (by decide), hr 5 (by decide)]
  exact c
theorem RG.fr {G h h' : zH} (c : RG G h) (h0 : ∀ q, q = 1 ∨ q = 93 ∨ q = 70 ∨ q = 10 ∨ q = 11 → h' 403 q = h 403 q) (hr : ∀ r, r = 404 ∨ r = 463 ∨ r = 441 → h' r = h r) : RG G h' := by
  unfold RG at c ⊢
  rw [h0 1 (by decide), h0 93 (by decide), h0 70 (by decide), h0 10 (by decide), h0 11 (by decide), hr 404 (by decide), hr 463 (by decide), hr 441 (by decide)]
  exact c
/-- rows that the class's constructors have made -/
def ownW : List Int := [210940032, 620462080, 620403968, 54525952, 527898176, 404164608, 686817280, 659011744, 777297172, 609865728, 284871840, 788091136, 773206016, 679533568, 507661312, 620237824, 156401664, 780318720, 522190848, 48365568, 486146048, 46530560, 654480512, 658686560, 446103552, 438042624]
def CKo (h : zH) : Prop := (∀ i, 0 ≤ i → i < 3 → h 83 i = 379 + 8 * i) ∧ (∀ i, 0 ≤ i → i < 30 → h 85 i = 86 + 8 * i) ∧ (∀ i, 0 ≤ i → i < 3 → h 347 i = 353 + 8 * i) ∧ (∀ i, 0 ≤ i → i < 3 → h 23 i = 20 + i ∧ h 51 i = 48 + i) ∧ (∀ i : Nat, i < 26 → h 6 i = ownW.getD i 0)
theorem CKo.fr {h h' : zH} (c : CKo h) (hr : ∀ r, r = 83 ∨ r = 85 ∨ r = 347 ∨ r = 23 ∨ r = 51 ∨ r = 6 → h' r = h r) : CKo h' := by
  unfold CKo at c ⊢
  rw [hr 83 (by decide), hr 85 (by decide), hr 347 (by decide), hr 23 (by decide), hr 51 (by decide), hr 6 (by decide)]
  exact c
/-- the dues that are told, in the class -/
def CLd (D : zDR) (h : zH) : Prop := (h 67 9 = D.length ∧ (D.length : Int) ≤ 99) ∧ ∀ (j : Nat) (x : Int × Int × Int × Int), D[j]? = some x → h 327 (4 * j) = x.1 ∧ h 327 (4 * j + 1) = x.2.1 ∧ h 327 (4 * j + 2) = x.2.2.1 ∧ h 327 (4 * j + 3) = x.2.2.2
theorem CLd.fr {D : zDR} {h h' : zH} (c : CLd D h) (h1 : h' 67 9 = h 67 9) (h2 : h' 327 = h 327) : CLd D h' := by
  unfold CLd at c ⊢
  rw [h1, h2]
  exact c
/-- where the class keeps the j-th -/
def kAt (n j : Int) : Int := 86 + 8 * ((n - j) % 30)
def CRg (σ : zH) (K : zKp) (h : zH) : Prop := (h 84 2 = K.length ∧ (K.length : Int) ≤ 30) ∧ (0 ≤ h 84 1 ∧ h 84 1 < 30) ∧ ∀ (j : Nat) (k : zH × zDR), K[j]? = some k → CT σ k.1 (kAt (h 84 1) j) h ∧ h (kAt (h 84 1) j) 9 = k.2.length
theorem kAt_sa {n j : Int} : SA (kAt n j) := by unfold SA kAt; omega
theorem kAt_in {n j : Int} : 86 ≤ kAt n j ∧ kAt n j ≤ 318 := by unfold kAt; omega
theorem CRg.fr {σ : zH} {K : zKp} {h h' : zH} (c : CRg σ K h) (hr : ∀ r, r = 84 ∨ (86 ≤ r ∧ r < 326) → h' r = h r) : CRg σ K h' := by
  obtain ⟨c1, c2, c3⟩ := c
  refine ⟨by rw [hr 84 (Or.inl rfl)]; exact c1, by rw [hr 84 (Or.inl rfl)]; exact c2, fun j k hk => ?_⟩
  obtain ⟨a, b⟩ := c3 j k hk
  have hi := kAt_in (n := h 84 1) (j := j)
  rw [hr 84 (Or.inl rfl)]
  exact ⟨a.fr (fun r r1 r2 => hr r (Or.inr (by omega))), by rw [hr _ (Or.inr (by omega))]; exact b⟩
/-- nets -/
def allB (f : Int → Bool) : Nat → Int → Bool
  | 0, _ => true
  | n + 1, i => f i && allB f n (i + 1)
def safeA (σ st : zH) : Bool := allB (fun t => !(hasRu (spr σ (σ 18 t) st).2)) (nT σ).toNat 0
def netS (st : zH) : List Int → zH
  | [] => st
  | c :: P => netS (zset st 8 c 1) P
def mayN (σ st : zH) (c : Int) : Bool := decide (sAt σ st c = -1 ∧ ¬ (σ 7 c ≠ -1 ∧ st 9 (σ 7 c) ≠ 1) ∧ st 5 c = 0 ∧ st 8 c = 0)
def netF (σ st : zH) : Nat → Nat → Int → List Int → Option (List Int)
  | 0, _, _, P => match safeA σ (netS st P) with
    | true => some P
    | false => none
  | _ + 1, 0, _, _ => none
  | k + 1, n + 1, c, P => match mayN σ st c with
    | false => netF σ st (k + 1) n (c + 1) P
    | true => match netF σ st k n (c + 1) (P ++ [c]) with
      | some Q => some Q
      | none => netF σ st (k + 1) n (c + 1) P
def netA (σ st : zH) : Option (List Int) := match netF σ st 0 (nC σ).toNat 0 [] with
  | some P => some P
  | none => match netF σ st 1 (nC σ).toNat 0 [] with
    | some P => some P
    | none => match netF σ st 2 (nC σ).toNat 0 [] with
      | some P => some P
      | none => netF σ st 3 (nC σ).toNat 0 []
def NetV (σ st h : zH) : Prop := match netA σ st with
  | none => h 331 5 = 0 ∧ h 331 7 = -1
  | some P => h 331 5 = 1 ∧ h 331 7 = P.length ∧ ∃ N : Nat, h 331 6 = N ∧ N < 2 ^ 60 ∧ ∀ i : Nat, N.testBit i = P.contains (i : Int)
def CNt (σ st h : zH) : Prop := h 331 4 = 0 ∨ h 331 4 = 1 ∧ NetV σ st h
theorem CNt.fr {σ st h h' : zH} (c : CNt σ st h) (hr : h' 331 = h 331) : CNt σ st h' := by
  unfold CNt NetV at c ⊢
  rw [hr]
  exact c
/-- the class's law -/
def LawC (Λ : zLw) (a : Int) (h : zH) : Prop := ∀ (d : Nat) (h2 : zH), (∀ r, a + 22 ≤ r → r ≤ a + 25 → h2 r = h r) → (∀ q, ¬ q = 8 → h2 (a + 21) q = h (a + 21) q) → ∀ x1 x2 x3 x4 x5 : Int, 0 ≤ x1 ∧ x1 ≤ 9999 → 0 ≤ x2 ∧ x2 ≤ 9999 → 0 ≤ x3 ∧ x3 ≤ 9999 → 0 ≤ x4 ∧ x4 ≤ 1 → 0 ≤ x5 ∧ x5 ≤ 9999 → (0 ≤ Λ x1 x2 x3 x4 x5 ∧ Λ x1 x2 x3 x4 x5 ≤ 9999) ∧ zWp (m_LawBook_dueOf (d + 8) (a + 21) x1 x2 x3 x4 x5 h2) (fun v h' => v = .inl (Λ x1 x2 x3 x4 x5) ∧ (∀ r, ¬ (r = a + 21 ∨ r = a + 26 ∨ r = a + 27) → h' r = h2 r) ∧ ∀ q, ¬ q = 8 → h' (a + 21) q = h2 (a + 21) q)
theorem LawC.fr {Λ : zLw} {a : Int} {h h' : zH} (l : LawC Λ a h) (hr : ∀ r, a + 22 ≤ r → r ≤ a + 25 → h' r = h r) (h1 : ∀ q, ¬ q = 8 → h' (a + 21) q = h (a + 21) q) : LawC Λ a h' := fun d h2 u1 u2 => l d h2 (fun r r1 r2 => (u1 r r1 r2).trans (hr r r1 r2)) (fun q hq => (u2 q hq).trans (h1 q hq))
def CI (σ st : zH) (D : zDR) (K : zKp) (Λ : zLw) (G h : zH) : Prop := BC σ st (h 0 7) h ∧ h 0 8 = 50 - h 0 7 ∧ CG G h ∧ CKo h ∧ CLd D h ∧ CRg σ K h ∧ CNt σ st h ∧ LawC Λ (h 0 7) h
def crC (r : Int) : Prop := r = 6 ∨ (11 ≤ r ∧ r < 75) ∨ (83 ≤ r ∧ r < 328) ∨ r = 331 ∨ r = 347
theorem CI.g {σ st : zH} {D : zDR} {K : zKp} {Λ : zLw} {G G' h h' : zH} (c : CI σ st D K Λ G h) (cg : CG G' h') (h7 : h' 0 7 = h 0 7) (h8 : h' 0 8 = h 0 8) (hr : ∀ r, crC r → h' r = h r) : CI σ st D K Λ G' h' := by
  obtain ⟨c1, c2, c3, c4, c5, c6, c7, c8⟩ := c
  have ha := c1.2.1.a
  have hr2 : ∀ r, 11 ≤ r → r < 75 → h' r = h r := fun r r1 r2 => hr r (Or.inr (Or.inl ⟨r1, r2⟩))
  have hr3 : ∀ r, 83 ≤ r → r < 328 → h' r = h r := fun r r1 r2 => hr r (Or.inr (Or.inr (Or.inl ⟨r1, r2⟩)))
  refine ⟨⟨rfl, ?_, ?_, c1.2.2.2⟩, by rw [h7, h8]; exact c2, cg, c4.fr (fun r z => hr r (by unfold crC; omega)), c5.fr (by rw [hr2 67 (by decide) (by decide)]) (hr3 327 (by decide) (by decide)), c6.fr (fun r z => hr r (by unfold crC; omega)), c7.fr (hr 331 (by unfold crC; decide)), ?_⟩
  · rw [h7]; exact c1.2.1.fr (fun r r1 r2 => hr2 r (by omega) (by omega))
  · exact c1.2.2.1.fr (fun r r1 r2 => hr2 r (by omega) (by omega))
  · rw [h7]; exact c8.fr (fun r r1 r2 => hr2 r (by omega) (by omega)) (fun q _ => by rw [hr2 (h 0 7 + 21) (by omega) (by omega)])
theorem CI.q {σ st : zH} {D : zDR} {K : zKp} {Λ : zLw} {G h h' : zH} (c : CI σ st D K Λ G h) (f : frQ h h') : CI σ st D K Λ G h' :=
  c.g (c.2.2.1.fr (fun r z => f r (by omega))) (by rw [f 0 (by decide)]) (by rw [f 0 (by decide)]) (fun r z => f r (by unfold crC at z; omega))
def fr403 (h h' : zH) : Prop := ∀ r, 403 ≤ r → h' r = h r
def frLo (h h' : zH) : Prop := ∀ r, r < 403 → h' r = h r
theorem fr403.rf (h : zH) : fr403 h h := fun _ _ => rfl
theorem fr403.t {a b c : zH} (h1 : fr403 a b) (h2 : fr403 b c) : fr403 a c := fun r x => (h2 r x).trans (h1 r x)
theorem frLo.rf (h : zH) : frLo h h := fun _ _ => rfl
theorem frLo.t {a b c : zH} (h1 : frLo a b) (h2 : frLo b c) : frLo a c := fun r x => (h2 r x).trans (h1 r x)
theorem frQ.hi {h h' : zH} (f : frQ h h') : fr403 h h' := fun r x => f r (by omega)
theorem frQR.lo {h h' : zH} (f : frQR h h') : frLo h h' := fun r x => f.1 r (by omega)
theorem CI.lo {σ st : zH} {D : zDR} {K : zKp} {Λ : zLw} {G h h' : zH} (c : CI σ st D K Λ G h) (f : frLo h h') : CI σ st D K Λ G h' :=
  c.g (c.2.2.1.fr (fun r z => f r (by omega))) (by rw [f 0 (by decide)]) (by rw [f 0 (by decide)]) (fun r z => f r (by unfold crC at z; omega))
/-- the reference: balances and dues of a version -/
def RDv (Δ : zDu) (v : Int) (h : zH) : Prop := (∀ o, 0 ≤ o → o < 6 → h 451 (6 * v + o) = w64 (Δ.1 o)) ∧ (h 452 v = Δ.2.length ∧ (Δ.2.length : Int) ≤ 99) ∧ ∀ (j : Nat) (x : Int × Int × Int × Int), Δ.2[j]? = some x → h 453 (396 * v + 4 * j) = x.1 ∧ h 453 (396 * v + (4 * j + 1)) = x.2.1 ∧ h 453 (396 * v + (4 * j + 2)) = x.2.2.1 ∧ h 453 (396 * v + (4 * j + 3)) = x.2.2.2
theorem RDv.fr {Δ : zDu} {v : Int} {h h' : zH} (l : RDv Δ v h) (h1 : ∀ i, 6 * v ≤ i → i < 6 * v + 6 → h' 451 i = h 451 i) (h2 : h' 452 v = h 452 v) (h3 : ∀ i, 396 * v ≤ i → i < 396 * v + 396 → h' 453 i = h 453 i) : RDv Δ v h' := by
  obtain ⟨l1, l2, l3⟩ := l
  refine ⟨fun o o1 o2 => by rw [h1 _ (by omega) (by omega)]; exact l1 o o1 o2, by rw [h2]; exact l2, fun j x hj => ?_⟩
  have hl : j < Δ.2.length := (List.getElem?_eq_some_iff.1 hj).1
  rw [h3 _ (by omega) (by omega), h3 _ (by omega) (by omega), h3 _ (by omega) (by omega), h3 _ (by omega) (by omega)]
  exact l3 j x hj
theorem RD.v {Δ : zDu} {h : zH} (l : RD Δ h) : RDv Δ 0 h := by
  obtain ⟨l1, l2, l3⟩ := l
  refine ⟨fun o o1 o2 => by rw [show 6 * 0 + o = o by omega]; exact l1 o o1 o2, l2, fun j x hj => ?_⟩
  have := l3 j x hj
  rw [show 396 * 0 + 4 * (j : Int) = 4 * j by omega, show 396 * 0 + (4 * (j : Int) + 1) = 4 * j + 1 by omega, show 396 * 0 + (4 * (j : Int) + 2) = 4 * j + 2 by omega, show 396 * 0 + (4 * (j : Int) + 3) = 4 * j + 3 by omega]
  exact this
theorem RDv.z {Δ : zDu} {h : zH} (l : RDv Δ 0 h) : RD Δ h := by
  obtain ⟨l1, l2, l3⟩ := l
  refine ⟨fun o o1 o2 => by have := l1 o o1 o2; rwa [show 6 * 0 + o = o by omega] at this, l2, fun j x hj => ?_⟩
  have := l3 j x hj
  rw [show 396 * 0 + 4 * (j : Int) = 4 * j by omega, show 396 * 0 + (4 * (j : Int) + 1) = 4 * j + 1 by omega, show 396 * 0 + (4 * (j : Int) + 2) = 4 * j + 2 by omega, show 396 * 0 + (4 * (j : Int) + 3) = 4 * j + 3 by omega] at this
  exact this
def rAt (u n j : Int) : Int := 5 + (u + n - 1 - j) % 30
theorem rAt_in {u n j : Int} : 5 ≤ rAt u n j ∧ rAt u n j ≤ 34 := by unfold rAt; omega
def RRg (σ : zH) (K : zKp) (h : zH) : Prop := (h 403 69 = K.length ∧ (K.length : Int) ≤ 30) ∧ (0 ≤ h 403 68 ∧ h 403 68 < 30) ∧ ∀ (j : Nat) (k : zH × zDR), K[j]? = some k → RT σ k.1 (rAt (h 403 68) K.length j) h ∧ RDv (k.1 7, k.2) (rAt (h 403 68) K.length j) h
theorem RRg.fr {σ : zH} {K : zKp} {h h' : zH} (w : WS σ) (c : RRg σ K h) (h1 : h' 403 68 = h 403 68) (h2 : h' 403 69 = h 403 69) (f1 : ∀ i, 50 ≤ i → h' 444 i = h 444 i ∧ h' 445 i = h 445 i ∧ h' 446 i = h 446 i) (f2 : ∀ i, 40 ≤ i → h' 447 i = h 447 i) (f3 : ∀ i, 300 ≤ i → h' 448 i = h 448 i ∧ h' 449 i = h 449 i ∧ h' 450 i = h 450 i) (f4 : ∀ i, 30 ≤ i → h' 451 i = h 451 i) (f5 : ∀ i, 5 ≤ i → h' 452 i = h 452 i) (f6 : ∀ i, 1980 ≤ i → h' 453 i = h 453 i) : RRg σ K h' := by
  obtain ⟨c1, c2, c3⟩ := c
  refine ⟨by rw [h2]; exact c1, by rw [h1]; exact c2, fun j k hk => ?_⟩
  obtain ⟨a, b⟩ := c3 j k hk
  have hi := rAt_in (u := h 403 68) (n := K.length) (j := j)
  rw [h1]
  refine ⟨?_, b.fr (fun i i1 i2 => f4 i (by omega)) (f5 _ (by omega)) (fun i i1 i2 => f6 i (by omega))⟩
  obtain ⟨t0, t1, t2, t3⟩ := a
  refine ⟨t0, fun i i1 i2 => ?_, fun i i1 i2 => ?_, fun i i1 i2 => ?_⟩
  · have := f1 (10 * rAt (h 403 68) K.length j + i) (by omega)
    rw [this.1, this.2.1, this.2.2]; exact t1 i i1 i2
  · rw [f2 _ (by omega)]; exact t2 i i1 i2
  · have := f3 (60 * rAt (h 403 68) K.length j + i) (by omega)
    rw [this.1, this.2.1, this.2.2]; exact t3 i i1 i2
/-- names -/
def nmOk (L : List Nat) : Prop := 1 ≤ L.length ∧ L.length ≤ 6 ∧ ∀ x ∈ L, 1 ≤ x ∧ x ≤ 26
def pk5 : Nat → List Nat → Nat
  | _, [] => 0
  | k, x :: L => x * 32 ^ (5 - k) + pk5 (k + 1) L
def pk8 : Nat → List Nat → Nat
  | acc, [] => acc
  | acc, x :: L => pk8 (acc * 256 + (x + 96)) L
def NmR (p q : Int) : Prop := ∃ L : List Nat, nmOk L ∧ p = pk5 0 L ∧ q = pk8 0 L
def RNm (σ h : zH) : Prop := (∀ i, 0 ≤ i → i < nO σ → NmR (σ 9 i) (h 414 (6 * h 403 12 + i))) ∧ (∀ i, 0 ≤ i → i < nS σ → NmR (σ 10 i) (h 416 (10 * h 403 12 + i))) ∧ (∀ i, 0 ≤ i → i < nHo σ → NmR (σ 11 i) (h 421 (8 * h 403 12 + i)))
theorem RNm.fr {σ h h' : zH} (c : RNm σ h) (h1 : h' 403 12 = h 403 12) (hr : ∀ r, r = 414 ∨ r = 416 ∨ r = 421 → h' r = h r) : RNm σ h' := by
  unfold RNm at c ⊢
  rw [h1, hr 414 (by decide), hr 416 (by decide), hr 421 (by decide)]
  exact c
def RI (σ st : zH) (D : zDR) (K : zKp) (Λ : zLw) (G h : zH) : Prop := RC σ st h ∧ RG G h ∧ RD (st 7, D) h ∧ RRg σ K h ∧ (∀ d, LawR Λ (d + 8) h) ∧ RNm σ h
theorem RI.g {σ st : zH} {D : zDR} {K : zKp} {Λ : zLw} {G G' h h' : zH} (c : RI σ st D K Λ G h) (rg : RG G' h') (h0 : ∀ q, q = 12 ∨ q = 68 ∨ q = 69 → h' 403 q = h 403 q) (hr : ∀ r, 405 ≤ r ∧ r ≤ 434 ∨ 444 ≤ r ∧ r ≤ 455 → h' r = h r) : RI σ st D K Λ G' h' := by
  obtain ⟨c1, c2, c3, c4, c5, c6⟩ := c
  have e12 := h0 12 (by decide)
  refine ⟨⟨c1.1.fr e12 (fun r a b => hr r (by omega)), c1.2.1.fr (fun r a b => hr r (by omega)), c1.2.2⟩, rg, c3.fr (hr 451 (by decide)) (hr 452 (by decide)) (hr 453 (by decide)), ?_, fun d => (c5 d).fr e12 (fun r a b => hr r (by omega)), c6.fr e12 (fun r z => hr r (by omega))⟩
  exact c4.fr c1.2.2.1 (h0 68 (by decide)) (h0 69 (by decide)) (fun i _ => by rw [hr 444 (by decide), hr 445 (by decide), hr 446 (by decide)]; exact ⟨rfl, rfl, rfl⟩) (fun i _ => by rw [hr 447 (by decide)]) (fun i _ => by rw [hr 448 (by decide), hr 449 (by decide), hr 450 (by decide)]; exact ⟨rfl, rfl, rfl⟩) (fun i _ => by rw [hr 451 (by decide)]) (fun i _ => by rw [hr 452 (by decide)]) (fun i _ => by rw [hr 453 (by decide)])
theorem RI.q {σ st : zH} {D : zDR} {K : zKp} {Λ : zLw} {G h h' : zH} (c : RI σ st D K Λ G h) (f : frQR h h') : RI σ st D K Λ G h' := by
  obtain ⟨c1, c2, c3, c4, c5, c6⟩ := c
  have e12 := f.2.1 12 (by decide)
  refine ⟨c1.q f, c2.fr (fun q z => f.2.1 q (by omega)) (fun r z => f.1 r (by omega)), c3.fr (f.1 451 (by decide)) (f.1 452 (by decide)) (f.1 453 (by decide)), ?_, fun d => (c5 d).fr e12 (fun r a b => f.1 r (by omega)), c6.fr e12 (fun r z => f.1 r (by omega))⟩
  exact c4.fr c1.2.2.1 (f.2.1 68 (by decide)) (f.2.1 69 (by decide)) (fun i z => f.2.2.1 i (by omega)) (fun i z => f.2.2.2.1 i (by omega)) (fun i z => f.2.2.2.2 i (by omega)) (fun i _ => by rw [f.1 451 (by decide)]) (fun i _ => by rw [f.1 452 (by decide)]) (fun i _ => by rw [f.1 453 (by decide)])
theorem RI.hi {σ st : zH} {D : zDR} {K : zKp} {Λ : zLw} {G h h' : zH} (c : RI σ st D K Λ G h) (f : fr403 h h') : RI σ st D K Λ G h' :=
  c.g (c.2.1.fr (fun q _ => by rw [f 403 (by decide)]) (fun r z => f r (by omega))) (fun q _ => by rw [f 403 (by decide)]) (fun r z => f r (by omega))
/-- kept states in order, their dues each a beginning of the later ones -/
def WK (σ : zH) : zDR → zKp → Prop
  | _, [] => True
  | D, k :: K => WT σ k.1 ∧ k.2 <+: D ∧ WK σ k.2 K
def INV (h : zH) : Prop := ∃ σ st D K Λ G, CI σ st D K Λ G h ∧ RI σ st D K Λ G h ∧ WK σ D K ∧ WG G
/-- both answer alike, and all is in order behind it -/
def Alike (x : zR) (y : zH → zR) : Prop := zWp x (fun v h1 => zWp (y h1) (fun v' h2 => v' = v ∧ INV h2))
theorem alike {x : zR} {y : zH → zR} {V : zV} {σ st : zH} {D : zDR} {K : zKp} {Λ : zLw} {G h : zH} (wk : WK σ D K) (wg : WG G) (r : ∀ h', fr403 h h' → zWp (y h') (fun v h2 => v = V ∧ RI σ st D K Λ G h2 ∧ frLo h' h2)) (c : zWp x (fun v h1 => v = V ∧ CI σ st D K Λ G h1 ∧ fr403 h h1)) : Alike x y := by
  obtain ⟨v, h1, e1, u1, u2, u3⟩ := c
  obtain ⟨v2, h2, e2, w1, w2, w3⟩ := r h1 u3
  exact ⟨v, h1, e1, v2, h2, e2, w1.trans u1.symm, σ, st, D, K, Λ, G, u2.lo w3, w2, wk, wg⟩
/-- a question: nothing but places to try in has changed -/
theorem alike_q {x : zR} {y : zH → zR} {V : zV} {σ st : zH} {D : zDR} {K : zKp} {Λ : zLw} {G h : zH} (c : CI σ st D K Λ G h) (r : RI σ st D K Λ G h) (wk : WK σ D K) (wg : WG G) (hc : zWp x (fun v h1 => v = V ∧ frQ h h1)) (hr : ∀ h', RI σ st D K Λ G h' → zWp (y h') (fun v h2 => v = V ∧ frQR h' h2)) : Alike x y :=
  alike wk wg (fun h' f => zWp_m (hr h' (r.hi f)) (fun v h2 u => ⟨u.1, (r.hi f).q u.2, u.2.lo⟩)) (zWp_m hc (fun v h1 u => ⟨u.1, c.q u.2, u.2.hi⟩))
