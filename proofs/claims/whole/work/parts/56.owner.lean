/-! owner: sums over cells and over stones -/
theorem isum_swap {G : Int → Int → Int} : ∀ (n : Nat) (a : Int) (m : Nat) (j : Int), isum (fun c => isum (fun i => G c i) m j) n a = isum (fun i => isum (fun c => G c i) n a) m j
  | 0, a, m, j => (isum_0 m j).symm
  | n + 1, a, m, j => by
    show isum (fun i => G a i) m j + isum (fun c => isum (fun i => G c i) m j) n (a + 1) = isum (fun i => G a i + isum (fun c => G c i) n (a + 1)) m j
    rw [isum_add, isum_swap n (a + 1) m j]
theorem isum_z {f : Int → Int} (n : Nat) (a : Int) (h : ∀ x, a ≤ x → x < a + n → f x = 0) : isum f n a = 0 := (isum_cg n a h).trans (isum_0 n a)
theorem isum_k {f : Int → Int} {k : Int} : ∀ (n : Nat) (a : Int), a ≤ k → k < a + n → (∀ x, a ≤ x → x < a + n → ¬ x = k → f x = 0) → isum f n a = f k
  | 0, a, h1, h2, _ => by omega
  | n + 1, a, h1, h2, h => by
    show f a + isum f n (a + 1) = f k
    by_cases e : a = k
    · rw [isum_z n (a + 1) (fun x x1 x2 => h x (by omega) (by omega) (by omega)), e, Int.add_zero]
    · rw [h a (by omega) (by omega) e, isum_k n (a + 1) (by omega) (by omega) (fun x x1 x2 => h x (by omega) (by omega)), Int.zero_add]
def ownS (σ st : zH) (i : Int) : Int := if 0 ≤ st 1 i ∧ st 1 i < nC σ then σ 6 (st 1 i) else -1
def stF (σ st : zH) (o : Int) (g : Int → Int) (i : Int) : Int := if ownS σ st i = o then g i else 0
def ceF (σ st : zH) (o : Int) (g : Int → Int) (c : Int) : Int := if σ 6 c = o ∧ sAt σ st c ≠ -1 then g (sAt σ st c) else 0
theorem ce_st {σ st : zH} (w : WS σ) (wt : WT σ st) {o : Int} (ho : 0 ≤ o) (g : Int → Int) : isum (ceF σ st o g) (nC σ).toNat 0 = isum (stF σ st o g) (nS σ).toNat 0 := by
  have hn := w.n
  have hS0 : 0 ≤ nS σ := w.2.1.2.2.1
  have A : isum (ceF σ st o g) (nC σ).toNat 0 = isum (fun c => isum (fun i => if st 1 i = c ∧ σ 6 c = o then g i else 0) (nS σ).toNat 0) (nC σ).toNat 0 := isum_cg _ _ (fun c c1 c2 => by
    unfold ceF
    by_cases q : sAt σ st c = -1
    · rw [if_neg (fun z => z.2 q)]
      exact (isum_z _ _ (fun i i1 i2 => if_neg (fun z => sAt_free hS0 q ⟨i1, by omega⟩ z.1))).symm
    · obtain ⟨k1, k2, k3⟩ := sAt_in hS0 q
      rw [isum_k (k := sAt σ st c) (nS σ).toNat 0 k1 (by omega) (fun i i1 i2 i3 => if_neg (fun z => by
        rcases (wt.1 _ k1 k2).2 i i1 (by omega) (z.1.trans k3.symm) with y | y
        · omega
        · exact i3 y))]
      by_cases e : σ 6 c = o
      · rw [if_pos ⟨e, q⟩, if_pos ⟨k3, e⟩]
      · rw [if_neg (fun z => e z.1), if_neg (fun z => e z.2)])
  have B : isum (stF σ st o g) (nS σ).toNat 0 = isum (fun i => isum (fun c => if st 1 i = c ∧ σ 6 c = o then g i else 0) (nC σ).toNat 0) (nS σ).toNat 0 := isum_cg _ _ (fun i i1 i2 => by
    unfold stF ownS
    by_cases q : 0 ≤ st 1 i ∧ st 1 i < nC σ
    · rw [if_pos q, isum_k (k := st 1 i) (nC σ).toNat 0 q.1 (by omega) (fun c c1 c2 c3 => if_neg (fun z => c3 z.1.symm))]
      by_cases e : σ 6 (st 1 i) = o
      · rw [if_pos e, if_pos ⟨rfl, e⟩]
      · rw [if_neg e, if_neg (fun z => e z.2)]
    · rw [if_neg q, if_neg (by omega)]
      exact (isum_z _ _ (fun c c1 c2 => if_neg (fun z => q (by omega)))).symm)
  rw [A, B]
  exact isum_swap (G := fun c i => if st 1 i = c ∧ σ 6 c = o then g i else 0) _ _ _ _
def hoF (σ st : zH) (o i : Int) : Int := if σ 6 (σ 17 i) = o ∧ st 9 i ≠ 1 then 1 else 0
def hcF (σ st : zH) (o c : Int) : Int := if σ 6 c = o ∧ (σ 7 c ≠ -1 ∧ st 9 (σ 7 c) ≠ 1) then 1 else 0
theorem hc_ho {σ st : zH} (w : WS σ) {o : Int} : isum (hcF σ st o) (nC σ).toNat 0 = isum (hoF σ st o) (nHo σ).toNat 0 := by
  have hn := w.n
  have A : isum (hcF σ st o) (nC σ).toNat 0 = isum (fun c => isum (fun i => if σ 17 i = c ∧ (σ 6 c = o ∧ st 9 i ≠ 1) then 1 else 0) (nHo σ).toNat 0) (nC σ).toNat 0 := isum_cg _ _ (fun c c1 c2 => by
    have wc := w.2.2.2.1 c c1 (by omega)
    unfold hcF
    by_cases q : σ 7 c = -1
    · rw [if_neg (fun z => z.2.1 q)]
      refine (isum_z _ _ (fun i i1 i2 => if_neg (fun z => ?_))).symm
      have := (w.2.2.2.2.2.1 i i1 (by omega)).2.2.2.2
      rw [z.1] at this
      omega
    · have e17 : σ 17 (σ 7 c) = c := wc.2.2.2.2.2.2.2.2.1 q
      rw [isum_k (k := σ 7 c) (nHo σ).toNat 0 (by omega) (by omega) (fun i i1 i2 i3 => if_neg (fun z => by
        have := (w.2.2.2.2.2.1 i i1 (by omega)).2.2.2.2
        rw [z.1] at this
        exact i3 this.symm))]
      by_cases e : σ 6 c = o ∧ st 9 (σ 7 c) ≠ 1
      · rw [if_pos ⟨e.1, q, e.2⟩, if_pos ⟨e17, e⟩]
      · rw [if_neg (fun z => e ⟨z.1, z.2.2⟩), if_neg (fun z => e z.2)])
  have B : isum (hoF σ st o) (nHo σ).toNat 0 = isum (fun i => isum (fun c => if σ 17 i = c ∧ (σ 6 c = o ∧ st 9 i ≠ 1) then 1 else 0) (nC σ).toNat 0) (nHo σ).toNat 0 := isum_cg _ _ (fun i i1 i2 => by
    have wi := w.2.2.2.2.2.1 i i1 (by omega)
    unfold hoF
    rw [isum_k (k := σ 17 i) (nC σ).toNat 0 wi.2.2.1 (by omega) (fun c c1 c2 c3 => if_neg (fun z => c3 z.1.symm))]
    by_cases e : σ 6 (σ 17 i) = o ∧ st 9 i ≠ 1
    · rw [if_pos e, if_pos ⟨rfl, e⟩]
    · rw [if_neg e, if_neg (fun z => e z.2)])
  rw [A, B]
  exact isum_swap (G := fun c i => if σ 17 i = c ∧ (σ 6 c = o ∧ st 9 i ≠ 1) then 1 else 0) _ _ _ _
