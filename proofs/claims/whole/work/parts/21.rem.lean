/-! how much is left to break -/
def zct (f : Int → Bool) : Nat → Int → Int
  | 0, _ => 0
  | n + 1, i => (match f i with | true => 1 | false => 0) + zct f n (i + 1)
theorem zct_le (f : Int → Bool) : ∀ (n : Nat) (i : Int), 0 ≤ zct f n i ∧ zct f n i ≤ n
  | 0, i => by unfold zct; omega
  | n + 1, i => by
    have := zct_le f n (i + 1)
    unfold zct
    cases f i
    · show 0 ≤ 0 + zct f n (i + 1) ∧ 0 + zct f n (i + 1) ≤ _; omega
    · show 0 ≤ 1 + zct f n (i + 1) ∧ 1 + zct f n (i + 1) ≤ _; omega
theorem zct_cg {f g : Int → Bool} : ∀ (n : Nat) (i : Int), (∀ j, i ≤ j → j < i + n → f j = g j) → zct f n i = zct g n i
  | 0, i, _ => rfl
  | n + 1, i, h => by
    unfold zct
    rw [h i (by omega) (by omega), zct_cg n (i + 1) (fun j a b => h j (by omega) (by omega))]
theorem zct_upd {f g : Int → Bool} {j : Int} (hf : f j = true) (hg : g j = false) : ∀ (n : Nat) (i : Int), i ≤ j → j < i + n → (∀ x, i ≤ x → x < i + n → x ≠ j → g x = f x) → zct g n i + 1 = zct f n i
  | 0, i, h1, h2, _ => by omega
  | n + 1, i, h1, h2, h => by
    unfold zct
    by_cases e : i = j
    · rw [e, hf, hg, zct_cg n (j + 1) (fun x a b => h x (by omega) (by omega) (by omega))]
      show 0 + zct f n (j + 1) + 1 = 1 + zct f n (j + 1)
      omega
    · have := zct_upd hf hg n (i + 1) (by omega) (by omega) (fun x a b c => h x (by omega) (by omega) c)
      rw [h i (by omega) (by omega) e]
      omega
theorem zct_mn {f g : Int → Bool} : ∀ (n : Nat) (i : Int), (∀ j, i ≤ j → j < i + n → g j = true → f j = true) → zct g n i ≤ zct f n i
  | 0, i, _ => by unfold zct; omega
  | n + 1, i, h => by
    have := zct_mn n (i + 1) (fun j a b => h j (by omega) (by omega))
    unfold zct
    cases hg : g i with
    | false =>
      cases f i
      · show 0 + zct g n (i + 1) ≤ 0 + zct f n (i + 1); omega
      · show 0 + zct g n (i + 1) ≤ 1 + zct f n (i + 1); omega
    | true =>
      rw [h i (by omega) (by omega) hg]
      show 1 + zct g n (i + 1) ≤ 1 + zct f n (i + 1); omega
theorem zct_pos {f : Int → Bool} {j : Int} (hf : f j = true) : ∀ (n : Nat) (i : Int), i ≤ j → j < i + n → 1 ≤ zct f n i
  | 0, i, h1, h2 => by omega
  | n + 1, i, h1, h2 => by
    unfold zct
    by_cases e : i = j
    · have := zct_le f n (j + 1)
      rw [e, hf]
      show 1 ≤ 1 + zct f n (j + 1); omega
    · have := zct_pos hf n (i + 1) (by omega) (by omega)
      cases f i
      · show 1 ≤ 0 + zct f n (i + 1); omega
      · show 1 ≤ 1 + zct f n (i + 1); omega
def rem (σ st : zH) : Int := zct (fun c => decide (0 < st 5 c)) (nC σ).toNat 0 + zct (fun i => decide (st 9 i ≠ 1)) (nHo σ).toNat 0
theorem rem_le {σ st : zH} (w : WS σ) : 0 ≤ rem σ st ∧ rem σ st ≤ 68 := by
  have := w.n
  have := w.2.1
  have := zct_le (fun c => decide (0 < st 5 c)) (nC σ).toNat 0
  have := zct_le (fun i => decide (st 9 i ≠ 1)) (nHo σ).toNat 0
  unfold rem
  omega
theorem rem_come {σ st : zH} {s n : Int} : rem σ (come st s n) = rem σ st := by
  unfold rem
  rw [zct_cg (f := fun c => decide (0 < come st s n 5 c)) (g := fun c => decide (0 < st 5 c)) _ _ (fun j _ _ => by rw [come_o (by omega) (by omega)]), zct_cg (f := fun i => decide (come st s n 9 i ≠ 1)) (g := fun i => decide (st 9 i ≠ 1)) _ _ (fun j _ _ => by rw [come_o (by omega) (by omega)])]
theorem rem_wall {σ st : zH} {n : Int} (hn : 0 ≤ n ∧ n < nC σ) (h : 0 < st 5 n) : rem σ (zset st 5 n 0) + 1 = rem σ st := by
  unfold rem
  have a := zct_upd (f := fun c => decide (0 < st 5 c)) (g := fun c => decide (0 < zset st 5 n 0 5 c)) (j := n) (decide_eq_true h) (decide_eq_false (by rw [zset_e]; omega)) (nC σ).toNat 0 hn.1 (by omega) (fun x _ _ hx => by rw [zset_j hx])
  have b := zct_cg (f := fun i => decide (zset st 5 n 0 9 i ≠ 1)) (g := fun i => decide (st 9 i ≠ 1)) (nHo σ).toNat 0 (fun j _ _ => by rw [zset_o (by omega)])
  omega
theorem rem_house {σ st : zH} {n : Int} (hn : 0 ≤ n ∧ n < nHo σ) (h : st 9 n ≠ 1) : rem σ (zset st 9 n 1) + 1 = rem σ st := by
  unfold rem
  have a := zct_upd (f := fun i => decide (st 9 i ≠ 1)) (g := fun i => decide (zset st 9 n 1 9 i ≠ 1)) (j := n) (decide_eq_true h) (decide_eq_false (by rw [zset_e]; omega)) (nHo σ).toNat 0 hn.1 (by omega) (fun x _ _ hx => by rw [zset_j hx])
  have b := zct_cg (f := fun c => decide (0 < zset st 9 n 1 5 c)) (g := fun c => decide (0 < st 5 c)) (nC σ).toNat 0 (fun j _ _ => by rw [zset_o (by omega)])
  omega
theorem rem_less {σ st : zH} {n v : Int} (h : 0 < st 5 n) : rem σ (zset st 5 n v) ≤ rem σ st := by
  unfold rem
  have a := zct_mn (f := fun c => decide (0 < st 5 c)) (g := fun c => decide (0 < zset st 5 n v 5 c)) (nC σ).toNat 0 (fun j _ _ hj => by
    by_cases e : j = n
    · rw [e]; exact decide_eq_true h
    · rw [zset_j e] at hj; exact hj)
  have b := zct_cg (f := fun i => decide (zset st 5 n v 9 i ≠ 1)) (g := fun i => decide (st 9 i ≠ 1)) (nHo σ).toNat 0 (fun j _ _ => by rw [zset_o (by omega)])
  omega
