/-! the step keeps the state in order -/
theorem WT.h5 {σ st : zH} (wt : WT σ st) {n v : Int} (hv : 0 ≤ v ∧ v ≤ st 5 n) (hn : 0 ≤ n ∧ n < nC σ) : WT σ (zset st 5 n v) := by
  refine ⟨fun i i1 i2 => ?_, fun c c1 c2 => ?_, fun i i1 i2 => ?_⟩
  · refine ⟨?_, fun j j1 j2 j3 => ?_⟩
    · rw [zset_o (by decide)]; exact (wt.1 i i1 i2).1
    · rw [zset_o (by decide), zset_o (by decide)] at j3
      rw [zset_o (by decide)]; exact (wt.1 i i1 i2).2 j j1 j2 j3
  · have a := wt.2.1 c c1 c2
    have b := wt.2.1 n hn.1 hn.2
    rw [zset_g, zset_o (by decide), zset_o (by decide), zset_o (by decide)]
    split
    · rename_i e
      exact ⟨hv.1, Int.le_trans hv.2 b.2.1, a.2.2.1, a.2.2.2.1, a.2.2.2.2.1, fun z => a.2.2.2.2.2 (by rw [e]; omega)⟩
    · exact a
  · rw [zset_o (by decide)]; exact wt.2.2 i i1 i2
theorem WT.h9 {σ st : zH} (wt : WT σ st) {k : Int} : WT σ (zset st 9 k 1) := by
  refine ⟨fun i i1 i2 => ?_, fun c c1 c2 => ?_, fun i i1 i2 => ?_⟩
  · refine ⟨?_, fun j j1 j2 j3 => ?_⟩
    · rw [zset_o (by decide)]; exact (wt.1 i i1 i2).1
    · rw [zset_o (by decide), zset_o (by decide)] at j3
      rw [zset_o (by decide)]; exact (wt.1 i i1 i2).2 j j1 j2 j3
  · have := wt.2.1 c c1 c2
    rw [zset_o (by decide), zset_o (by decide), zset_o (by decide), zset_g]
    refine ⟨this.1, this.2.1, this.2.2.1, this.2.2.2.1, this.2.2.2.2.1, fun z => ?_⟩
    split
    · exact Or.inr rfl
    · exact this.2.2.2.2.2 z
  · rw [zset_g]
    split
    · exact Or.inr rfl
    · exact wt.2.2 i i1 i2
theorem contS_ok {σ st : zH} (wt : WT σ st) {n x : Int} (hn : 0 ≤ n ∧ n < nC σ) : contS st n x = 0 ∨ 1 ≤ contS st n x ∧ contS st n x ≤ x := by
  have := wt.2.1 n hn.1 hn.2
  have h6 : 0 ≤ st 6 n := this.2.2.1
  clear this
  unfold contS
  split
  · exact Or.inl rfl
  · split
    · exact Or.inr (by omega)
    · exact Or.inl rfl
theorem zset_kk {st : zH} {k n v q : Int} (h : ¬ q = k) : zset st k n v q = st q := zset_n h
theorem come_k {st : zH} {s n q : Int} (h1 : ¬ q = 1) (h3 : ¬ q = 3) : come st s n q = st q := by unfold come; rw [zset_n h3, zset_n h1]
def Four (a b : zH) : Prop := a 2 = b 2 ∧ a 6 = b 6 ∧ a 7 = b 7 ∧ a 8 = b 8
theorem Four.z5 {st : zH} {n v : Int} : Four (zset st 5 n v) st := ⟨zset_n (by decide), zset_n (by decide), zset_n (by decide), zset_n (by decide)⟩
theorem Four.z9 {st : zH} {n v : Int} : Four (zset st 9 n v) st := ⟨zset_n (by decide), zset_n (by decide), zset_n (by decide), zset_n (by decide)⟩
theorem Four.c {st : zH} {s n : Int} : Four (come st s n) st := ⟨come_k (by decide) (by decide), come_k (by decide) (by decide), come_k (by decide) (by decide), come_k (by decide) (by decide)⟩
theorem Four.t {a b c : zH} (h1 : Four a b) (h2 : Four b c) : Four a c := ⟨h1.1.trans h2.1, h1.2.1.trans h2.2.1, h1.2.2.1.trans h2.2.2.1, h1.2.2.2.trans h2.2.2.2⟩
/-- what is known of a step: kind, and what stays -/
def StepOk (σ st : zH) (s n sp k : Int) (b : zH × zRec × Int) : Prop :=
  WT σ b.1 ∧ (b.2.2 = 0 ∨ 1 ≤ b.2.2 ∧ b.2.2 ≤ sp ∧ 2 ≤ b.2.1.1) ∧ (∀ i, ¬ i = s → b.1 1 i = st 1 i) ∧ (b.2.1.1 = 1 ∧ b.1 1 s = st 1 s ∨ 2 ≤ b.2.1.1 ∧ b.2.1.1 ≤ 4 ∧ b.1 1 s = n) ∧
  (b.2.1.2.1 = n ∧ b.2.1.2.2.1 = sp ∧ b.2.1.2.2.2.2 = k) ∧ (rem σ b.1 + (if b.2.1.1 = 2 ∨ b.2.1.1 = 3 then 1 else 0) ≤ rem σ st) ∧ Four b.1 st
theorem stepB_ok {σ st : zH} (w : WS σ) (wt : WT σ st) {s n sp k : Int} (hs : 0 ≤ s ∧ s < nS σ) (hn : 0 ≤ n ∧ n < nC σ) (hf : sAt σ st n = -1) (hsp : 1 ≤ sp ∧ sp ≤ 999) : StepOk σ st s n sp k (stepB σ st s n sp k) := by
  have hS0 : 0 ≤ nS σ := w.2.1.2.2.1
  have hW : 1 ≤ σ 13 s ∧ σ 13 s ≤ 999 := ⟨(w.2.2.2.2.1 s hs.1 hs.2).1, (w.2.2.2.2.1 s hs.1 hs.2).2.1⟩
  have hF := frc hsp hW
  have hE5 : 0 ≤ st 5 n ∧ st 5 n ≤ 9999 := ⟨(wt.2.1 n hn.1 hn.2).1, (wt.2.1 n hn.1 hn.2).2.1⟩
  have hD7 : -1 ≤ σ 7 n ∧ σ 7 n < nHo σ := ⟨(w.2.2.2.1 n hn.1 hn.2).2.2.2.2.2.2.1, (w.2.2.2.1 n hn.1 hn.2).2.2.2.2.2.2.2.1⟩
  have free : ∀ i, 0 ≤ i → i < nS σ → st 1 i ≠ n := fun i a b => sAt_free hS0 hf ⟨a, b⟩
  unfold stepB
  by_cases q5 : 0 < st 5 n
  · rw [if_pos q5]
    by_cases q6 : sp * σ 13 s ≤ st 5 n
    · rw [if_pos q6]
      refine ⟨wt.h5 (by omega) hn, Or.inl rfl, fun i _ => by show zset st 5 n (st 5 n - sp * σ 13 s) 1 i = st 1 i; exact zset_o (by decide), Or.inl ⟨rfl, by show zset st 5 n (st 5 n - sp * σ 13 s) 1 s = st 1 s; exact zset_o (by decide)⟩, ⟨rfl, rfl, rfl⟩, ?_, Four.z5⟩
      have := rem_less (σ := σ) (v := st 5 n - sp * σ 13 s) q5
      rw [if_neg (show ¬ ((1 : Int) = 2 ∨ (1 : Int) = 3) by decide)]
      show rem σ (zset st 5 n (st 5 n - sp * σ 13 s)) + 0 ≤ _
      omega
    · rw [if_neg q6]
      have wt5 : WT σ (zset st 5 n 0) := wt.h5 (by omega) hn
      have wtc : WT σ (come (zset st 5 n 0) s n) := wt5.come hn (fun i a b => by rw [zset_o (by decide)]; exact free i a b)
      have hd : Int.tdiv (sp * σ 13 s - st 5 n) (σ 13 s) ≤ sp := by
        rw [Int.tdiv_eq_ediv_of_nonneg (by omega)]
        exact Int.le_of_lt_add_one (Int.ediv_lt_of_lt_mul (by omega) (by rw [Int.add_mul]; omega))
      refine ⟨wtc, ?_, fun i hi => by show come (zset st 5 n 0) s n 1 i = st 1 i; rw [come_1, if_neg hi, zset_o (by decide)], Or.inr ⟨show (2 : Int) ≤ 2 by decide, show (2 : Int) ≤ 4 by decide, by show come (zset st 5 n 0) s n 1 s = n; rw [come_1, if_pos rfl]⟩, ⟨rfl, rfl, rfl⟩, ?_, ?_⟩
      · rcases contS_ok (x := Int.tdiv (sp * σ 13 s - st 5 n) (σ 13 s)) wtc hn with z | z
        · exact Or.inl z
        · exact Or.inr ⟨z.1, Int.le_trans z.2 hd, show (2 : Int) ≤ 2 by decide⟩
      · have := rem_wall hn q5
        rw [if_pos (show ((2 : Int) = 2 ∨ (2 : Int) = 3) by decide)]
        show rem σ (come (zset st 5 n 0) s n) + 1 ≤ _
        rw [rem_come]; omega
      · exact Four.c.t Four.z5
  · rw [if_neg q5]
    by_cases hw : σ 7 n ≠ -1 ∧ st 9 (σ 7 n) ≠ 1
    · rw [if_pos hw]
      have wtc : WT σ (come (zset st 9 (σ 7 n) 1) s n) := (WT.h9 wt).come hn (fun i a b => by rw [zset_o (by decide)]; exact free i a b)
      refine ⟨wtc, Or.inl rfl, fun i hi => by show come (zset st 9 (σ 7 n) 1) s n 1 i = st 1 i; rw [come_1, if_neg hi, zset_o (by decide)], Or.inr ⟨show (2 : Int) ≤ 3 by decide, show (3 : Int) ≤ 4 by decide, by show come (zset st 9 (σ 7 n) 1) s n 1 s = n; rw [come_1, if_pos rfl]⟩, ⟨rfl, rfl, rfl⟩, ?_, ?_⟩
      · have := rem_house (σ := σ) (n := σ 7 n) (by omega) hw.2
        rw [if_pos (show ((3 : Int) = 2 ∨ (3 : Int) = 3) by decide)]
        show rem σ (come (zset st 9 (σ 7 n) 1) s n) + 1 ≤ _
        rw [rem_come]; omega
      · exact Four.c.t Four.z9
    · rw [if_neg hw]
      have wtc : WT σ (come st s n) := wt.come hn free
      refine ⟨wtc, ?_, fun i hi => by show come st s n 1 i = st 1 i; rw [come_1, if_neg hi], Or.inr ⟨show (2 : Int) ≤ 4 by decide, show (4 : Int) ≤ 4 by decide, by show come st s n 1 s = n; rw [come_1, if_pos rfl]⟩, ⟨rfl, rfl, rfl⟩, ?_, ?_⟩
      · rcases contS_ok (x := sp) wtc hn with z | z
        · exact Or.inl z
        · exact Or.inr ⟨z.1, z.2, show (2 : Int) ≤ 4 by decide⟩
      · rw [if_neg (show ¬ ((4 : Int) = 2 ∨ (4 : Int) = 3) by decide)]
        show rem σ (come st s n) + 0 ≤ _
        rw [rem_come]; omega
      · exact Four.c
theorem ecl_len {σ : zH} {E : List zEv} {e : zEv} : ((ecl σ (E ++ [e])).length : Int) ≤ (ecl σ E).length + (if eK e = 2 ∨ eK e = 3 then 1 else 0) := by
  rw [ecl_app, List.length_append]
  by_cases c : eClaims σ e
  · rw [ecl_y c, if_pos c.1]; simp
  · rw [ecl_n c]
    split <;> simp <;> omega
