theorem q_R_isFree {d : Nat} {σ st : zH} {c : Int} {h : zH} (b : RC σ st h) (hc : 0 ≤ c ∧ c < nC σ) : m_R_isFree (d + 3) 0 c h = some (.inl (if sAt σ st c = -1 ∧ ¬ (σ 7 c ≠ -1 ∧ st 9 (σ 7 c) ≠ 1) ∧ st 5 c = 0 then 1 else 0), h) := by
  have hn := b.2.2.1.n
  have hh := b.2.2.1.2.2.1 c hc.1 hc.2
  have ix : w32 (w32 (60 * 0) + c) = c := by rw [ixw (by omega) (by omega)]; omega
  have e5 : h 448 c = st 5 c := by
    have := (b.2.1.2.2.2 c hc.1 hc.2).1
    rwa [show 60 * 0 + c = c by omega] at this
  rw [em_R_isFree, q_R_stoneAt b.2.2.1 b.1 b.2.1, zqi_s]
  by_cases c1 : sAt σ st c = -1
  · rw [if_pos c1, q_R_wholeAt b.2.2.1 b.1 b.2.1 hc, zqi_s, ix, e5]
    by_cases c2 : σ 7 c ≠ -1 ∧ st 9 (σ 7 c) ≠ 1
    · rw [if_pos c2, if_neg c2.1, if_neg (fun z => z.2.1 c2)]
    · rw [if_neg c2, if_pos rfl, if_pos (by omega)]
      by_cases c3 : st 5 c = 0
      · rw [if_pos c3, if_pos ⟨c1, c2, c3⟩]
      · rw [if_neg c3, if_neg (fun z => c3 z.2.2)]
  · rw [if_neg c1, if_neg (fun z => c1 z.1)]
theorem RT_h1 {σ st : zH} {v : Int} {h : zH} (t : RT σ st v h) {s x : Int} : RT σ (zset st 1 s x) v (zset h 444 (10 * v + s) x) := by
  obtain ⟨t0, t1, t2, t3⟩ := t
  refine ⟨t0, fun i a b => ⟨?_, ?_, ?_⟩, fun i a b => ?_, fun i a b => ⟨?_, ?_, ?_⟩⟩
  · rw [zset_g, zset_g, (t1 i a b).1]
    by_cases e : i = s
    · rw [if_pos (by omega), if_pos e]
    · rw [if_neg (by omega), if_neg e]
  · rw [zset_o (by decide), zset_o (by decide)]; exact (t1 i a b).2.1
  · rw [zset_o (by decide), zset_o (by decide)]; exact (t1 i a b).2.2
  · rw [zset_o (by decide), zset_o (by decide)]; exact t2 i a b
  · rw [zset_o (by decide), zset_o (by decide)]; exact (t3 i a b).1
  · rw [zset_o (by decide), zset_o (by decide)]; exact (t3 i a b).2.1
  · rw [zset_o (by decide), zset_o (by decide)]; exact (t3 i a b).2.2
theorem q_R_wh146 {d : Nat} {σ h : zH} {x1 x2 x3 x4 x5 : Int} {Q : zV → zH → Prop} (w : WS σ) (g : RS σ h) : ∀ (n : Nat) {x7 x8 : Int}, 0 ≤ x8 → x8 + n = nC σ →
    (x7 ≠ 0 → (∀ y, x8 ≤ y → y < nC σ → h 448 (60 + y) = h 448 y) → zWp (if x4 = x2 then some ((.inl x5), h) else (l_R_whence_28 (d + 1) x1 x2 x3 (w32 (x4 + 1)) (w32 (x5 + 1)) h)) Q) →
    (¬ (x7 ≠ 0 ∧ ∀ y, x8 ≤ y → y < nC σ → h 448 (60 + y) = h 448 y) → zWp (l_R_whence_28 (d + 1) x1 x2 x3 x4 (w32 (x5 + 1)) h) Q) → zWp (l_R_whence_146 (d + 1) x1 x2 x3 x4 x5 x7 x8 h) Q := by
  intro n
  have hn := w.n
  induction n with
  | zero =>
    intro x7 x8 h8 hh kt kf
    rw [el_R_whence_146]
    refine zWp_qi (q_R_cells w g) (zWp_nt (by omega) ?_)
    by_cases c : x7 = 0
    · exact zWp_it c (kf (fun z => z.1 c))
    · exact zWp_nt c (kt c (fun y y1 y2 => by omega))
  | succ n ih =>
    intro x7 x8 h8 hh kt kf
    rw [el_R_whence_146, w32_i (x := x8 + 1) (by omega), w32_i (x := 60 + x8) (by omega)]
    refine zWp_qi (q_R_cells w g) (zWp_it (by omega) ?_)
    by_cases c : x7 = 0
    · refine zWp_it c (ih (by omega) (by omega) (fun z => absurd rfl z) (fun _ => kf (fun z => z.1 c)))
    · refine zWp_nt c (zWp_it (by omega) (zWp_it (by omega) ?_))
      by_cases e : h 448 (60 + x8) = h 448 x8
      · refine zWp_it e (ih (by omega) (by omega) (fun _ z => kt c (fun y y1 y2 => ?_)) (fun z => kf (fun u => z ⟨by decide, fun y y1 y2 => u.2 y (by omega) y2⟩)))
        by_cases q : y = x8
        · rw [q]; exact e
        · exact z y (by omega) y2
      · exact zWp_nt e (ih (by omega) (by omega) (fun z => absurd rfl z) (fun _ => kf (fun u => e (u.2 x8 (by omega) (by omega)))))
