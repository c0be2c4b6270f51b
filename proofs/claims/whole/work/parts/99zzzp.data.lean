/-! the making machine: cells as data -/
abbrev zDc : Type := Int × Int × List Int
abbrev zD : Type := List zDc
def ddf (k : Int) : Int := if k < 103 then 0 else -1
def dcv (c : zDc) : Int → Int := fun i => if 0 ≤ i ∧ i.toNat < c.2.2.length then c.2.2.getD i.toNat 0 else ddf c.1
def dsl (c : zDc) : Int := if c.1 < 100 then (c.2.2.length : Int) else c.2.1
def dsm : zD → Int
  | [] => 0
  | c :: D => dsl c + dsm D
def dat (D : zD) (r : Int) : zDc := D.getD r.toNat (0, 0, [])
def tH (D : zD) : zH := fun a => if a = -1 then (fun b => if b = 0 then (D.length : Int) else if b = 1 then dsm D else 0) else if a = -2 then (fun b => if 0 ≤ b then (dat D b).1 else 0) else if a = -3 then (fun b => if 0 ≤ b then (dat D b).2.1 else 0) else if 0 ≤ a then dcv (dat D a) else fun _ => 0
def dget (D : zD) (r j : Int) : Int := dcv (dat D r) j
def lset (c : zDc) (i : Nat) (v : Int) : zDc := (c.1, c.2.1, (c.2.2 ++ List.replicate (i + 1 - c.2.2.length) (ddf c.1)).set i v)
def dset (D : zD) (r i v : Int) : zD := D.set r.toNat (lset (dat D r) i.toNat v)
theorem tH_n {D : zD} : tH D (-1) 0 = (D.length : Int) := by unfold tH; rw [if_pos rfl, if_pos rfl]
theorem tH_s {D : zD} : tH D (-1) 1 = dsm D := by unfold tH; rw [if_pos rfl, if_neg (by decide), if_pos rfl]
theorem tH_c {D : zD} {a : Int} (ha : 0 ≤ a) : tH D a = dcv (dat D a) := by unfold tH; rw [if_neg (by omega), if_neg (by omega), if_neg (by omega), if_pos ha]
theorem tH_g {D : zD} {a j : Int} (ha : 0 ≤ a) : tH D a j = dget D a j := by rw [tH_c ha]; rfl
theorem tH_k {D : zD} {b : Int} (hb : 0 ≤ b) : tH D (-2) b = (dat D b).1 := by unfold tH; rw [if_neg (by decide), if_pos rfl, if_pos hb]
theorem tH_k0 {D : zD} {b : Int} (hb : ¬ 0 ≤ b) : tH D (-2) b = 0 := by unfold tH; rw [if_neg (by decide), if_pos rfl, if_neg hb]
theorem tH_l0 {D : zD} {b : Int} (hb : ¬ 0 ≤ b) : tH D (-3) b = 0 := by unfold tH; rw [if_neg (by decide), if_neg (by decide), if_pos rfl, if_neg hb]
theorem tH_l {D : zD} {b : Int} (hb : 0 ≤ b) : tH D (-3) b = (dat D b).2.1 := by unfold tH; rw [if_neg (by decide), if_neg (by decide), if_pos rfl, if_pos hb]
theorem dsm_app (D : zD) (c : zDc) : dsm (D ++ [c]) = dsm D + dsl c := by
  induction D with
  | nil => show dsl c + 0 = 0 + dsl c; omega
  | cons x D ih => show dsl x + dsm (D ++ [c]) = dsl x + dsm D + dsl c; omega
theorem dat_app {D : zD} {c : zDc} {b : Int} (hb : 0 ≤ b) : dat (D ++ [c]) b = if b = (D.length : Int) then c else dat D b := by
  unfold dat
  rw [List.getD_eq_getElem?_getD, List.getD_eq_getElem?_getD]
  by_cases e : b = (D.length : Int)
  · rw [if_pos e, show b.toNat = D.length by omega, List.getElem?_append_right (Nat.le_refl _), Nat.sub_self]
    rfl
  · rw [if_neg e]
    by_cases e2 : b.toNat < D.length
    · rw [List.getElem?_append_left e2]
    · rw [List.getElem?_eq_none (by simp; omega), List.getElem?_eq_none (by omega)]
theorem tH_app (D : zD) (c : zDc) : tH (D ++ [c]) = znew (tH D) c.1 c.2.1 (dsl c) (dcv c) := by
  funext a b
  have hn : tH D (-1) 0 = (D.length : Int) := tH_n
  unfold znew
  by_cases e1 : a = -1
  · subst e1
    rw [if_pos rfl]
    unfold tH
    rw [if_pos rfl]
    simp only [if_pos]
    by_cases b0 : b = 0
    · rw [if_pos b0, if_pos b0, List.length_append]
      show ((D.length + 1 : Nat) : Int) = _
      rw [Int.natCast_add]
      rfl
    · rw [if_neg b0, if_neg b0]
      by_cases b1 : b = 1
      · rw [if_pos b1, if_pos b1, dsm_app]
        simp
      · rw [if_neg b1, if_neg b1, if_neg b0, if_neg b1]
  · rw [if_neg e1]
    by_cases e2 : a = -2
    · subst e2
      rw [if_pos rfl, hn]
      by_cases b0 : 0 ≤ b
      · rw [tH_k b0, dat_app b0]
        by_cases e : b = (D.length : Int)
        · rw [if_pos e, if_pos e]
        · rw [if_neg e, if_neg e, tH_k b0]
      · rw [if_neg (by omega)]
        rw [tH_k0 b0, tH_k0 b0]
    · rw [if_neg e2]
      by_cases e3 : a = -3
      · subst e3
        rw [if_pos rfl, hn]
        by_cases b0 : 0 ≤ b
        · rw [tH_l b0, dat_app b0]
          by_cases e : b = (D.length : Int)
          · rw [if_pos e, if_pos e]
          · rw [if_neg e, if_neg e, tH_l b0]
        · rw [if_neg (by omega)]
          rw [tH_l0 b0, tH_l0 b0]
      · rw [if_neg e3, hn]
        by_cases a0 : 0 ≤ a
        · rw [tH_c a0, dat_app a0]
          by_cases e : a = (D.length : Int)
          · rw [if_pos e, if_pos e]
          · rw [if_neg e, if_neg e, tH_c a0]
        · rw [if_neg (by omega)]
          unfold tH
          rw [if_neg e1, if_neg e2, if_neg e3, if_neg a0, if_neg e1, if_neg e2, if_neg e3, if_neg a0]
theorem lset_cv (c : zDc) (i : Nat) (v : Int) : dcv (lset c i v) = fun b => if b = (i : Int) then v else dcv c b := by
  funext b
  unfold dcv lset
  simp only
  rw [List.length_set, List.length_append, List.length_replicate]
  by_cases e : b = (i : Int)
  · subst e
    rw [if_pos rfl, if_pos ⟨by omega, by omega⟩, List.getD_eq_getElem?_getD, List.getElem?_set, if_pos (by omega), if_pos (by rw [List.length_append, List.length_replicate]; omega)]
    rfl
  · rw [if_neg e]
    by_cases h0 : 0 ≤ b
    · have hb : i ≠ b.toNat := by omega
      by_cases h1 : b.toNat < c.2.2.length
      · rw [if_pos ⟨h0, by omega⟩, if_pos ⟨h0, h1⟩, List.getD_eq_getElem?_getD, List.getD_eq_getElem?_getD, List.getElem?_set, if_neg hb, List.getElem?_append_left h1]
      · rw [if_neg (show ¬ (0 ≤ b ∧ b.toNat < c.2.2.length) from fun z => h1 z.2)]
        by_cases h2 : b.toNat < c.2.2.length + (i + 1 - c.2.2.length)
        · rw [if_pos ⟨h0, h2⟩, List.getD_eq_getElem?_getD, List.getElem?_set, if_neg hb, List.getElem?_append_right (by omega), List.getElem?_replicate, if_pos (by omega)]
          rfl
        · rw [if_neg (fun z => h2 z.2)]
    · rw [if_neg (fun z => h0 z.1), if_neg (fun z => h0 z.1)]
theorem dsm_set {D : zD} {k : Nat} {c : zDc} (h : dsl c = dsl (D.getD k (0, 0, []))) : dsm (D.set k c) = dsm D := by
  induction D generalizing k with
  | nil => rfl
  | cons x D ih =>
    cases k with
    | zero => show dsl c + dsm D = dsl x + dsm D; rw [h]; rfl
    | succ k => show dsl x + dsm (D.set k c) = dsl x + dsm D; rw [ih h]
theorem dat_set {D : zD} {r b : Int} {c : zDc} (hr : 0 ≤ r) (hl : r < D.length) (hb : 0 ≤ b) : dat (D.set r.toNat c) b = if b = r then c else dat D b := by
  unfold dat
  rw [List.getD_eq_getElem?_getD, List.getD_eq_getElem?_getD, List.getElem?_set]
  by_cases e : b = r
  · rw [if_pos e, if_pos (by omega), if_pos (by omega)]
    rfl
  · rw [if_neg e, if_neg (by omega)]
theorem tH_set {D : zD} {r i v : Int} (hr : 0 ≤ r) (hl : r < D.length) (hi : 0 ≤ i) (ho : (dat D r).1 < 100 → i.toNat < (dat D r).2.2.length) : tH (dset D r i v) = zset (tH D) r i v := by
  have e1 : dsl (lset (dat D r) i.toNat v) = dsl (dat D r) := by
    unfold dsl lset
    simp only
    by_cases h : (dat D r).1 < 100
    · rw [if_pos h, if_pos h, List.length_set, List.length_append, List.length_replicate]
      have := ho h
      omega
    · rw [if_neg h, if_neg h]
  have e2 : dsm (dset D r i v) = dsm D := dsm_set e1
  have e3 : (dset D r i v).length = D.length := List.length_set
  have e4 : ∀ b : Int, 0 ≤ b → dat (dset D r i v) b = if b = r then lset (dat D r) i.toNat v else dat D b := fun b hb => dat_set hr hl hb
  funext a b
  unfold zset
  by_cases e : a = r
  · subst e
    rw [if_pos rfl, tH_c hr, e4 a hr, if_pos rfl, lset_cv, tH_c hr]
    simp only
    rw [show ((i.toNat : Nat) : Int) = i by omega]
  · rw [if_neg e]
    by_cases a0 : 0 ≤ a
    · rw [tH_c a0, e4 a a0, if_neg e, tH_c a0]
    · by_cases a1 : a = -1
      · subst a1
        unfold tH
        rw [if_pos rfl, if_pos rfl, e2, e3]
      · by_cases a2 : a = -2
        · subst a2
          by_cases b0 : 0 ≤ b
          · rw [tH_k b0, tH_k b0, e4 b b0]
            by_cases eb : b = r
            · rw [if_pos eb, eb]; rfl
            · rw [if_neg eb]
          · rw [tH_k0 b0, tH_k0 b0]
        · by_cases a3 : a = -3
          · subst a3
            by_cases b0 : 0 ≤ b
            · rw [tH_l b0, tH_l b0, e4 b b0]
              by_cases eb : b = r
              · rw [if_pos eb, eb]; rfl
              · rw [if_neg eb]
            · rw [tH_l0 b0, tH_l0 b0]
          · unfold tH
            rw [if_neg a1, if_neg a2, if_neg a3, if_neg a0, if_neg a1, if_neg a2, if_neg a3, if_neg a0]
def dfd (ty : Nat) : Int := if 3 ≤ ty then -1 else 0
theorem dcv_obj {ci : Nat} {ts : List Nat} (hc : ci < 100) : dcv ((ci : Int), 0, ts.map dfd) = zdf ts := by
  funext j
  unfold dcv zdf ddf
  simp only
  rw [List.length_map, if_pos (show (ci : Int) < 103 by omega)]
  by_cases h : 0 ≤ j ∧ j.toNat < ts.length
  · rw [if_pos h, List.getD_eq_getElem?_getD, List.getElem?_map, List.getD_eq_getElem?_getD, List.getElem?_eq_getElem h.2]
    simp only [Option.map_some, Option.getD_some]
    unfold dfd
    by_cases h3 : 3 ≤ ts[j.toNat]
    · rw [if_pos h3, if_pos ⟨h.1, h3⟩]
    · rw [if_neg h3, if_neg (fun z => h3 z.2)]
  · rw [if_neg h, if_neg]
    intro z
    apply h
    refine ⟨z.1, ?_⟩
    apply Nat.lt_of_not_le
    intro hle
    have z2 := z.2
    rw [List.getD_eq_getElem?_getD, List.getElem?_eq_none hle] at z2
    exact absurd z2 (by decide)
theorem dcv_arr {k n : Int} : dcv (k, n, []) = fun _ => ddf k := by
  funext j
  unfold dcv
  rw [if_neg (fun z => absurd z.2 (Nat.not_lt_zero _))]
/-! what the making machine does -/
def dcmp (c : ClassFile.Cond) (a b : Int) : Bool := match c with
  | .eq => decide (a = b)
  | .ne => !decide (a = b)
  | .lt => decide (a < b)
  | .ge => !decide (a < b)
  | .gt => decide (b < a)
  | .le => !decide (b < a)
def dgi (L : zL) (n : Nat) : Option Int := match L.getD n none with
  | some (.inl a) => some a
  | _ => none
def dgr (L : zL) (n : Nat) : Option (Int × Nat × Nat) := match L.getD n none with
  | some (.inr (.inr q)) => some q
  | _ => none
def dz (pc : Nat) (ins : Instr) (ax : List Int) (L : zL) (S : List zV) (D : zD) : Option (Nat × zL × List zV × zD) := match ins with
  | .iconst _ => some (pc + 1, L, .inl (ax.getD 0 0) :: S, D)
  | .bipush _ => some (pc + 2, L, .inl (ax.getD 0 0) :: S, D)
  | .sipush _ => some (pc + 3, L, .inl (ax.getD 0 0) :: S, D)
  | .lconst _ => some (pc + 1, L, .inr (.inl (ax.getD 0 0)) :: S, D)
  | .iload_n n => match dgi L n with
    | some a => some (pc + 1, L, .inl a :: S, D)
    | none => none
  | .iload n => match dgi L n with
    | some a => some (pc + 2, L, .inl a :: S, D)
    | none => none
  | .aload_n n => match dgr L n with
    | some (r, k, w) => some (pc + 1, L, zrf r k w :: S, D)
    | none => none
  | .istore_n n => match S, Nat.blt n L.length with
    | .inl a :: S, true => some (pc + 1, zst1 L n (.inl a), S, D)
    | _, _ => none
  | .istore n => match S, Nat.blt n L.length with
    | .inl a :: S, true => some (pc + 2, zst1 L n (.inl a), S, D)
    | _, _ => none
  | .iinc n _ => match dgi L n, Nat.blt n L.length with
    | some a, true => some (pc + 3, zst1 L n (.inl (w32 (a + ax.getD 0 0))), S, D)
    | _, _ => none
  | .dup => match S with
    | .inr (.inr (r, k, w)) :: S => some (pc + 1, L, zrf r k w :: zrf r k w :: S, D)
    | _ => none
  | .goto _ => some ((ax.getD 0 0).toNat, L, S, D)
  | .if_icmp c _ => match S with
    | .inl b :: .inl a :: S => some ((match dcmp c a b with | true => (ax.getD 0 0).toNat | false => pc + 3), L, S, D)
    | _ => none
  | .getfield _ => match S, ax with
    | .inr (.inr (r, k, _)) :: S, ci :: j :: ty :: kd :: len :: _ :: _ => match Nat.beq k ci.toNat && (decide (0 ≤ r) && (Nat.beq ty.toNat 3 || Nat.beq ty.toNat 4)) with
      | true => some (pc + 3, L, zrf (dget D r j) kd.toNat len.toNat :: S, D)
      | false => none
    | _, _ => none
  | .arraylength => match S with
    | .inr (.inr (r, k, w)) :: S => match (Nat.beq k 100 || Nat.beq k 103) && decide (0 ≤ r) with
      | true => some (pc + 1, L, .inl w :: S, D)
      | false => none
    | _ => none
  | .iaload => match S with
    | .inl i :: .inr (.inr (r, k, w)) :: S => match Nat.beq k 100 && (decide (0 ≤ r) && decide (0 ≤ i ∧ i < w)) with
      | true => some (pc + 1, L, .inl (dget D r i) :: S, D)
      | false => none
    | _ => none
  | .iastore => match S with
    | .inl v :: .inl i :: .inr (.inr (r, k, w)) :: S => match Nat.beq k 100 && (decide (0 ≤ r) && (decide (0 ≤ i ∧ i < w) && (decide (r < D.length) && decide (100 ≤ (dat D r).1)))) with
      | true => some (pc + 1, L, S, dset D r i v)
      | false => none
    | _ => none
  | _ => none
theorem dgi_ok {L : zL} {n : Nat} {a : Int} (h : dgi L n = some a) (f : Int → zR) : zgi L n f = f a := by
  unfold dgi at h
  unfold zgi
  split at h
  · rename_i x e; cases h; rw [e]
  · cases h
theorem dgr_ok {L : zL} {n : Nat} {r : Int} {k w : Nat} (h : dgr L n = some (r, k, w)) (f : Int → Nat → Nat → zR) : zgr L n f = f r k w := by
  unfold dgr at h
  unfold zgr
  split at h
  · rename_i x e; cases h; rw [e]
  · cases h
theorem dzpo {r : Int} {x : zR} (h : 0 ≤ r) : zpo r x = x := by unfold zpo; rw [decide_eq_true h]
theorem dz_ok {Φ : Nat → List zV → zH → zR} {K : zC} {pc : Nat} {ins : Instr} {ax : List Int} {L : zL} {S : List zV} {D : zD} {pc1 : Nat} {L1 : zL} {S1 : List zV} {D1 : zD} (h : dz pc ins ax L S D = some (pc1, L1, S1, D1)) : zins false zFT zEL Φ K K pc ins ax L S (tH D) = K pc1 L1 S1 (tH D1) := by
  cases ins with
  | iconst _ => cases h; rfl
  | bipush _ => cases h; rfl
  | sipush _ => cases h; rfl
  | lconst _ => cases h; rfl
  | iload_n n =>
    replace h : (match (generalizing := false) dgi L n with | some a => some (pc + 1, L, .inl a :: S, D) | none => none) = some (pc1, L1, S1, D1) := h
    cases e : dgi L n with
    | none => rw [e] at h; cases h
    | some a =>
      rw [e] at h
      cases h
      exact dgi_ok e _
  | iload n =>
    replace h : (match (generalizing := false) dgi L n with | some a => some (pc + 2, L, .inl a :: S, D) | none => none) = some (pc1, L1, S1, D1) := h
    cases e : dgi L n with
    | none => rw [e] at h; cases h
    | some a =>
      rw [e] at h
      cases h
      exact dgi_ok e _
  | aload_n n =>
    replace h : (match (generalizing := false) dgr L n with | some (r, k, w) => some (pc + 1, L, zrf r k w :: S, D) | none => none) = some (pc1, L1, S1, D1) := h
    cases e : dgr L n with
    | none => rw [e] at h; cases h
    | some a =>
      obtain ⟨r, k, w⟩ := a
      rw [e] at h
      cases h
      exact dgr_ok e _
  | istore_n n =>
    replace h : (match (generalizing := false) S, Nat.blt n L.length with | .inl a :: S, true => some (pc + 1, zst1 L n (.inl a), S, D) | _, _ => none) = some (pc1, L1, S1, D1) := h
    split at h
    · rename_i e
      cases h
      show zck (Nat.blt n L.length) _ = _
      rw [e]
      rfl
    · cases h
  | istore n =>
    replace h : (match (generalizing := false) S, Nat.blt n L.length with | .inl a :: S, true => some (pc + 2, zst1 L n (.inl a), S, D) | _, _ => none) = some (pc1, L1, S1, D1) := h
    split at h
    · rename_i e
      cases h
      show zck (Nat.blt n L.length) _ = _
      rw [e]
      rfl
    · cases h
  | iinc n x =>
    replace h : (match (generalizing := false) dgi L n, Nat.blt n L.length with | some a, true => some (pc + 3, zst1 L n (.inl (w32 (a + ax.getD 0 0))), S, D) | _, _ => none) = some (pc1, L1, S1, D1) := h
    split at h
    · rename_i e1 e2
      cases h
      refine (dgi_ok e1 _).trans ?_
      rw [e2]
      rfl
    · cases h
  | dup =>
    replace h : (match (generalizing := false) S with | .inr (.inr (r, k, w)) :: S => some (pc + 1, L, zrf r k w :: zrf r k w :: S, D) | _ => none) = some (pc1, L1, S1, D1) := h
    split at h
    · cases h; rfl
    · cases h
  | goto _ => cases h; rfl
  | if_icmp c _ =>
    replace h : (match (generalizing := false) S with | .inl b :: .inl a :: S => some ((match (generalizing := false) dcmp c a b with | true => (ax.getD 0 0).toNat | false => pc + 3), L, S, D) | _ => none) = some (pc1, L1, S1, D1) := h
    split at h
    · rename_i b a S
      cases h
      show zif c a b (K (ax.getD 0 0).toNat _ _ _) (K (pc + 3) _ _ _) = _
      cases c
      · unfold zif dcmp
        by_cases e : a = b
        · rw [decide_eq_true e]; exact if_pos e
        · rw [decide_eq_false e]; exact if_neg e
      · unfold zif dcmp
        by_cases e : a = b
        · rw [decide_eq_true e]; exact if_pos e
        · rw [decide_eq_false e]; exact if_neg e
      all_goals first
        | (unfold zif dcmp
           by_cases e : a < b
           · rw [decide_eq_true e]; exact if_pos e
           · rw [decide_eq_false e]; exact if_neg e)
        | (unfold zif dcmp
           by_cases e : b < a
           · rw [decide_eq_true e]; exact if_pos e
           · rw [decide_eq_false e]; exact if_neg e)
    · cases h
  | getfield _ =>
    replace h : (match (generalizing := false) S, ax with | .inr (.inr (r, k, _)) :: S, ci :: j :: ty :: kd :: len :: _ :: _ => (match (generalizing := false) Nat.beq k ci.toNat && (decide (0 ≤ r) && (Nat.beq ty.toNat 3 || Nat.beq ty.toNat 4)) with | true => some (pc + 3, L, zrf (dget D r j) kd.toNat len.toNat :: S, D) | false => none) | _, _ => none) = some (pc1, L1, S1, D1) := h
    split at h
    · rename_i r k n S ci j ty kd len off tl
      cases e : Nat.beq k ci.toNat && (decide (0 ≤ r) && (Nat.beq ty.toNat 3 || Nat.beq ty.toNat 4)) with
      | false => rw [e] at h; cases h
      | true =>
        rw [e] at h
        cases h
        obtain ⟨e1, e2⟩ := zand2 e
        obtain ⟨e2, e3⟩ := zand2 e2
        have e2 := of_decide_eq_true e2
        show zck (Nat.beq k ci.toNat) (zpo r _) = _
        rw [e1]
        show zpo r _ = _
        rw [dzpo e2]
        rcases Bool.or_eq_true_iff.mp e3 with q | q
        · rw [Nat.eq_of_beq_eq_true q, tH_g e2]
          rfl
        · rw [Nat.eq_of_beq_eq_true q, tH_g e2]
          rfl
    · cases h
  | arraylength =>
    replace h : (match (generalizing := false) S with | .inr (.inr (r, k, w)) :: S => (match (generalizing := false) (Nat.beq k 100 || Nat.beq k 103) && decide (0 ≤ r) with | true => some (pc + 1, L, .inl w :: S, D) | false => none) | _ => none) = some (pc1, L1, S1, D1) := h
    split at h
    · rename_i r k w S
      cases e : (Nat.beq k 100 || Nat.beq k 103) && decide (0 ≤ r) with
      | false => rw [e] at h; cases h
      | true =>
        rw [e] at h
        cases h
        obtain ⟨e1, e2⟩ := zand2 e
        show zck (Nat.beq k 100 || Nat.beq k 103) (zpo r _) = _
        rw [e1]
        exact dzpo (of_decide_eq_true e2)
    · cases h
  | iaload =>
    replace h : (match (generalizing := false) S with | .inl i :: .inr (.inr (r, k, w)) :: S => (match (generalizing := false) Nat.beq k 100 && (decide (0 ≤ r) && decide (0 ≤ i ∧ i < w)) with | true => some (pc + 1, L, .inl (dget D r i) :: S, D) | false => none) | _ => none) = some (pc1, L1, S1, D1) := h
    split at h
    · rename_i i r k w S
      cases e : Nat.beq k 100 && (decide (0 ≤ r) && decide (0 ≤ i ∧ i < w)) with
      | false => rw [e] at h; cases h
      | true =>
        rw [e] at h
        cases h
        obtain ⟨e1, e2⟩ := zand2 e
        obtain ⟨e2, e3⟩ := zand2 e2
        have e2 := of_decide_eq_true e2
        show zck (Nat.beq k 100) (zpo r _) = _
        rw [e1]
        show zpo r _ = _
        rw [dzpo e2, if_pos (of_decide_eq_true e3), tH_g e2]
    · cases h
  | iastore =>
    replace h : (match (generalizing := false) S with | .inl v :: .inl i :: .inr (.inr (r, k, w)) :: S => (match (generalizing := false) Nat.beq k 100 && (decide (0 ≤ r) && (decide (0 ≤ i ∧ i < w) && (decide (r < D.length) && decide (100 ≤ (dat D r).1)))) with | true => some (pc + 1, L, S, dset D r i v) | false => none) | _ => none) = some (pc1, L1, S1, D1) := h
    split at h
    · rename_i v i r k w S
      cases e : Nat.beq k 100 && (decide (0 ≤ r) && (decide (0 ≤ i ∧ i < w) && (decide (r < D.length) && decide (100 ≤ (dat D r).1)))) with
      | false => rw [e] at h; cases h
      | true =>
        rw [e] at h
        cases h
        obtain ⟨e1, e2⟩ := zand2 e
        obtain ⟨e2, e3⟩ := zand2 e2
        obtain ⟨e3, e4⟩ := zand2 e3
        obtain ⟨e4, e5⟩ := zand2 e4
        have e2 := of_decide_eq_true e2
        have e3 := of_decide_eq_true e3
        have e4 := of_decide_eq_true e4
        have e5 := of_decide_eq_true e5
        show zck (Nat.beq k 100) (zpo r _) = _
        rw [e1]
        show zpo r _ = _
        rw [dzpo e2, if_pos e3, tH_set e2 e4 e3.1 (fun z => by omega)]
    · cases h
  | _ => cases h
