/-- a method: its name, code, locals, type of its answer, kind of its answer, rows -/
abbrev zMD : Type := MethodName × ByteArray × Nat × Option FieldType × Int × List zRow × List (Nat × List Bool)
theorem zpi_inv {S : List zV} {f : Int → List zV → zR} {q : zV × zH} (h : zpi S f = some q) : ∃ a S', S = .inl a :: S' ∧ f a S' = some q := by
  unfold zpi at h; split at h
  · exact ⟨_, _, rfl, h⟩
  · cases h
theorem zpl_inv {S : List zV} {f : Int → List zV → zR} {q : zV × zH} (h : zpl S f = some q) : ∃ a S', S = .inr (.inl a) :: S' ∧ f a S' = some q := by
  unfold zpl at h; split at h
  · exact ⟨_, _, rfl, h⟩
  · cases h
theorem zpr_inv {S : List zV} {f : Int → Nat → Nat → List zV → zR} {q : zV × zH} (h : zpr S f = some q) : ∃ r k w S', S = .inr (.inr (r, k, w)) :: S' ∧ f r k w S' = some q := by
  unfold zpr at h; split at h
  · exact ⟨_, _, _, _, rfl, h⟩
  · cases h
theorem zgi_inv {L : zL} {n : Nat} {f : Int → zR} {q : zV × zH} (h : zgi L n f = some q) : ∃ a, L.getD n none = some (.inl a) ∧ f a = some q := by
  unfold zgi at h; split at h
  · rename_i e; exact ⟨_, e, h⟩
  · cases h
theorem zgl_inv {L : zL} {n : Nat} {f : Int → zR} {q : zV × zH} (h : zgl L n f = some q) : ∃ a, L.getD n none = some (.inr (.inl a)) ∧ f a = some q := by
  unfold zgl at h; split at h
  · rename_i e; exact ⟨_, e, h⟩
  · cases h
theorem zgr_inv {L : zL} {n : Nat} {f : Int → Nat → Nat → zR} {q : zV × zH} (h : zgr L n f = some q) : ∃ r k w, L.getD n none = some (.inr (.inr (r, k, w))) ∧ f r k w = some q := by
  unfold zgr at h; split at h
  · rename_i e; exact ⟨_, _, _, e, h⟩
  · cases h
theorem zck_inv {b : Bool} {x : zR} {q : zV × zH} (h : zck b x = some q) : b = true ∧ x = some q := by
  cases b
  · cases h
  · exact ⟨rfl, h⟩
theorem zit_inv {c : Prop} {d : Decidable c} {x : zR} {q : zV × zH} (h : (if c then x else none) = some q) : c ∧ x = some q := by
  by_cases e : c
  · rw [if_pos e] at h; exact ⟨e, h⟩
  · rw [if_neg e] at h; cases h
theorem zpo_inv {r : Int} {x : zR} {q : zV × zH} (h : zpo r x = some q) : 0 ≤ r ∧ x = some q := by
  unfold zpo at h; split at h
  · rename_i e; exact ⟨of_decide_eq_true e, h⟩
  · cases h
theorem zdz_inv {b : Int} {x : zR} {q : zV × zH} (h : zdz b x = some q) : ¬ b = 0 ∧ x = some q := by
  unfold zdz at h; split at h
  · cases h
  · rename_i e; exact ⟨of_decide_eq_false e, h⟩
theorem zbo_inv {a : Int} {x : zR} {q : zV × zH} (h : zbo a x = some q) : (a = 0 ∨ a = 1) ∧ x = some q := by
  unfold zbo at h; split at h
  · rename_i e; exact ⟨of_decide_eq_true e, h⟩
  · cases h
theorem zif_inv {c : Prop} {d : Decidable c} {x : zR} {q : zV × zH} (h : (if c then none else x) = some q) : ¬ c ∧ x = some q := by
  by_cases e : c
  · rw [if_pos e] at h; cases h
  · rw [if_neg e] at h; exact ⟨e, h⟩
theorem zqi_inv {x : zR} {f : Int → zH → zR} {q : zV × zH} (h : zqi x f = some q) : ∃ a h1, x = some (.inl a, h1) ∧ f a h1 = some q := by
  unfold zqi at h; split at h
  · exact ⟨_, _, rfl, h⟩
  · cases h
theorem zql_inv {x : zR} {f : Int → zH → zR} {q : zV × zH} (h : zql x f = some q) : ∃ a h1, x = some (.inr (.inl a), h1) ∧ f a h1 = some q := by
  unfold zql at h; split at h
  · exact ⟨_, _, rfl, h⟩
  · cases h
theorem zqv_inv {x : zR} {f : zH → zR} {q : zV × zH} (h : zqv x f = some q) : ∃ v h1, x = some (v, h1) ∧ f h1 = some q := by
  unfold zqv at h; split at h
  · exact ⟨_, _, rfl, h⟩
  · cases h
theorem ztake_inv : ∀ (n : Nat) (acc S as S' : List zV), ztake n acc S = some (as, S') → ∃ ps, as = ps.reverse ++ acc ∧ S = ps ++ S' ∧ ps.length = n
  | 0, acc, S, as, S', h => by cases h; exact ⟨[], rfl, rfl, rfl⟩
  | n + 1, acc, [], as, S', h => by cases h
  | n + 1, acc, v :: S, as, S', h => by
    obtain ⟨ps, e1, e2, e3⟩ := ztake_inv n (v :: acc) S as S' h
    exact ⟨v :: ps, by rw [e1]; simp, by rw [e2]; rfl, by rw [List.length_cons, e3]⟩
theorem ztake_stk {n : Nat} {S as S' : List zV} (h : ztake n [] S = some (as, S')) : S = as.reverse ++ S' ∧ as.length = n := by
  obtain ⟨ps, e1, e2, e3⟩ := ztake_inv n [] S as S' h
  rw [List.append_nil] at e1
  subst e1
  exact ⟨by rw [List.reverse_reverse]; exact e2, by rw [List.length_reverse]; exact e3⟩
def zlen : Instr → Nat
  | .bipush _ | .iload _ | .lload _ | .aload _ | .istore _ | .lstore _ | .astore _ | .ldc _ | .newarray _ => 2
  | .sipush _ | .ldc_w _ | .ldc2_w _ | .iinc _ _ | .goto _ | .ifCond _ _ | .if_icmp _ _ | .ifnull _ | .ifnonnull _ | .getfield _ | .putfield _ | .invokevirtual _ | .invokestatic _ | .invokespecial _ | .new _ | .anewarray _ => 3
  | _ => 1
def zlnok (ins : Instr) (len : Nat) : Prop := match ins with
  | .tableswitch _ _ _ _ => True
  | .lookupswitch _ _ => True
  | i => len = zlen i
/-- a field's row -/
def zFok (Ts : List Cond) (cl : List vw_C) (FT : Nat → List Nat) (FK : Nat → Nat → Nat × Nat × Int) (own : String) (idx : Nat) (ax : List Int) : Prop :=
  ∃ (ci j ty kd len : Nat) (off : Int) (tl : List Int) (C : String) (T : u_T) (N : Nat) (tf : Nat → FieldType), ax = (ci : Int) :: (j : Int) :: (ty : Int) :: (kd : Int) :: (len : Int) :: off :: tl ∧ ci < 100 ∧ zClok Ts cl FT ci C T N tf ∧ Cond.fieldLink own idx (T j).1 (T j).2.1 (T j).2.2.1 ∈ Ts ∧ (FT ci)[j]? = some ty ∧ FK ci j = (kd, len, off)
/-- a call's row -/
def zVok (Ts : List Cond) (cl : List vw_C) (MT : Nat → zMD) (own : String) (idx : Nat) (ax : List Int) : Prop :=
  ∃ (y n : Nat) (ci : Nat) (tl : List Int) (C : String) (T : u_T) (N : Nat), ax = (y : Int) :: ((n + 1 : Nat) : Int) :: (MT y).2.2.2.2.1 :: (ci : Int) :: tl ∧ ci < 100 ∧ cl[ci]? = some (C, T, N) ∧ Cond.methodLink own idx (MT y).1 ∈ Ts ∧ Cond.instanceMethod (MT y).1 ∈ Ts ∧ Cond.selects C (MT y).1 (MT y).1 ∈ Ts ∧ zCal Ts (MT y).1 (MT y).2.1 (MT y).2.2.1 (MT y).2.2.2.1 n ∧ ((MT y).2.2.2.2.1 = 0 ∨ (MT y).2.2.2.2.1 = 1 ∨ (MT y).2.2.2.2.1 = 2 ∨ (MT y).2.2.2.2.1 = 3)
def zSok (Ts : List Cond) (MT : Nat → zMD) (own : String) (idx : Nat) (ax : List Int) : Prop :=
  (∃ tl, ax = -2 :: tl ∧ Cond.methodLink own idx arraycopyName ∈ Ts ∧ Cond.native arraycopyName ∈ Ts ∧ Cond.static arraycopyName ∈ Ts ∧ Cond.initialized "java/lang/System" ∈ Ts) ∨
  ∃ (y n : Nat) (tl : List Int), ax = (y : Int) :: (n : Int) :: (MT y).2.2.2.2.1 :: tl ∧ (Cond.methodLink own idx (MT y).1 ∈ Ts ∨ ∃ host, Cond.methodLinkNest own idx (MT y).1 host ∈ Ts) ∧ Cond.static (MT y).1 ∈ Ts ∧ zCal Ts (MT y).1 (MT y).2.1 (MT y).2.2.1 (MT y).2.2.2.1 n ∧ ((MT y).2.2.2.2.1 = 0 ∨ (MT y).2.2.2.2.1 = 1 ∨ (MT y).2.2.2.2.1 = 2 ∨ (MT y).2.2.2.2.1 = 3)
def zSwok (pc : Nat) (ins : Instr) (ax : List Int) : Prop := match ins with
  | .tableswitch d lo hi offs => ax = ((pc : Int) + d) :: ((offs.toList.drop 0).mapIdx (fun k o => [lo + (0 : Nat) + k, (pc : Int) + o])).flatten ∧ hi = lo + offs.size - 1 ∧ 0 ≤ (pc : Int) + d ∧ ∀ o ∈ offs.toList, 0 ≤ (pc : Int) + o
  | .lookupswitch d ps => ax = ((pc : Int) + d) :: (ps.toList.map (fun q => [q.1, (pc : Int) + q.2])).flatten ∧ 0 ≤ (pc : Int) + d ∧ (∀ q ∈ ps.toList, 0 ≤ (pc : Int) + q.2) ∧ (ps.toList.zip (ps.toList.drop 1)).all (fun (a, next) => a.1 < next.1) = true
  | _ => True
def zIok (md : Bool) (Ts : List Cond) (cl : List vw_C) (FT : Nat → List Nat) (FK : Nat → Nat → Nat × Nat × Int) (MT : Nat → zMD) (own : String) (rk : Int) (pc : Nat) (ins : Instr) (ax : List Int) : Prop := match ins with
  | .iconst i => ax.getD 0 0 = i ∧ zI32 i
  | .bipush i => zI32 (ax.getD 0 0) ∧ (Int8.ofInt i).toInt32 = Int32.ofInt (ax.getD 0 0)
  | .sipush i => zI32 (ax.getD 0 0) ∧ (Int16.ofInt i).toInt32 = Int32.ofInt (ax.getD 0 0)
  | .ldc idx => zI32 (ax.getD 0 0) ∧ Jvm.Cond.constant own idx (Int32.ofInt (ax.getD 0 0)) ∈ Ts
  | .ldc_w idx => zI32 (ax.getD 0 0) ∧ Jvm.Cond.constant own idx (Int32.ofInt (ax.getD 0 0)) ∈ Ts
  | .ldc2_w idx => zI64 (ax.getD 0 0) ∧ Jvm.Cond.constantLong own idx (Int64.ofInt (ax.getD 0 0)) ∈ Ts
  | .lconst i => zI64 (ax.getD 0 0) ∧ Int64.ofNat (i : Nat) = Int64.ofInt (ax.getD 0 0)
  | .iinc _ n => ax.getD 0 0 = n
  | .goto off => (pc : Int) + off = ax.getD 0 0 ∧ 0 ≤ ax.getD 0 0
  | .ifCond _ off => (pc : Int) + off = ax.getD 0 0 ∧ 0 ≤ ax.getD 0 0
  | .if_icmp _ off => (pc : Int) + off = ax.getD 0 0 ∧ 0 ≤ ax.getD 0 0
  | .ifnull off => (pc : Int) + off = ax.getD 0 0 ∧ 0 ≤ ax.getD 0 0
  | .ifnonnull off => (pc : Int) + off = ax.getD 0 0 ∧ 0 ≤ ax.getD 0 0
  | .tableswitch _ _ _ _ => zSwok pc ins ax
  | .lookupswitch _ _ => zSwok pc ins ax
  | .getfield idx => zFok Ts cl FT FK own idx ax
  | .putfield idx => zFok Ts cl FT FK own idx ax ∧ md = true
  | .invokevirtual idx => zVok Ts cl MT own idx ax
  | .invokestatic idx => zSok Ts MT own idx ax
  | .invokespecial _ => False
  | .aastore => False
  | .new _ => False
  | .newarray _ => False
  | .anewarray _ => False
  | .ireturn => ax.getD 0 0 = rk ∧ (rk = 0 ∨ rk = 3)
  | .lreturn => rk = 1
  | .return_ => rk = 2
  | _ => True
def zRok (md : Bool) (Ts : List Cond) (cl : List vw_C) (FT : Nat → List Nat) (FK : Nat → Nat → Nat × Nat × Int) (MT : Nat → zMD) (own : String) (rk : Int) (cc : ByteArray) (q : zRow) : Prop :=
  decode cc q.1 = .ok (q.2.2.1, q.2.1) ∧ (zlnok q.2.2.1 q.2.1 ∧ zIok md Ts cl FT FK MT own rk q.1 q.2.2.1 q.2.2.2.2.2)
def zrt (rk : Int) : Option FieldType := if rk = 0 then some .int else if rk = 1 then some .long else if rk = 3 then some .boolean else none
