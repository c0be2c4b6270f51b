/-! words that stay when a class is warmed; links to a nest mate stand beside them -/
def zisN (w : Cond) : Bool := match w with
  | .methodLinkNest _ _ _ _ => true
  | _ => false
def zNw : List Cond := lw_tbl.filter zisN
def lw_g : List Cond := lw_tbl.filter goodWord
theorem lw_good : ∀ w ∈ lw_g, goodWord w = true := fun _ h => (List.mem_filter.mp h).2
theorem lw_gi {w : Cond} (h : w ∈ lw_tbl) (hg : goodWord w = true) : w ∈ lw_g := List.mem_filter.mpr ⟨h, hg⟩
theorem lw_gt {w : Cond} (h : w ∈ lw_g) : w ∈ lw_tbl := (List.mem_filter.mp h).1
theorem zNw_warm {s U : State} (h : ∀ w ∈ zNw, va_Nw w s) (hW : s.WarmedH U.vm) : ∀ w ∈ zNw, va_Nw w U := fun w hw => by
  have h1 := (List.mem_filter.mp hw).2
  have h2 := h w hw
  cases w with
  | methodLinkNest a i x b => exact va_Nw.warmM hW h2
  | _ => cases h1
theorem zNw_same {u U : State} (hv : u.vm = U.vm) (h : ∀ w ∈ zNw, va_Nw w u) : ∀ w ∈ zNw, va_Nw w U := fun w hw => by
  have h1 := (List.mem_filter.mp hw).2
  have h2 := h w hw
  cases w with
  | methodLinkNest a i x b => exact va_Nw.same rfl hv h2
  | _ => cases h1
theorem zNw_of {A : Array Value} {s : State} (hts : ∀ w ∈ lw_tbl, w.before A s = true) : ∀ w ∈ zNw, va_Nw w s := fun w hw => by
  have h1 := (List.mem_filter.mp hw).2
  have h2 := hts w (List.mem_filter.mp hw).1
  cases w with
  | methodLinkNest a i x b => exact va_Nw.of rfl h2
  | _ => cases h1
def zPreN (D : va_G) (cl : List vw_C) (FT : Nat → List Nat) (cs : Nat → ClassId) (SC : String) (ad : Nat → Nat) (h : zH) (sz : Nat) : State → Prop := fun U => zPre D cl FT cs SC ad h sz U ∧ ∀ w ∈ zNw, va_Nw w U
def zSokN (Ts : List Cond) (MT : Nat → zMD) (own : String) (idx : Nat) (ax : List Int) : Prop :=
  (∃ tl, ax = -2 :: tl ∧ Cond.methodLink own idx arraycopyName ∈ Ts ∧ Cond.native arraycopyName ∈ Ts ∧ Cond.static arraycopyName ∈ Ts ∧ Cond.initialized "java/lang/System" ∈ Ts) ∨
  ∃ (y n : Nat) (tl : List Int), ax = (y : Int) :: (n : Int) :: (MT y).2.2.2.2.1 :: tl ∧ (Cond.methodLink own idx (MT y).1 ∈ Ts ∨ ∃ host, Cond.methodLinkNest own idx (MT y).1 host ∈ zNw) ∧ Cond.static (MT y).1 ∈ Ts ∧ zCal Ts (MT y).1 (MT y).2.1 (MT y).2.2.1 (MT y).2.2.2.1 n ∧ ((MT y).2.2.2.2.1 = 0 ∨ (MT y).2.2.2.2.1 = 1 ∨ (MT y).2.2.2.2.1 = 2 ∨ (MT y).2.2.2.2.1 = 3)
def zIokN (md : Bool) (Ts : List Cond) (cl : List vw_C) (FT : Nat → List Nat) (FK : Nat → Nat → Nat × Nat × Int) (MT : Nat → zMD) (own : String) (rk : Int) (pc : Nat) (ins : Instr) (ax : List Int) : Prop := match ins with
  | .iconst i => ax.getD 0 0 = i ∧ zI32 i
  | .bipush i => zI32 (ax.getD 0 0) ∧ (Int8.ofInt i).toInt32 = Int32.ofInt (ax.getD 0 0)
  | .sipush i => zI32 (ax.getD 0 0) ∧ (Int16.ofInt i).toInt32 = Int32.ofInt (ax.getD 0 0)
  | .ldc idx => zI32 (ax.getD 0 0) ∧ Jvm.Cond.constant own idx (Int32.ofInt (ax.getD 0 0)) ∈ Ts
  | .ldc_w idx => zI32 (ax.getD 0 0) ∧ Jvm.Cond.constant own idx (Int32.ofInt (ax.getD 0 0)) ∈ Ts
  | .ldc2_w idx => zI64 (ax.getD 0 0) ∧ Jvm.Cond.constantLong own idx (Int64.ofInt (ax.getD 0 0)) ∈ Ts
  | .lconst i => zI64 (ax.getD 0 0) ∧ Int64.ofNat (i : Nat) = Int64.ofInt (ax.getD 0 0)
  | .iinc _ n => ax.getD 0 0 = n
  | .goto off => (pc : Int) + off = ax.getD 0 0 ∧ 0 ≤ ax.getD 0 0
  | .ifCond _ off => (pc : Int) + off = ax.getD 0 0 ∧ 0 ≤ ax.getD 0 0
  | .if_icmp _ off => (pc : Int) + off = ax.getD 0 0 ∧ 0 ≤ ax.getD 0 0
  | .ifnull off => (pc : Int) + off = ax.getD 0 0 ∧ 0 ≤ ax.getD 0 0
  | .ifnonnull off => (pc : Int) + off = ax.getD 0 0 ∧ 0 ≤ ax.getD 0 0
  | .tableswitch _ _ _ _ => zSwok pc ins ax
  | .lookupswitch _ _ => zSwok pc ins ax
  | .getfield idx => zFok Ts cl FT FK own idx ax
  | .putfield idx => zFok Ts cl FT FK own idx ax ∧ md = true
  | .invokevirtual idx => zVok Ts cl MT own idx ax
  | .invokestatic idx => zSokN Ts MT own idx ax
  | .invokespecial _ => False
  | .aastore => False
  | .new _ => False
  | .newarray _ => False
  | .anewarray _ => False
  | .ireturn => ax.getD 0 0 = rk ∧ (rk = 0 ∨ rk = 3)
  | .lreturn => rk = 1
  | .return_ => rk = 2
  | _ => True
def zRokN (md : Bool) (Ts : List Cond) (cl : List vw_C) (FT : Nat → List Nat) (FK : Nat → Nat → Nat × Nat × Int) (MT : Nat → zMD) (own : String) (rk : Int) (cc : ByteArray) (q : zRow) : Prop :=
  decode cc q.1 = .ok (q.2.2.1, q.2.1) ∧ (zlnok q.2.2.1 q.2.1 ∧ zIokN md Ts cl FT FK MT own rk q.1 q.2.2.1 q.2.2.2.2.2)
def zMokN (md : Bool) (Ts : List Cond) (cl : List vw_C) (FT : Nat → List Nat) (FK : Nat → Nat → Nat × Nat × Int) (MT : Nat → zMD) (M : zMD) : Prop :=
  plainFor M.1 = true ∧ M.2.2.2.1 = zrt M.2.2.2.2.1 ∧ ∀ q ∈ M.2.2.2.2.2.1, zRokN md Ts cl FT FK MT M.1.cls M.2.2.2.2.1 M.2.1 q
theorem u_good {C : String} {T : u_T} {N : Nat} {w : Cond} (h : w ∈ u_ws C T N) : goodWord w = true := by
  obtain ⟨k, -, rfl⟩ := List.mem_map.mp h
  unfold u_lay
  split <;> rfl
theorem zClok_g {cl : List vw_C} {FT : Nat → List Nat} {ci : Nat} {C : String} {T : u_T} {N : Nat} {tf : Nat → FieldType} (h : zClok lw_tbl cl FT ci C T N tf) : zClok lw_g cl FT ci C T N tf := by
  obtain ⟨c1, c2, c3, c4, c5, c6, c7, c8⟩ := h
  exact ⟨c1, c2, fun w hw => lw_gi (c3 w hw) (u_good hw), c4, c5, c6, lw_gi c7 rfl, lw_gi c8 rfl⟩
theorem zFok_g {cl : List vw_C} {FT : Nat → List Nat} {FK : Nat → Nat → Nat × Nat × Int} {own : String} {idx : Nat} {ax : List Int} (h : zFok lw_tbl cl FT FK own idx ax) : zFok lw_g cl FT FK own idx ax := by
  obtain ⟨ci, j, ty, kd, len, off, tl, C, T, N, tf, e1, e2, e3, e4, e5⟩ := h
  exact ⟨ci, j, ty, kd, len, off, tl, C, T, N, tf, e1, e2, zClok_g e3, lw_gi e4 rfl, e5⟩
theorem zCal_g {y : MethodName} {cc : ByteArray} {maxL : Nat} {ret : Option FieldType} {n : Nat} (h : zCal lw_tbl y cc maxL ret n) : zCal lw_g y cc maxL ret n := ⟨⟨lw_gi h.1.1 rfl, lw_gi h.1.2 rfl⟩, h.2⟩
theorem zVok_g {cl : List vw_C} {MT : Nat → zMD} {own : String} {idx : Nat} {ax : List Int} (h : zVok lw_tbl cl MT own idx ax) : zVok lw_g cl MT own idx ax := by
  obtain ⟨y, n, ci, tl, C, T, N, e1, e2, e3, e4, e5, e6, e7, e8⟩ := h
  exact ⟨y, n, ci, tl, C, T, N, e1, e2, e3, lw_gi e4 rfl, lw_gi e5 rfl, lw_gi e6 rfl, zCal_g e7, e8⟩
theorem zSok_g {MT : Nat → zMD} {own : String} {idx : Nat} {ax : List Int} (h : zSok lw_tbl MT own idx ax) : zSokN lw_g MT own idx ax := by
  rcases h with ⟨tl, e1, e2, e3, e4, e5⟩ | ⟨y, n, tl, e1, e2, e3, e4, e5⟩
  · exact Or.inl ⟨tl, e1, lw_gi e2 rfl, lw_gi e3 rfl, lw_gi e4 rfl, lw_gi e5 rfl⟩
  · refine Or.inr ⟨y, n, tl, e1, ?_, lw_gi e3 rfl, zCal_g e4, e5⟩
    rcases e2 with q | ⟨host, q⟩
    · exact Or.inl (lw_gi q rfl)
    · exact Or.inr ⟨host, List.mem_filter.mpr ⟨q, rfl⟩⟩
theorem zIok_g {cl : List vw_C} {FT : Nat → List Nat} {FK : Nat → Nat → Nat × Nat × Int} {MT : Nat → zMD} {own : String} {rk : Int} {pc : Nat} {ins : Instr} {ax : List Int} (h : zIok true lw_tbl cl FT FK MT own rk pc ins ax) : zIokN true lw_g cl FT FK MT own rk pc ins ax := by
  cases ins with
  | ldc idx => exact ⟨h.1, lw_gi h.2 rfl⟩
  | ldc_w idx => exact ⟨h.1, lw_gi h.2 rfl⟩
  | ldc2_w idx => exact ⟨h.1, lw_gi h.2 rfl⟩
  | getfield idx => exact zFok_g h
  | putfield idx => exact ⟨zFok_g h.1, h.2⟩
  | invokevirtual idx => exact zVok_g h
  | invokestatic idx => exact zSok_g h
  | _ => exact h
theorem zMokN_of {M : zMD} (h : zMokF true lw_tbl vwCl zFT zFK zMT M) : zMokN true lw_g vwCl zFT zFK zMT M := ⟨h.1, h.2.1, fun q hq => by
  obtain ⟨r1, r2, r3⟩ := h.2.2 q hq
  exact ⟨r1, r2, zIok_g r3⟩⟩
theorem mo_allN (y : Nat) : zMokN true lw_g vwCl zFT zFK zMT (zMT y) := zMokN_of (mo_all y)
