/-! the world of the small machine in the large one -/
def zro (ad : Nat → Nat) (x : Int) : Option Nat := if x < 0 then none else some (ad x.toNat)
def zrv (ad : Nat → Nat) (x : Int) : Value := va_rf (zro ad x)
def zc (ad : Nat → Nat) : zV → Value
  | .inl a => .int (Int32.ofInt a)
  | .inr (.inl a) => .long (Int64.ofInt a)
  | .inr (.inr q) => zrv ad q.1
def zfv (ad : Nat → Nat) (ty : Nat) (x : Int) : Value := if ty = 1 then .long (Int64.ofInt x) else if 3 ≤ ty then zrv ad x else .int (Int32.ofInt x)
def zaf (ad : Nat → Nat) (kd : Nat) (f : Int → Int) : (Nat → Int32) ⊕ (Nat → Int64) ⊕ (Nat → UInt32) ⊕ (Nat → UInt64) ⊕ (Nat → Option Nat) :=
  if kd = 101 then .inr (.inl (fun j => Int64.ofInt (f j))) else if kd < 103 then .inl (fun j => Int32.ofInt (f j)) else .inr (.inr (.inr (.inr (fun j => zro ad (f j)))))
def zob (FT : Nat → List Nat) (ad : Nat → Nat) (kd : Nat) (f : Int → Int) : List Value := (FT kd).mapIdx (fun j ty => zfv ad ty (f j))
def zce (FT : Nat → List Nat) (cs : Nat → ClassId) (ad : Nat → Nat) (kd len : Nat) (f : Int → Int) : va_E :=
  if kd < 100 then .inr (kd, zob FT ad kd f) else .inl (cs kd, len, zaf ad kd f)
def zn (h : zH) : Nat := (h (-1) 0).toNat
def zsl (h : zH) : Nat := (h (-1) 1).toNat
def zkd (h : zH) (k : Nat) : Nat := (h (-2) k).toNat
def zln (h : zH) (k : Nat) : Nat := (h (-3) k).toNat
def zw (FT : Nat → List Nat) (cs : Nat → ClassId) (ad : Nat → Nat) (h : zH) : va_W := (List.range (zn h)).map (fun k => (ad k, zce FT cs ad (zkd h k) (zln h k) (h k)))
def zRef (h : zH) (r : Int) (k n : Nat) : Prop := r = -1 ∨ (0 ≤ r ∧ r < h (-1) 0 ∧ h (-2) r = k ∧ h (-3) r = n)
def zN (h : zH) : zV → Prop
  | .inl a => zI32 a
  | .inr (.inl a) => zI64 a
  | .inr (.inr q) => zRef h q.1 q.2.1 q.2.2
def zFo (md : Bool) (h : zH) (k : Nat) (ty : Nat) (q : Nat × Nat × Int) (x : Int) : Prop :=
  (ty = 0 → zI32 x) ∧ (ty = 1 → zI64 x) ∧ (ty = 2 → x = 0 ∨ x = 1) ∧ (3 ≤ ty → zRef h x q.1 q.2.1) ∧ (ty = 4 → md = true → x = k + q.2.2)
def zEo (EL : Nat → Nat × Nat) (h : zH) (kd : Nat) (x : Int) : Prop :=
  (kd = 100 → zI32 x) ∧ (kd = 101 → zI64 x) ∧ (kd = 102 → x = 0 ∨ x = 1) ∧ (103 ≤ kd → zRef h x (EL kd).1 (EL kd).2)
def zCk (md : Bool) (FT : Nat → List Nat) (FK : Nat → Nat → Nat × Nat × Int) (EL : Nat → Nat × Nat) (h : zH) (k : Nat) : Prop :=
  (0 ≤ h (-2) k ∧ 0 ≤ h (-3) k ∧ h (-3) k < 60000) ∧
  (100 ≤ zkd h k → ∀ j : Int, (103 ≤ zkd h k ∨ (0 ≤ j ∧ j < h (-3) k)) → zEo EL h (zkd h k) (h k j)) ∧
  (zkd h k < 100 → h (-3) k = 0 ∧ ∀ (j ty : Nat), (FT (zkd h k))[j]? = some ty → zFo md h k ty (FK (zkd h k) j) (h k j))
def zWF (md : Bool) (FT : Nat → List Nat) (FK : Nat → Nat → Nat × Nat × Int) (EL : Nat → Nat × Nat) (h : zH) : Prop :=
  0 ≤ h (-1) 0 ∧ 0 ≤ h (-1) 1 ∧ ∀ k : Nat, (k : Int) < h (-1) 0 → zCk md FT FK EL h k
theorem zw_get {FT : Nat → List Nat} {cs : Nat → ClassId} {ad : Nat → Nat} {h : zH} {k : Nat} (hk : k < zn h) : (zw FT cs ad h)[k]? = some (ad k, zce FT cs ad (zkd h k) (zln h k) (h k)) := by
  unfold zw
  rw [List.getElem?_map, List.getElem?_range hk]
  rfl
theorem zset_n {h : zH} {r i v a : Int} (ha : a ≠ r) : zset h r i v a = h a := by unfold zset; rw [if_neg ha]
theorem zset_s {h : zH} {r i v : Int} : zset h r i v r = fun b => if b = i then v else h r b := by unfold zset; rw [if_pos rfl]
theorem zset_g {h : zH} {r i v b : Int} : zset h r i v r b = if b = i then v else h r b := by rw [zset_s]
theorem zset_neg {h : zH} {r i v a : Int} (hr : 0 ≤ r) (ha : a < 0) : zset h r i v a = h a := zset_n (by omega)
theorem zRef_set {h : zH} {r i v : Int} (hr : 0 ≤ r) {x : Int} {k n : Nat} : zRef (zset h r i v) x k n ↔ zRef h x k n := by
  unfold zRef; rw [zset_neg hr (by omega), zset_neg hr (by omega), zset_neg hr (by omega)]
theorem zN_set {h : zH} {r i v : Int} (hr : 0 ≤ r) {x : zV} : zN (zset h r i v) x ↔ zN h x := by
  rcases x with a | a | q
  · exact Iff.rfl
  · exact Iff.rfl
  · exact zRef_set hr
theorem zFo_set {md : Bool} {h : zH} {r i v : Int} (hr : 0 ≤ r) {k ty : Nat} {q : Nat × Nat × Int} {x : Int} : zFo md (zset h r i v) k ty q x ↔ zFo md h k ty q x := by
  unfold zFo; rw [zRef_set hr]
theorem zEo_set {EL : Nat → Nat × Nat} {h : zH} {r i v : Int} (hr : 0 ≤ r) {kd : Nat} {x : Int} : zEo EL (zset h r i v) kd x ↔ zEo EL h kd x := by
  unfold zEo; rw [zRef_set hr]
theorem zkd_set {h : zH} {r i v : Int} (hr : 0 ≤ r) (k : Nat) : zkd (zset h r i v) k = zkd h k := by unfold zkd; rw [zset_neg hr (by omega)]
theorem zln_set {h : zH} {r i v : Int} (hr : 0 ≤ r) (k : Nat) : zln (zset h r i v) k = zln h k := by unfold zln; rw [zset_neg hr (by omega)]
theorem zn_set {h : zH} {r i v : Int} (hr : 0 ≤ r) : zn (zset h r i v) = zn h := by unfold zn; rw [zset_neg hr (by omega)]
theorem zsl_set {h : zH} {r i v : Int} (hr : 0 ≤ r) : zsl (zset h r i v) = zsl h := by unfold zsl; rw [zset_neg hr (by omega)]
/-- a store into an array keeps the world in form -/
theorem zWF_arr {md : Bool} {FT : Nat → List Nat} {FK : Nat → Nat → Nat × Nat × Int} {EL : Nat → Nat × Nat} {h : zH} {r i v : Int} (hW : zWF md FT FK EL h) (hr : 0 ≤ r) (hk : 100 ≤ zkd h r.toNat) (hv : zEo EL h (zkd h r.toNat) v) : zWF md FT FK EL (zset h r i v) := by
  obtain ⟨w1, w2, w3⟩ := hW
  refine ⟨by rw [zset_neg hr (by omega)]; exact w1, by rw [zset_neg hr (by omega)]; exact w2, fun k hk' => ?_⟩
  rw [zset_neg hr (by omega)] at hk'
  obtain ⟨c1, c2, c3⟩ := w3 k hk'
  refine ⟨by rw [zset_neg hr (by omega), zset_neg hr (by omega)]; exact c1, fun h1 j jj => ?_, fun h1 => ?_⟩
  · rw [zkd_set hr] at h1 jj ⊢
    rw [zset_neg hr (by omega)] at jj
    rw [zEo_set hr]
    by_cases e : (k : Int) = r
    · rw [e, zset_g]
      have e2 : k = r.toNat := by omega
      by_cases e3 : j = i
      · rw [if_pos e3, e2]; exact hv
      · rw [if_neg e3]
        have := c2 h1 j jj
        rwa [e] at this
    · rw [zset_n e]; exact c2 h1 j jj
  · rw [zkd_set hr] at h1 ⊢
    have hne : (k : Int) ≠ r := fun e => by
      have e2 : k = r.toNat := by omega
      rw [← e2] at hk
      omega
    rw [zset_neg hr (by omega)]
    refine ⟨(c3 h1).1, fun j ty hj => ?_⟩
    rw [zFo_set hr, zset_n hne]
    exact (c3 h1).2 j ty hj
/-- a store into a field keeps it in form -/
theorem zWF_fld {md : Bool} {FT : Nat → List Nat} {FK : Nat → Nat → Nat × Nat × Int} {EL : Nat → Nat × Nat} {h : zH} {r v : Int} {i : Nat} (hW : zWF md FT FK EL h) (hr : 0 ≤ r) (hk : zkd h r.toNat < 100) (hv : ∀ ty, (FT (zkd h r.toNat))[i]? = some ty → zFo md h r.toNat ty (FK (zkd h r.toNat) i) v) : zWF md FT FK EL (zset h r i v) := by
  obtain ⟨w1, w2, w3⟩ := hW
  refine ⟨by rw [zset_neg hr (by omega)]; exact w1, by rw [zset_neg hr (by omega)]; exact w2, fun k hk' => ?_⟩
  rw [zset_neg hr (by omega)] at hk'
  obtain ⟨c1, c2, c3⟩ := w3 k hk'
  refine ⟨by rw [zset_neg hr (by omega), zset_neg hr (by omega)]; exact c1, fun h1 j jj => ?_, fun h1 => ?_⟩
  · rw [zkd_set hr] at h1 jj ⊢
    have hne : (k : Int) ≠ r := fun e => by
      have e2 : k = r.toNat := by omega
      rw [← e2] at hk
      omega
    rw [zset_neg hr (by omega)] at jj
    rw [zEo_set hr, zset_n hne]
    exact c2 h1 j jj
  · rw [zkd_set hr] at h1 ⊢
    rw [zset_neg hr (by omega)]
    refine ⟨(c3 h1).1, fun j ty hj => ?_⟩
    rw [zFo_set hr]
    by_cases e : (k : Int) = r
    · have e2 : k = r.toNat := by omega
      rw [e, zset_g]
      by_cases e3 : (j : Int) = i
      · have e4 : j = i := by omega
        rw [if_pos e3, e2, e4]
        rw [e2, e4] at hj
        exact hv ty hj
      · rw [if_neg e3]
        have := (c3 h1).2 j ty hj
        rwa [e] at this
    · rw [zset_n e]; exact (c3 h1).2 j ty hj
/-- the world behind a store -/
theorem zw_set {FT : Nat → List Nat} {cs : Nat → ClassId} {ad : Nat → Nat} {h : zH} {r i v : Int} (hr : 0 ≤ r) : zw FT cs ad (zset h r i v) = (zw FT cs ad h).set r.toNat (ad r.toNat, zce FT cs ad (zkd h r.toNat) (zln h r.toNat) (zset h r i v r)) := by
  apply List.ext_getElem?
  intro k
  rw [List.getElem?_set]
  by_cases hk : k < zn h
  · rw [zw_get (by rw [zn_set hr]; exact hk), zkd_set hr, zln_set hr]
    by_cases e : r.toNat = k
    · rw [if_pos e, if_pos (by rw [e]; simpa [zw] using hk), e, show (k : Int) = r by omega]
    · rw [if_neg e, zw_get hk, zset_n (by omega)]
  · have h1 : (zw FT cs ad (zset h r i v))[k]? = none := by
      rw [List.getElem?_eq_none_iff]; simpa [zw, zn_set hr] using hk
    have h2 : (zw FT cs ad h)[k]? = none := by
      rw [List.getElem?_eq_none_iff]; simpa [zw] using hk
    rw [h1, h2]
    by_cases e : r.toNat = k
    · rw [if_pos e, if_neg]; rw [e]; simpa [zw] using hk
    · rw [if_neg e]
