/-! how many bits: a small int -/
def bc1 (x : Int) : Int := w32 (x - (zand (zushr x 1) 1431655765))
def bc2 (x : Int) : Int := w32 ((zand x 858993459) + (zand (zushr x 2) 858993459))
def bc3 (x : Int) : Int := zand (w32 (x + (zushr x 4))) 252645135
def bc4 (x : Int) : Int := w32 (x + (zushr x 8))
def bc5 (x : Int) : Int := w32 (x + (zushr x 16))
def bcI (x : Int) : Int := zand (bc5 (bc4 (bc3 (bc2 (bc1 x))))) 63
theorem q_bitCount {d : Nat} {x : Int} {h : zH} : m_Integer_bitCount (d + 1) x h = some (.inl (bcI x), h) := em_Integer_bitCount d x h
def pcN (N : Nat) : Nat → Nat
  | 0 => 0
  | n + 1 => pcN N n + (N.testBit n).toNat
theorem bcI_ok : ∀ x : Nat, x < 1024 → bcI (x : Int) = (pcN x 10 : Nat) := by decide +kernel
