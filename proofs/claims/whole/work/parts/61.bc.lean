/-! how many bits are set, of fifteen -/
def zpopN (x : Nat) : Nat → Nat
  | 0 => 0
  | n + 1 => if x.testBit n = true then zpopN x n + 1 else zpopN x n
def zbcE (x : Int32) : Int32 := ((((((((x - ((((x : Int32).toUInt32 >>> ((1 : Int32).toUInt32 &&& Int32.toUInt32 31)).toInt32) &&& 1431655765)) &&& 858993459) + (((((x - ((((x : Int32).toUInt32 >>> ((1 : Int32).toUInt32 &&& Int32.toUInt32 31)).toInt32) &&& 1431655765)) : Int32).toUInt32 >>> ((2 : Int32).toUInt32 &&& Int32.toUInt32 31)).toInt32) &&& 858993459)) + ((((((x - ((((x : Int32).toUInt32 >>> ((1 : Int32).toUInt32 &&& Int32.toUInt32 31)).toInt32) &&& 1431655765)) &&& 858993459) + (((((x - ((((x : Int32).toUInt32 >>> ((1 : Int32).toUInt32 &&& Int32.toUInt32 31)).toInt32) &&& 1431655765)) : Int32).toUInt32 >>> ((2 : Int32).toUInt32 &&& Int32.toUInt32 31)).toInt32) &&& 858993459)) : Int32).toUInt32 >>> ((4 : Int32).toUInt32 &&& Int32.toUInt32 31)).toInt32)) &&& 252645135) + ((((((((x - ((((x : Int32).toUInt32 >>> ((1 : Int32).toUInt32 &&& Int32.toUInt32 31)).toInt32) &&& 1431655765)) &&& 858993459) + (((((x - ((((x : Int32).toUInt32 >>> ((1 : Int32).toUInt32 &&& Int32.toUInt32 31)).toInt32) &&& 1431655765)) : Int32).toUInt32 >>> ((2 : Int32).toUInt32 &&& Int32.toUInt32 31)).toInt32) &&& 858993459)) + ((((((x - ((((x : Int32).toUInt32 >>> ((1 : Int32).toUInt32 &&& Int32.toUInt32 31)).toInt32) &&& 1431655765)) &&& 858993459) + (((((x - ((((x : Int32).toUInt32 >>> ((1 : Int32).toUInt32 &&& Int32.toUInt32 31)).toInt32) &&& 1431655765)) : Int32).toUInt32 >>> ((2 : Int32).toUInt32 &&& Int32.toUInt32 31)).toInt32) &&& 858993459)) : Int32).toUInt32 >>> ((4 : Int32).toUInt32 &&& Int32.toUInt32 31)).toInt32)) &&& 252645135) : Int32).toUInt32 >>> ((8 : Int32).toUInt32 &&& Int32.toUInt32 31)).toInt32)) + (((((((((x - ((((x : Int32).toUInt32 >>> ((1 : Int32).toUInt32 &&& Int32.toUInt32 31)).toInt32) &&& 1431655765)) &&& 858993459) + (((((x - ((((x : Int32).toUInt32 >>> ((1 : Int32).toUInt32 &&& Int32.toUInt32 31)).toInt32) &&& 1431655765)) : Int32).toUInt32 >>> ((2 : Int32).toUInt32 &&& Int32.toUInt32 31)).toInt32) &&& 858993459)) + ((((((x - ((((x : Int32).toUInt32 >>> ((1 : Int32).toUInt32 &&& Int32.toUInt32 31)).toInt32) &&& 1431655765)) &&& 858993459) + (((((x - ((((x : Int32).toUInt32 >>> ((1 : Int32).toUInt32 &&& Int32.toUInt32 31)).toInt32) &&& 1431655765)) : Int32).toUInt32 >>> ((2 : Int32).toUInt32 &&& Int32.toUInt32 31)).toInt32) &&& 858993459)) : Int32).toUInt32 >>> ((4 : Int32).toUInt32 &&& Int32.toUInt32 31)).toInt32)) &&& 252645135) + ((((((((x - ((((x : Int32).toUInt32 >>> ((1 : Int32).toUInt32 &&& Int32.toUInt32 31)).toInt32) &&& 1431655765)) &&& 858993459) + (((((x - ((((x : Int32).toUInt32 >>> ((1 : Int32).toUInt32 &&& Int32.toUInt32 31)).toInt32) &&& 1431655765)) : Int32).toUInt32 >>> ((2 : Int32).toUInt32 &&& Int32.toUInt32 31)).toInt32) &&& 858993459)) + ((((((x - ((((x : Int32).toUInt32 >>> ((1 : Int32).toUInt32 &&& Int32.toUInt32 31)).toInt32) &&& 1431655765)) &&& 858993459) + (((((x - ((((x : Int32).toUInt32 >>> ((1 : Int32).toUInt32 &&& Int32.toUInt32 31)).toInt32) &&& 1431655765)) : Int32).toUInt32 >>> ((2 : Int32).toUInt32 &&& Int32.toUInt32 31)).toInt32) &&& 858993459)) : Int32).toUInt32 >>> ((4 : Int32).toUInt32 &&& Int32.toUInt32 31)).toInt32)) &&& 252645135) : Int32).toUInt32 >>> ((8 : Int32).toUInt32 &&& Int32.toUInt32 31)).toInt32)) : Int32).toUInt32 >>> ((16 : Int32).toUInt32 &&& Int32.toUInt32 31)).toInt32)) &&& 63)
set_option maxRecDepth 100000 in
theorem zbc_0 : ∀ a < 16, ∀ b < 256, zbcE (nI (256 * (0 + a) + b)) = nI (zpopN (256 * (0 + a) + b) 15) := by decide +kernel
set_option maxRecDepth 100000 in
theorem zbc_1 : ∀ a < 16, ∀ b < 256, zbcE (nI (256 * (16 + a) + b)) = nI (zpopN (256 * (16 + a) + b) 15) := by decide +kernel
set_option maxRecDepth 100000 in
theorem zbc_2 : ∀ a < 16, ∀ b < 256, zbcE (nI (256 * (32 + a) + b)) = nI (zpopN (256 * (32 + a) + b) 15) := by decide +kernel
set_option maxRecDepth 100000 in
theorem zbc_3 : ∀ a < 16, ∀ b < 256, zbcE (nI (256 * (48 + a) + b)) = nI (zpopN (256 * (48 + a) + b) 15) := by decide +kernel
set_option maxRecDepth 100000 in
theorem zbc_4 : ∀ a < 16, ∀ b < 256, zbcE (nI (256 * (64 + a) + b)) = nI (zpopN (256 * (64 + a) + b) 15) := by decide +kernel
set_option maxRecDepth 100000 in
theorem zbc_5 : ∀ a < 16, ∀ b < 256, zbcE (nI (256 * (80 + a) + b)) = nI (zpopN (256 * (80 + a) + b) 15) := by decide +kernel
set_option maxRecDepth 100000 in
theorem zbc_6 : ∀ a < 16, ∀ b < 256, zbcE (nI (256 * (96 + a) + b)) = nI (zpopN (256 * (96 + a) + b) 15) := by decide +kernel
set_option maxRecDepth 100000 in
theorem zbc_7 : ∀ a < 16, ∀ b < 256, zbcE (nI (256 * (112 + a) + b)) = nI (zpopN (256 * (112 + a) + b) 15) := by decide +kernel
theorem zbc_e {x : Nat} (hx : x < 32768) : zbcE (nI x) = nI (zpopN x 15) := by
  have e : 256 * (x / 256) + x % 256 = x := Nat.div_add_mod x 256
  have hb := Nat.mod_lt x (show 256 > 0 by omega)
  by_cases c0 : x / 256 < 16
  · have := zbc_0 (x / 256 - 0) (by omega) (x % 256) hb
    rw [show 0 + (x / 256 - 0) = x / 256 by omega, e] at this
    exact this
  by_cases c1 : x / 256 < 32
  · have := zbc_1 (x / 256 - 16) (by omega) (x % 256) hb
    rw [show 16 + (x / 256 - 16) = x / 256 by omega, e] at this
    exact this
  by_cases c2 : x / 256 < 48
  · have := zbc_2 (x / 256 - 32) (by omega) (x % 256) hb
    rw [show 32 + (x / 256 - 32) = x / 256 by omega, e] at this
    exact this
  by_cases c3 : x / 256 < 64
  · have := zbc_3 (x / 256 - 48) (by omega) (x % 256) hb
    rw [show 48 + (x / 256 - 48) = x / 256 by omega, e] at this
    exact this
  by_cases c4 : x / 256 < 80
  · have := zbc_4 (x / 256 - 64) (by omega) (x % 256) hb
    rw [show 64 + (x / 256 - 64) = x / 256 by omega, e] at this
    exact this
  by_cases c5 : x / 256 < 96
  · have := zbc_5 (x / 256 - 80) (by omega) (x % 256) hb
    rw [show 80 + (x / 256 - 80) = x / 256 by omega, e] at this
    exact this
  by_cases c6 : x / 256 < 112
  · have := zbc_6 (x / 256 - 96) (by omega) (x % 256) hb
    rw [show 96 + (x / 256 - 96) = x / 256 by omega, e] at this
    exact this
  by_cases c7 : x / 256 < 128
  · have := zbc_7 (x / 256 - 112) (by omega) (x % 256) hb
    rw [show 112 + (x / 256 - 112) = x / 256 by omega, e] at this
    exact this
  omega
theorem c_bc15 {x d : Nat} {m : MzM} (hx : x < 32768) : R_J6_bitCount_0f7a4 d (nI x) m = some (nI (zpopN x 15), m) := by
  rw [R_J6_bitCount_0f7a4_eq]
  show some (zbcE (nI x), m) = _
  rw [zbc_e hx]
