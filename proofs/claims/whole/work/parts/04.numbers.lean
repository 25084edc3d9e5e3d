/-! ===== numbers: ints and longs as integers ===== -/
def wr (x : Int) : Int := (x + 2147483648) % 4294967296 - 2147483648
def wl (x : Int) : Int := (x + 9223372036854775808) % 18446744073709551616 - 9223372036854775808
def inI (x : Int) : Prop := -2147483648 ≤ x ∧ x ≤ 2147483647
def inL (x : Int) : Prop := -9223372036854775808 ≤ x ∧ x ≤ 9223372036854775807
theorem wr_in (x : Int) : inI (wr x) := by unfold inI wr; omega
theorem wl_in (x : Int) : inL (wl x) := by unfold inL wl; omega
theorem wr_id {x : Int} (h : inI x) : wr x = x := by unfold inI at h; unfold wr; omega
theorem wl_id {x : Int} (h : inL x) : wl x = x := by unfold inL at h; unfold wl; omega
theorem inI_L {x : Int} (h : inI x) : inL x := by unfold inI at h; unfold inL; omega
theorem bmod_wr (z : Int) : z.bmod (2 ^ 32) = wr z := by unfold Int.bmod wr; dsimp only; split <;> omega
theorem bmod_wl (z : Int) : z.bmod (2 ^ 64) = wl z := by unfold Int.bmod wl; dsimp only; split <;> omega
theorem i32_toInt (z : Int) : (Int32.ofInt z).toInt = wr z := by rw [Int32.toInt_ofInt]; exact bmod_wr z
theorem i64_toInt (z : Int) : (Int64.ofInt z).toInt = wl z := by rw [Int64.toInt_ofInt]; exact bmod_wl z
theorem i32_id {z : Int} (h : inI z) : (Int32.ofInt z).toInt = z := by rw [i32_toInt, wr_id h]
theorem i64_id {z : Int} (h : inL z) : (Int64.ofInt z).toInt = z := by rw [i64_toInt, wl_id h]
theorem i32_wr (z : Int) : Int32.ofInt (wr z) = Int32.ofInt z := Int32.toInt_inj.mp (by rw [i32_toInt, i32_toInt, wr_id (wr_in z)])
theorem i64_wl (z : Int) : Int64.ofInt (wl z) = Int64.ofInt z := Int64.toInt_inj.mp (by rw [i64_toInt, i64_toInt, wl_id (wl_in z)])
theorem i32_of (x : Int32) : Int32.ofInt x.toInt = x := Int32.ofInt_toInt x
theorem i64_of (x : Int64) : Int64.ofInt x.toInt = x := Int64.ofInt_toInt x
theorem i32_in (x : Int32) : inI x.toInt := by rw [← i32_of x, i32_toInt]; exact wr_in _
theorem i64_in (x : Int64) : inL x.toInt := by rw [← i64_of x, i64_toInt]; exact wl_in _
theorem i32_eq {x y : Int} (hx : inI x) (hy : inI y) : Int32.ofInt x = Int32.ofInt y ↔ x = y := by
  rw [← Int32.toInt_inj, i32_id hx, i32_id hy]
theorem i32_lt {x y : Int} (hx : inI x) (hy : inI y) : Int32.ofInt x < Int32.ofInt y ↔ x < y := by
  rw [Int32.lt_iff_toInt_lt, i32_id hx, i32_id hy]
theorem i32_le {x y : Int} (hx : inI x) (hy : inI y) : Int32.ofInt x ≤ Int32.ofInt y ↔ x ≤ y := by
  rw [Int32.le_iff_toInt_le, i32_id hx, i32_id hy]
theorem i64_eq {x y : Int} (hx : inL x) (hy : inL y) : Int64.ofInt x = Int64.ofInt y ↔ x = y := by
  rw [← Int64.toInt_inj, i64_id hx, i64_id hy]
theorem i64_lt {x y : Int} (hx : inL x) (hy : inL y) : Int64.ofInt x < Int64.ofInt y ↔ x < y := by
  rw [Int64.lt_iff_toInt_lt, i64_id hx, i64_id hy]
theorem in0 : inI 0 := by unfold inI; omega
theorem i32_0 : Int32.ofInt 0 = 0 := rfl
theorem i32_add (x y : Int) : Int32.ofInt x + Int32.ofInt y = Int32.ofInt (wr (x + y)) := by rw [i32_wr, Int32.ofInt_add]
theorem i32_sub (x y : Int) : Int32.ofInt x - Int32.ofInt y = Int32.ofInt (wr (x - y)) := by rw [i32_wr, Int32.ofInt_sub]
theorem i32_mul (x y : Int) : Int32.ofInt x * Int32.ofInt y = Int32.ofInt (wr (x * y)) := by rw [i32_wr, Int32.ofInt_mul]
theorem i64_add (x y : Int) : Int64.ofInt x + Int64.ofInt y = Int64.ofInt (wl (x + y)) := by rw [i64_wl, Int64.ofInt_add]
theorem i64_sub (x y : Int) : Int64.ofInt x - Int64.ofInt y = Int64.ofInt (wl (x - y)) := by rw [i64_wl, Int64.ofInt_sub]
theorem i64_mul (x y : Int) : Int64.ofInt x * Int64.ofInt y = Int64.ofInt (wl (x * y)) := by rw [i64_wl, Int64.ofInt_mul]
theorem i32_div {x y : Int} (hx : inI x) (hy : inI y) : Int32.ofInt x / Int32.ofInt y = Int32.ofInt (wr (x.tdiv y)) := by
  apply Int32.toInt_inj.mp
  rw [Int32.toInt_div, i32_id hx, i32_id hy, i32_toInt, wr_id (wr_in _)]
  exact bmod_wr _
theorem i64_div {x y : Int} (hx : inL x) (hy : inL y) : Int64.ofInt x / Int64.ofInt y = Int64.ofInt (wl (x.tdiv y)) := by
  apply Int64.toInt_inj.mp
  rw [Int64.toInt_div, i64_id hx, i64_id hy, i64_toInt, wl_id (wl_in _)]
  exact bmod_wl _
theorem tmod_eq (x y : Int) : x - x.tdiv y * y = x.tmod y := by
  have := Int.tdiv_mul_add_tmod x y; omega
theorem i32_rem {x y : Int} (hx : inI x) (hy : inI y) : Int32.ofInt x - Int32.ofInt x / Int32.ofInt y * Int32.ofInt y = Int32.ofInt (wr (x.tmod y)) := by
  rw [i32_div hx hy, i32_wr, i32_wr, ← Int32.ofInt_mul, ← Int32.ofInt_sub, tmod_eq]
theorem i64_rem {x y : Int} (hx : inL x) (hy : inL y) : Int64.ofInt x - Int64.ofInt x / Int64.ofInt y * Int64.ofInt y = Int64.ofInt (wl (x.tmod y)) := by
  rw [i64_div hx hy, i64_wl, i64_wl, ← Int64.ofInt_mul, ← Int64.ofInt_sub, tmod_eq]
def bAnd (x y : Int) : Int := (Int32.ofInt x &&& Int32.ofInt y).toInt
def bOr (x y : Int) : Int := (Int32.ofInt x ||| Int32.ofInt y).toInt
def bXor (x y : Int) : Int := (Int32.ofInt x ^^^ Int32.ofInt y).toInt
def bShl (x y : Int) : Int := (Int32.ofInt x <<< (Int32.ofInt y &&& 31)).toInt
def bShr (x y : Int) : Int := (Int32.ofInt x >>> (Int32.ofInt y &&& 31)).toInt
def bUshr (x y : Int) : Int := ((Int32.ofInt x).toUInt32 >>> ((Int32.ofInt y).toUInt32 &&& Int32.toUInt32 31)).toInt32.toInt
def lAnd (x y : Int) : Int := (Int64.ofInt x &&& Int64.ofInt y).toInt
def lOr (x y : Int) : Int := (Int64.ofInt x ||| Int64.ofInt y).toInt
def lShl (x y : Int) : Int := (Int64.ofInt x <<< ((Int32.ofInt y).toInt64 &&& 63)).toInt
def toB (x : Int) : Int := (Int32.ofInt x).toInt8.toInt32.toInt
theorem i32_long {x : Int} (h : inI x) : (Int32.ofInt x).toInt64 = Int64.ofInt x := by
  apply Int64.toInt_inj.mp
  rw [Int32.toInt_toInt64, i32_id h, i64_id (inI_L h)]
theorem i64_int (x : Int) : (Int64.ofInt x).toInt32 = Int32.ofInt (wr x) := by
  apply Int32.toInt_inj.mp
  rw [Int64.toInt_toInt32, i64_toInt, i32_toInt, wr_id (wr_in _)]
  rw [bmod_wr]
  unfold wr wl
  omega
theorem i32_nat {x : Int} (h : inI x) : (Int32.ofInt x).toNatClampNeg = x.toNat := by
  unfold Int32.toNatClampNeg; rw [i32_id h]
theorem i32_vp {x : Int} {n : Nat} (h : inI x) : vp_in (Int32.ofInt x) n ↔ 0 ≤ x ∧ x < n := by
  rw [vp_in_iff, i32_id h]
