/-! ===== sets of bits ===== -/
section BT
theorem nn_i32 {a : Nat} (h : a < 2147483648) : inI (a : Int) := ⟨by omega, by omega⟩
theorem i32_bv {a : Nat} : (Int32.ofInt (a : Int)).toBitVec = BitVec.ofNat 32 a := by
  show BitVec.ofInt 32 (a : Int) = _
  exact BitVec.ofInt_natCast 32 a
theorem bv_toInt {b : BitVec 32} {c : Nat} (h : b.toNat = c) (hc : c < 2147483648) : b.toInt = (c : Int) := by
  rw [BitVec.toInt_eq_toNat_of_lt (by rw [h]; omega), h]
theorem bAnd_nat {a b : Nat} (ha : a < 2147483648) (hb : b < 2147483648) : bAnd (a : Int) (b : Int) = ((a &&& b : Nat) : Int) := by
  show (Int32.ofInt (a : Int) &&& Int32.ofInt (b : Int)).toBitVec.toInt = _
  rw [Int32.toBitVec_and, i32_bv, i32_bv]
  refine bv_toInt ?_ (Nat.lt_of_le_of_lt Nat.and_le_left ha)
  rw [BitVec.toNat_and, BitVec.toNat_ofNat, BitVec.toNat_ofNat, Nat.mod_eq_of_lt (by omega), Nat.mod_eq_of_lt (by omega)]
theorem bOr_nat {a b : Nat} (ha : a < 2147483648) (hb : b < 2147483648) : bOr (a : Int) (b : Int) = ((a ||| b : Nat) : Int) := by
  show (Int32.ofInt (a : Int) ||| Int32.ofInt (b : Int)).toBitVec.toInt = _
  rw [Int32.toBitVec_or, i32_bv, i32_bv]
  refine bv_toInt ?_ (Nat.or_lt_two_pow (n := 31) ha hb)
  rw [BitVec.toNat_or, BitVec.toNat_ofNat, BitVec.toNat_ofNat, Nat.mod_eq_of_lt (by omega), Nat.mod_eq_of_lt (by omega)]
theorem i32_31 {k : Nat} (hk : k < 32) : (Int32.ofInt (k : Int) &&& 31) = Int32.ofInt (k : Int) := by
  have := bAnd_nat (a := k) (b := 31) (by omega) (by decide)
  unfold bAnd at this
  apply Int32.toInt_inj.mp
  rw [show (31 : Int32) = Int32.ofInt ((31 : Nat) : Int) from rfl, this, i32_id (nn_i32 (by omega))]
  have : k &&& 31 = k := by rw [show 31 = 2 ^ 5 - 1 from rfl, Nat.and_two_pow_sub_one_eq_mod, Nat.mod_eq_of_lt (by omega)]
  rw [this]
theorem smod32 {k : Nat} (hk : k < 32) : (BitVec.ofNat 32 k).smod 32 = BitVec.ofNat 32 k := by
  have : ∀ k, k < 32 → (BitVec.ofNat 32 k).smod 32 = BitVec.ofNat 32 k := by decide
  exact this k hk
theorem bShr_nat {a k : Nat} (ha : a < 2147483648) (hk : k < 32) : bShr (a : Int) (k : Int) = ((a / 2 ^ k : Nat) : Int) := by
  unfold bShr
  rw [i32_31 hk]
  show (Int32.ofInt (a : Int) >>> Int32.ofInt (k : Int)).toBitVec.toInt = _
  rw [Int32.toBitVec_shiftRight, i32_bv, i32_bv, smod32 hk, BitVec.sshiftRight_eq', BitVec.toNat_ofNat, Nat.mod_eq_of_lt (by omega), BitVec.toInt_sshiftRight, bv_toInt (b := BitVec.ofNat 32 a) (c := a) (by rw [BitVec.toNat_ofNat, Nat.mod_eq_of_lt (by omega)]) ha, Int.shiftRight_eq_div_pow]
  rfl
theorem bShl_nat {k : Nat} (hk : k < 31) : bShl 1 (k : Int) = ((2 ^ k : Nat) : Int) := by
  have : ∀ k : Nat, k < 31 → bShl 1 (k : Int) = ((2 ^ k : Nat) : Int) := by decide
  exact this k hk
theorem bUshr_nat {a k : Nat} (ha : a < 2147483648) (hk : k < 32) : bUshr (a : Int) (k : Int) = ((a / 2 ^ k : Nat) : Int) := by
  unfold bUshr
  show ((Int32.ofInt (a : Int)).toUInt32 >>> ((Int32.ofInt (k : Int)).toUInt32 &&& Int32.toUInt32 31)).toBitVec.toInt = _
  rw [UInt32.toBitVec_shiftRight, UInt32.toBitVec_and]
  show ((Int32.ofInt (a : Int)).toBitVec >>> (((Int32.ofInt (k : Int)).toBitVec &&& 31#32) % 32#32)).toInt = _
  rw [i32_bv, i32_bv]
  have : ∀ k : Nat, k < 32 → ((BitVec.ofNat 32 k) &&& 31#32) % 32#32 = BitVec.ofNat 32 k := by decide
  rw [this k hk]
  have e : (BitVec.ofNat 32 a >>> BitVec.ofNat 32 k).toNat = a / 2 ^ k := by
    rw [BitVec.ushiftRight_eq', BitVec.toNat_ushiftRight, BitVec.toNat_ofNat, BitVec.toNat_ofNat, Nat.mod_eq_of_lt (show a < 2 ^ 32 by omega), Nat.mod_eq_of_lt (show k < 2 ^ 32 by omega), Nat.shiftRight_eq_div_pow]
  exact bv_toInt e (Nat.lt_of_le_of_lt (Nat.div_le_self _ _) ha)
/-- how many bits, as the reference counts them -/
def cnt : Nat → Nat → Nat
  | 0, x => bif Nat.beq x 0 then 0 else 100
  | f + 1, x => bif Nat.beq x 0 then 0 else cnt f (x &&& (x - 1)) + 1
/-- as java.lang.Integer has it -/
def pop1 (x : Nat) : Nat := x - ((x / 2) &&& 1431655765)
def pop2 (y : Nat) : Nat := (y &&& 858993459) + ((y / 4) &&& 858993459)
def pop3 (y : Nat) : Nat := (y + y / 16) &&& 252645135
def pop4 (y : Nat) : Nat := ((y + y / 256) + (y + y / 256) / 65536) &&& 63
def chkB (x : Nat) : Bool := Nat.beq (pop4 (pop3 (pop2 (pop1 x)))) (cnt 17 x)
def allB : Nat → Nat → Bool
  | 0, b => chkB b
  | d + 1, b => allB d b && allB d (b + 2 ^ d)
theorem allB_at : ∀ (d b : Nat), allB d b = true → ∀ x, b ≤ x → x < b + 2 ^ d → chkB x = true
  | 0, b, h, x, h1, h2 => by
    have : x = b := by rw [Nat.pow_zero] at h2; omega
    rw [this]; exact h
  | d + 1, b, h, x, h1, h2 => by
    unfold allB at h
    rw [Bool.and_eq_true] at h
    rw [Nat.pow_succ] at h2
    by_cases c : x < b + 2 ^ d
    · exact allB_at d b h.1 x h1 c
    · exact allB_at d (b + 2 ^ d) h.2 x (by omega) (by omega)
theorem allB16 : allB 16 0 = true := by decide +kernel
end BT
