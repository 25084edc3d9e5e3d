section BU
variable {G : Gx} {n : Nat} {M : Mem} {Q : Int → Mem → Prop}
theorem beq_ff : ∀ {a : Nat}, a ≠ 0 → Nat.beq a 0 = false
  | 0, h => absurd rfl h
  | _ + 1, _ => rfl
/-- how many bits -/
def pc (x : Nat) : Nat := cnt 17 x
theorem pc_pop {x : Nat} (h : x < 65536) : pop4 (pop3 (pop2 (pop1 x))) = pc x := Nat.eq_of_beq_eq_true (allB_at 16 0 allB16 x (by omega) (by omega))
theorem and_le {a b : Nat} : a &&& b ≤ a := Nat.and_le_left
theorem pc_le {x : Nat} (h : x < 65536) : pc x ≤ 63 := by
  rw [← pc_pop h]; exact Nat.and_le_right
theorem l12_bits {K : Kx} : ∀ (f a c : Nat), a < 65536 → c + cnt f a ≤ 63 → Q (((c + cnt f a : Nat) : Int)) M → CW G K mX12_bits n 4 [none, some (vI (c : Int)), some (vI (a : Int))] [] M (qI Q)
  | 0, a, c, ha, hc, h => by
    have e : cnt 0 a = bif Nat.beq a 0 then 0 else 100 := rfl
    by_cases z : a = 0
    · subst z
      exact bX12_bits_4 ⟨fun _ => h, fun y => absurd rfl y⟩
    · rw [e, beq_ff z] at hc
      exact absurd hc (by show ¬ c + 100 ≤ 63; omega)
  | f + 1, a, c, ha, hc, h => by
    have e : cnt (f + 1) a = bif Nat.beq a 0 then 0 else cnt f (a &&& (a - 1)) + 1 := rfl
    by_cases z : a = 0
    · subst z
      exact bX12_bits_4 ⟨fun _ => h, fun y => absurd rfl y⟩
    · rw [e, beq_ff z] at hc h
      have hc' : c + (cnt f (a &&& (a - 1)) + 1) ≤ 63 := hc
      have h' : Q (((c + (cnt f (a &&& (a - 1)) + 1) : Nat) : Int)) M := h
      refine bX12_bits_4 ⟨fun y => absurd y (by omega), fun _ => ?_⟩
      have e1 : wr ((a : Int) - 1) = ((a - 1 : Nat) : Int) := (wrs (x := (a : Int) - 1) (by omega) (by omega)).trans (by omega)
      have e2 : wr ((c : Int) + 1) = ((c + 1 : Nat) : Int) := (wrs (x := (c : Int) + 1) (by omega) (by omega)).trans (by omega)
      rw [e1, e2, bAnd_nat (by omega) (by omega)]
      clear e1 e2
      refine l12_bits f (a &&& (a - 1)) (c + 1) (Nat.lt_of_le_of_lt and_le ha) (by omega) ?_
      rw [show c + 1 + cnt f (a &&& (a - 1)) = c + (cnt f (a &&& (a - 1)) + 1) by omega]
      exact h'
theorem c12_bits {a : Nat} (ha : a < 65536) (h : Q ((pc a : Nat) : Int) M) : OkI G n mX12_bits [vI (a : Int)] M Q := by
  refine eX12_bits (fun K => bX12_bits_0 ?_)
  have := pc_le ha
  exact l12_bits 17 a 0 ha (by unfold pc at this; omega) (by rw [Nat.zero_add]; exact h)
theorem wr_add {a b : Nat} (h : a + b < 2147483648) : wr ((a : Int) + (b : Int)) = ((a + b : Nat) : Int) := (wrs (x := (a : Int) + (b : Int)) (by omega) (by omega)).trans (by omega)
theorem c6_bitCount {a : Nat} (ha : a < 65536) (h : Q ((pc a : Nat) : Int) M) : OkI G n mJ6_bitCount_0f7a4 [vI (a : Int)] M Q := by
  refine eJ6_bitCount_0f7a4 (fun K => bJ6_bitCount_0f7a4_0 ?_)
  have s1 : bAnd (bUshr (a : Int) 1) 1431655765 = (((a / 2) &&& 1431655765 : Nat) : Int) := by
    rw [show (1 : Int) = ((1 : Nat) : Int) from rfl, bUshr_nat (by omega) (by decide), show (1431655765 : Int) = ((1431655765 : Nat) : Int) from rfl, bAnd_nat (Nat.lt_of_le_of_lt (Nat.div_le_self _ _) (by omega)) (by decide)]
  have l1 : (a / 2) &&& 1431655765 ≤ a := Nat.le_trans and_le (Nat.div_le_self _ _)
  have s2 : wr ((a : Int) - (bAnd (bUshr (a : Int) 1) 1431655765)) = ((pop1 a : Nat) : Int) := by
    rw [s1]
    exact (wrs (x := (a : Int) - _) (by omega) (by omega)).trans (by unfold pop1; omega)
  rw [s2]
  have l2 : pop1 a ≤ a := Nat.sub_le _ _
  generalize hy : pop1 a = y at *
  have s3 : wr (bAnd (y : Int) 858993459 + (bAnd (bUshr (y : Int) 2) 858993459)) = ((pop2 y : Nat) : Int) := by
    rw [show (2 : Int) = ((2 : Nat) : Int) from rfl, bUshr_nat (by omega) (by decide), show (858993459 : Int) = ((858993459 : Nat) : Int) from rfl, bAnd_nat (by omega) (by decide), bAnd_nat (Nat.lt_of_le_of_lt (Nat.div_le_self _ _) (by omega)) (by decide)]
    have a1 : y &&& 858993459 ≤ y := and_le
    have a2 : (y / 2 ^ 2) &&& 858993459 ≤ y := Nat.le_trans and_le (Nat.div_le_self _ _)
    exact wr_add (by omega)
  rw [s3]
  have l3 : pop2 y ≤ 131072 := by
    have a1 : y &&& 858993459 ≤ y := and_le
    have a2 : (y / 4) &&& 858993459 ≤ y := Nat.le_trans and_le (Nat.div_le_self _ _)
    unfold pop2; omega
  generalize hz : pop2 y = z at *
  have s4 : bAnd (wr ((z : Int) + (bUshr (z : Int) 4))) 252645135 = ((pop3 z : Nat) : Int) := by
    rw [show (4 : Int) = ((4 : Nat) : Int) from rfl, bUshr_nat (by omega) (by decide), wr_add (by have := Nat.div_le_self z (2 ^ 4); omega), show (252645135 : Int) = ((252645135 : Nat) : Int) from rfl, bAnd_nat (by have := Nat.div_le_self z (2 ^ 4); omega) (by decide)]
    rfl
  rw [s4]
  have l4 : pop3 z ≤ 262144 := by
    have a1 : pop3 z ≤ z + z / 16 := and_le
    have a2 := Nat.div_le_self z 16
    omega
  generalize hv : pop3 z = v at *
  have s5 : wr ((v : Int) + (bUshr (v : Int) 8)) = ((v + v / 256 : Nat) : Int) := by
    rw [show (8 : Int) = ((8 : Nat) : Int) from rfl, bUshr_nat (by omega) (by decide), wr_add (by have := Nat.div_le_self v (2 ^ 8); omega)]
  rw [s5]
  have l5 : v + v / 256 ≤ 524288 := by have a2 := Nat.div_le_self v 256; omega
  have s6 : bAnd (wr (((v + v / 256 : Nat) : Int) + (bUshr ((v + v / 256 : Nat) : Int) 16))) 63 = ((pop4 v : Nat) : Int) := by
    rw [show (16 : Int) = ((16 : Nat) : Int) from rfl, bUshr_nat (by omega) (by decide), wr_add (by have := Nat.div_le_self (v + v / 256) (2 ^ 16); omega), show (63 : Int) = ((63 : Nat) : Int) from rfl, bAnd_nat (by have := Nat.div_le_self (v + v / 256) (2 ^ 16); omega) (by decide)]
    rfl
  rw [s6, ← hv, ← hz, ← hy, pc_pop ha]
  exact h
end BU
