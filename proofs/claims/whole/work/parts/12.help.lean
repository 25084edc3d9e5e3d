/-! ===== words for the contracts ===== -/
theorem sg_neg {x y : Int} : sg x y < 0 ↔ x < y := by unfold sg; split <;> (try split) <;> omega
theorem sg_pos {x y : Int} : 0 < sg x y ↔ y < x := by unfold sg; split <;> (try split) <;> omega
theorem sg_zero {x y : Int} : sg x y = 0 ↔ x = y := by unfold sg; split <;> (try split) <;> omega
theorem sg_nn {x y : Int} : 0 ≤ sg x y ↔ y ≤ x := by unfold sg; split <;> (try split) <;> omega
theorem sg_np {x y : Int} : sg x y ≤ 0 ↔ x ≤ y := by unfold sg; split <;> (try split) <;> omega
theorem wrs {x : Int} (h1 : -2147483648 ≤ x) (h2 : x ≤ 2147483647) : wr x = x := wr_id ⟨h1, h2⟩
theorem wls {x : Int} (h1 : -9223372036854775808 ≤ x) (h2 : x ≤ 9223372036854775807) : wl x = x := wl_id ⟨h1, h2⟩
/-- only these fields have changed -/
def EqX (l : List (Nat × Nat)) (M M' : Mem) : Prop := ∀ o k i, (o, k) ∉ l → M' o k i = M o k i
theorem EqX.rf {l : List (Nat × Nat)} {M : Mem} : EqX l M M := fun _ _ _ _ => rfl
theorem EqX.trans {l : List (Nat × Nat)} {M M1 M2 : Mem} (h1 : EqX l M M1) (h2 : EqX l M1 M2) : EqX l M M2 := fun o k i h => (h2 o k i h).trans (h1 o k i h)
theorem EqX.sub {l l' : List (Nat × Nat)} {M M' : Mem} (h : EqX l M M') (hs : ∀ c ∈ l, c ∈ l') : EqX l' M M' := fun o k i hn => h o k i (fun z => hn (hs _ z))
theorem EqX.mset {l : List (Nat × Nat)} {M : Mem} {o k i : Nat} {x : Int} (h : (o, k) ∈ l) : EqX l M (mset M o k i x) := by
  intro o' k' i' hn
  exact mset_ne (fun z => hn (by rw [z.1, z.2.1]; exact h))
/-- the reference's row 'said' -/
def sd (M : Mem) (i : Int) : Int := M 0 26 i.toNat
theorem sd_eq {M M' : Mem} {l : List (Nat × Nat)} (h : EqX l M M') (hn : (0, 26) ∉ l) (i : Int) : sd M' i = sd M i := h 0 26 _ hn
theorem mset_if {M : Mem} {o k i o' k' i' : Nat} {x : Int} : mset M o k i x o' k' i' = if o' = o ∧ k' = k ∧ i' = i then x else M o' k' i' := rfl
/-- the set of those below n of whom f says so, as both programs build it -/
def setF (f : Int → Bool) : Nat → Int
  | 0 => 0
  | k + 1 => if f (k : Int) = true then bOr (setF f k) (bShl 1 (k : Int)) else setF f k
theorem bOr_0 {x : Int} (h : inI x) : bOr x 0 = x := by
  unfold bOr
  rw [show Int32.ofInt 0 = 0 from rfl, Int32.or_zero, i32_id h]
theorem bOr_in (x y : Int) : inI (bOr x y) := i32_in _
theorem bShl_in (x y : Int) : inI (bShl x y) := i32_in _
theorem bAnd_in (x y : Int) : inI (bAnd x y) := i32_in _
theorem setF_in (f : Int → Bool) : ∀ k, inI (setF f k)
  | 0 => in0
  | k + 1 => by unfold setF; split; exact bOr_in _ _; exact setF_in f k
