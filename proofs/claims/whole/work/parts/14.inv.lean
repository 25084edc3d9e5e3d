/-! ===== the class's state beside the reference's row ===== -/
/-- the house's object (its fields and rows) tells what the row s tells -/
def HR (f : Nat → Nat → Int) (s : Int → Int) : Prop :=
  f 0 0 = s 0 ∧ f 1 0 = s 1 ∧ f 2 0 = s 2 ∧ f 4 0 = s 4 ∧ f 5 0 = s 5 ∧ f 6 0 = s 6 ∧
  (∀ r : Int, 0 ≤ r → r < s 0 → f 7 r.toNat = s (12 + r)) ∧
  (∀ w : Int, 0 ≤ w → w < s 1 → f 8 w.toNat = s (28 + 6 * w + 0) ∧ f 9 w.toNat = s (28 + 6 * w + 1) ∧ f 10 w.toNat = s (28 + 6 * w + 2) ∧ f 11 w.toNat = s (28 + 6 * w + 3) ∧ f 12 w.toNat = s (28 + 6 * w + 4) ∧ f 13 w.toNat = s (28 + 6 * w + 5)) ∧
  (∀ p : Int, 0 ≤ p → p < s 2 → f 14 p.toNat = s (172 + 5 * p + 1)) ∧ (0 < s 0 → isTop s (f 3 0))
/-- what a house keeps to -/
def HOK (s : Int → Int) : Prop :=
  0 ≤ s 0 ∧ s 0 ≤ 16 ∧ 0 ≤ s 1 ∧ s 1 ≤ 24 ∧ 0 ≤ s 2 ∧ s 2 ≤ 8 ∧ (s 0 = 0 → s 1 = 0 ∧ s 2 = 0 ∧ s 4 = 0) ∧
  ((s 4 = 0 ∧ s 5 = 0 ∧ s 6 = 0) ∨ (1 ≤ s 4 ∧ s 4 ≤ 60 ∧ 1 ≤ s 5 ∧ s 5 ≤ 9 ∧ 1 ≤ s 6 ∧ s 6 ≤ 120)) ∧
  (∀ r : Int, 0 ≤ r → r < s 0 → 0 ≤ s (12 + r) ∧ s (12 + r) ≤ 40) ∧
  (∀ w : Int, 0 ≤ w → w < s 1 → (0 ≤ s (28 + 6 * w + 0) ∧ s (28 + 6 * w + 0) < s 0) ∧ (0 ≤ s (28 + 6 * w + 1) ∧ s (28 + 6 * w + 1) < s 0) ∧ (1 ≤ s (28 + 6 * w + 2) ∧ s (28 + 6 * w + 2) ≤ 60) ∧
    ((s (28 + 6 * w + 3) = 0 ∧ s (12 + s (28 + 6 * w + 1)) < s (12 + s (28 + 6 * w + 0))) ∨ (s (28 + 6 * w + 3) = 1 ∧ s (28 + 6 * w + 0) ≠ s (28 + 6 * w + 1) ∧ s (12 + s (28 + 6 * w + 1)) = s (12 + s (28 + 6 * w + 0)))) ∧
    ((s (28 + 6 * w + 4) = -1 ∧ s (28 + 6 * w + 5) = -1) ∨ (0 ≤ s (28 + 6 * w + 4) ∧ s (28 + 6 * w + 4) ≤ s (28 + 6 * w + 5) ∧ s (28 + 6 * w + 5) ≤ 1439))) ∧
  (∀ p : Int, 0 ≤ p → p < s 2 → 0 ≤ s (172 + 5 * p + 1) ∧ s (172 + 5 * p + 1) < s 0)
/-- how many of the first k ride in this minute -/
def ridS (s : Int → Int) : Nat → Int
  | 0 => 0
  | k + 1 => ridS s k + (if s (172 + 5 * (k : Int) + 2) = s 3 + 1 then 1 else 0)
/-- the day's object tells what the row tells -/
def DR (f : Nat → Nat → Int) (s : Int → Int) : Prop :=
  f 0 0 = s 3 ∧ f 1 0 = ridS s (s 2).toNat ∧
  (∀ p : Int, 0 ≤ p → p < s 2 → f 2 p.toNat = s (172 + 5 * p + 0) ∧ f 3 p.toNat = (if 0 < s (172 + 5 * p + 2) then 1 else 0) ∧ f 4 p.toNat = s (172 + 5 * p + 3) ∧ f 5 p.toNat = s (172 + 5 * p + 4))
def DOK (s : Int → Int) : Prop :=
  0 ≤ s 3 ∧ s 3 ≤ 1440 ∧
  (∀ p : Int, 0 ≤ p → p < s 2 → -1 ≤ s (172 + 5 * p + 0) ∧ s (172 + 5 * p + 0) < s 0 ∧ 0 ≤ s (172 + 5 * p + 2) ∧ s (172 + 5 * p + 2) ≤ s 3 + 1 ∧
    (s (172 + 5 * p + 0) = -1 → (0 ≤ s (172 + 5 * p + 3) ∧ s (172 + 5 * p + 3) < s 0) ∧ 0 ≤ s (172 + 5 * p + 4) ∧ s (172 + 5 * p + 4) ≤ 1500))
