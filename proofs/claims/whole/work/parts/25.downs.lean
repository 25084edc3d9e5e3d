/-! ===== downs ===== -/
section DP
variable {s : Int → Int} {t : Int}
def mn6 (x : Int) : Int := if x < 1000000 then x else 1000000
def isFl (s : Int → Int) (k : Nat) (r : Int) : Prop := s (28 + 6 * (k : Int) + 3) = 0 ∧ s (28 + 6 * (k : Int) + 0) = r
def bas (t r : Int) : Int × Int := if r = t then (1, 0) else (0, -1)
def dFo (s : Int → Int) (t : Int) (T : Int → Int × Int) (r : Int) : Nat → Int × Int
  | 0 => bas t r
  | k + 1 => if s (28 + 6 * (k : Int) + 3) = 0 ∧ s (28 + 6 * (k : Int) + 0) = r ∧ 0 < (T (s (28 + 6 * (k : Int) + 1))).1 then (mn6 ((dFo s t T r k).1 + (T (s (28 + 6 * (k : Int) + 1))).1), mx (dFo s t T r k).2 ((T (s (28 + 6 * (k : Int) + 1))).2 + 1)) else dFo s t T r k
def dS (s : Int → Int) (t : Int) : Nat → Int → Int × Int
  | 0 => bas t
  | f + 1 => fun r => dFo s t (dS s t f) r (s 1).toNat
theorem dFo_congr {T T' : Int → Int × Int} {r : Int} : ∀ k : Nat, (∀ j : Nat, j < k → isFl s j r → T (s (28 + 6 * (j : Int) + 1)) = T' (s (28 + 6 * (j : Int) + 1))) → dFo s t T r k = dFo s t T' r k
  | 0, _ => rfl
  | k + 1, h => by
    unfold dFo
    rw [dFo_congr k (fun j hj => h j (by omega))]
    by_cases e : isFl s k r
    · rw [h k (by omega) e]
    · rw [if_neg (fun z => e ⟨z.1, z.2.1⟩), if_neg (fun z => e ⟨z.1, z.2.1⟩)]
theorem isFl_down (K : HOK s) {k : Nat} {r : Int} (hk : (k : Int) < s 1) (h : isFl s k r) : 0 ≤ s (28 + 6 * (k : Int) + 1) ∧ s (28 + 6 * (k : Int) + 1) < s 0 ∧ s (12 + s (28 + 6 * (k : Int) + 1)) < s (12 + r) := by
  obtain ⟨a, b, c, d, -⟩ := K.way (w := (k : Int)) (by omega) hk
  obtain ⟨h1, h2⟩ := h
  rw [h2] at d
  exact ⟨b.1, b.2, by omega⟩
theorem HOK.height (K : HOK s) {r : Int} (h1 : 0 ≤ r) (h2 : r < s 0) : 0 ≤ s (12 + r) ∧ s (12 + r) ≤ 40 := K.2.2.2.2.2.2.2.2.1 r h1 h2
theorem dS_stab (K : HOK s) : ∀ (f : Nat) (r : Int), 0 ≤ r → r < s 0 → s (12 + r) < (f : Int) → dS s t (f + 1) r = dS s t f r
  | 0, r, h1, h2, h3 => by have := K.height h1 h2; omega
  | f + 1, r, h1, h2, h3 => by
    show dFo s t (dS s t (f + 1)) r (s 1).toNat = dFo s t (dS s t f) r (s 1).toNat
    refine dFo_congr _ (fun j hj hf => ?_)
    obtain ⟨a, b, c⟩ := isFl_down K (by omega) hf
    exact dS_stab K f _ a b (by omega)
def gdD (f : Nat) (x : Int × Int) : Prop := 0 ≤ x.1 ∧ x.1 ≤ 1000000 ∧ -1 ≤ x.2 ∧ x.2 ≤ (f : Int) ∧ (0 < x.1 ↔ 0 ≤ x.2)
theorem bas_gd {f : Nat} {r : Int} : gdD f (bas t r) := by
  unfold bas gdD; split <;> (dsimp only; omega)
theorem dFo_gd {T : Int → Int × Int} {f : Nat} (h : ∀ r, gdD f (T r)) {r : Int} : ∀ k : Nat, gdD (f + 1) (dFo s t T r k)
  | 0 => bas_gd
  | k + 1 => by
    have ih := dFo_gd h (r := r) k
    unfold dFo
    split
    · rename_i c
      have g := h (s (28 + 6 * (k : Int) + 1))
      unfold gdD at *
      unfold mn6 mx
      dsimp only
      split <;> split <;> omega
    · exact ih
theorem dS_gd : ∀ (f : Nat) (r : Int), gdD f (dS s t f r)
  | 0, r => bas_gd
  | f + 1, r => dFo_gd (fun r => dS_gd f r) _
theorem dS_low (K : HOK s) : ∀ (f : Nat) (r : Int), 0 ≤ r → r < s 0 → s (12 + r) ≤ s (12 + t) → dS s t f r = bas t r
  | 0, r, _, _, _ => rfl
  | f + 1, r, h1, h2, h3 => by
    show dFo s t (dS s t f) r (s 1).toNat = bas t r
    have key : ∀ k : Nat, (k : Int) ≤ s 1 → dFo s t (dS s t f) r k = bas t r := by
      intro k
      induction k with
      | zero => intro _; rfl
      | succ k ih =>
        intro hk
        unfold dFo
        rw [if_neg, ih (by omega)]
        intro z
        obtain ⟨a, b, c⟩ := isFl_down K (by omega) (k := k) (r := r) ⟨z.1, z.2.1⟩
        have z2 := z.2.2
        rw [dS_low K f _ a b (by omega)] at z2
        unfold bas at z2
        rw [if_neg (fun e => by rw [e] at c; omega)] at z2
        exact absurd z2 (by decide)
    exact key _ (by have := K.2.2.1; omega)
/-- the rows down to t and the longest, for every room -/
def DT (s : Int → Int) (t : Int) (T : Int → Int × Int) : Prop := (∀ r, 0 ≤ r → r < s 0 → T r = dFo s t T r (s 1).toNat) ∧ (∀ r, gdD 41 (T r)) ∧ ∀ r, 0 ≤ r → r < s 0 → s (12 + r) ≤ s (12 + t) → T r = bas t r
theorem dS_s (f : Nat) (r : Int) : dS s t (f + 1) r = dFo s t (dS s t f) r (s 1).toNat := rfl
theorem DT_exf (K : HOK s) (f : Nat) (hf : f = 41) : ∃ T, DT s t T := by
  refine ⟨dS s t f, fun r h1 h2 => ?_, fun r => ?_, fun r h1 h2 h3 => dS_low K f r h1 h2 h3⟩
  · exact (dS_stab K f r h1 h2 (by have := K.height h1 h2; omega)).symm.trans (dS_s f r)
  · have := dS_gd (s := s) (t := t) f r
    rw [hf] at this
    rw [hf]
    exact this
theorem DT_ex (K : HOK s) : ∃ T, DT s t T := DT_exf K 41 rfl
/-- as the class keeps the longest -/
def enc (x : Int × Int) : Int := if 0 < x.1 then x.2 else -2
end DP
