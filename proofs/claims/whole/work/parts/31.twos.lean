/-! ===== who comes where, a flight gone up: the mathematics ===== -/
section TP
variable {s : Int → Int} {fl : Int}
abbrev Rw : Type := Int → Nat
def up1 (R : Rw) (a b : Int) : Rw := fun r => if r = a then R a ||| R b else R r
def sp (s : Int → Int) (fl : Int) (R : Rw) (k : Nat) : Rw := if (k : Int) = fl ∨ s (28 + 6 * (k : Int) + 3) = 1 then up1 (up1 R (s (28 + 6 * (k : Int) + 0)) (s (28 + 6 * (k : Int) + 1))) (s (28 + 6 * (k : Int) + 1)) (s (28 + 6 * (k : Int) + 0)) else up1 R (s (28 + 6 * (k : Int) + 0)) (s (28 + 6 * (k : Int) + 1))
def rd (s : Int → Int) (fl : Int) (R : Rw) : Nat → Rw
  | 0 => R
  | k + 1 => sp s fl (rd s fl R k) k
def itR (s : Int → Int) (fl : Int) : Nat → Rw
  | 0 => fun r => if 0 ≤ r ∧ r < 16 then 2 ^ r.toNat else 0
  | k + 1 => rd s fl (itR s fl k) (s 1).toNat
theorem up1_lt {R : Rw} (h : ∀ r, R r < 65536) (a b : Int) : ∀ r, up1 R a b r < 65536 := by
  intro r; unfold up1; split
  · exact Nat.or_lt_two_pow (n := 16) (h a) (h b)
  · exact h r
theorem sp_lt {R : Rw} (h : ∀ r, R r < 65536) (k : Nat) : ∀ r, sp s fl R k r < 65536 := by
  unfold sp; split
  · exact up1_lt (up1_lt h _ _) _ _
  · exact up1_lt h _ _
theorem rd_lt {R : Rw} (h : ∀ r, R r < 65536) : ∀ k r, rd s fl R k r < 65536
  | 0, r => h r
  | k + 1, r => sp_lt (rd_lt h k) k r
theorem itR_lt : ∀ k r, itR s fl k r < 65536
  | 0, r => by
    unfold itR
    split
    · rename_i c
      exact Nat.pow_lt_pow_right (n := 16) (by decide) (by omega)
    · decide
  | k + 1, r => rd_lt (itR_lt k) _ r
/-- bit t -/
abbrev tb (R : Rw) (t : Nat) (r : Int) : Bool := (R r).testBit t
theorem tb_up1 {R : Rw} {a b : Int} {t : Nat} {r : Int} : tb (up1 R a b) t r = if r = a then (tb R t a || tb R t b) else tb R t r := by
  unfold tb up1
  split
  · rw [Nat.testBit_or]
  · rfl
theorem up1_mono {R : Rw} {a b : Int} {t : Nat} {r : Int} (h : tb R t r = true) : tb (up1 R a b) t r = true := by
  rw [tb_up1]
  split
  · rename_i e; rw [e] at h; rw [h]; rfl
  · exact h
theorem sp_mono {R : Rw} {k t : Nat} {r : Int} (h : tb R t r = true) : tb (sp s fl R k) t r = true := by
  unfold sp; split
  · exact up1_mono (up1_mono h)
  · exact up1_mono h
theorem rd_mono {R : Rw} {t : Nat} {r : Int} (h : tb R t r = true) : ∀ k, tb (rd s fl R k) t r = true
  | 0 => h
  | k + 1 => sp_mono (rd_mono h k)
theorem rd_mono2 {R : Rw} {t : Nat} {r : Int} {j : Nat} (h : tb (rd s fl R j) t r = true) : ∀ k, j ≤ k → tb (rd s fl R k) t r = true
  | 0, hk => by have : j = 0 := by omega
                subst this; exact h
  | k + 1, hk => by
    by_cases e : j = k + 1
    · subst e; exact h
    · exact sp_mono (rd_mono2 h k (by omega))
/-- of bit t nothing more can come by ways below n -/
def clT (s : Int → Int) (fl : Int) (R : Rw) (t n : Nat) : Prop := ∀ k : Nat, k < n → (tb R t (s (28 + 6 * (k : Int) + 1)) = true → tb R t (s (28 + 6 * (k : Int) + 0)) = true) ∧ (((k : Int) = fl ∨ s (28 + 6 * (k : Int) + 3) = 1) → tb R t (s (28 + 6 * (k : Int) + 0)) = true → tb R t (s (28 + 6 * (k : Int) + 1)) = true)
theorem up1_cl {R : Rw} {a b : Int} {t : Nat} (h : tb R t b = true → tb R t a = true) : ∀ r, tb (up1 R a b) t r = tb R t r := by
  intro r
  rw [tb_up1]
  split
  · rename_i e
    rw [e]
    cases hb : tb R t b with
    | true => rw [h hb]; rfl
    | false => rw [Bool.or_false]
  · rfl
theorem sp_cl {R : Rw} {t n : Nat} {k : Nat} (hk : k < n) (h : clT s fl R t n) : ∀ r, tb (sp s fl R k) t r = tb R t r := by
  intro r
  unfold sp
  have c1 := up1_cl (R := R) (h k hk).1
  split
  · rename_i e
    rw [up1_cl (R := up1 R _ _) (fun z => by rw [c1] at z ⊢; exact (h k hk).2 e z), c1]
  · exact c1 r
theorem rd_cl {R : Rw} {t n : Nat} (h : clT s fl R t n) : ∀ k, k ≤ n → ∀ r, tb (rd s fl R k) t r = tb R t r
  | 0, _, r => rfl
  | k + 1, hk, r => by
    have ih := rd_cl h k (by omega)
    have h' : clT s fl (rd s fl R k) t n := fun j hj => ⟨fun z => by rw [ih] at z ⊢; exact (h j hj).1 z, fun e z => by rw [ih] at z ⊢; exact (h j hj).2 e z⟩
    show tb (sp s fl (rd s fl R k) k) t r = _
    rw [sp_cl (by omega) h' r, ih r]
theorem rd_gain {R : Rw} {t n : Nat} (K : HOK s) (hn : n = (s 1).toNat) (h : ¬ clT s fl R t n) : ∃ j : Nat, j < 16 ∧ tb R t (j : Int) = false ∧ tb (rd s fl R n) t (j : Int) = true := by
  have k1 := K.2.1
  unfold clT at h
  have : ∃ k : Nat, k < n ∧ ¬ ((tb R t (s (28 + 6 * (k : Int) + 1)) = true → tb R t (s (28 + 6 * (k : Int) + 0)) = true) ∧ (((k : Int) = fl ∨ s (28 + 6 * (k : Int) + 3) = 1) → tb R t (s (28 + 6 * (k : Int) + 0)) = true → tb R t (s (28 + 6 * (k : Int) + 1)) = true)) := by
    apply Classical.byContradiction
    intro z
    exact h (fun k hk => Classical.byContradiction (fun y => z ⟨k, hk, y⟩))
  obtain ⟨k, hk, hc⟩ := this
  obtain ⟨w0, w1, -⟩ := K.way (w := (k : Int)) (by omega) (by omega)
  have hsp : rd s fl R (k + 1) = sp s fl (rd s fl R k) k := rfl
  by_cases c1 : tb R t (s (28 + 6 * (k : Int) + 1)) = true ∧ tb R t (s (28 + 6 * (k : Int) + 0)) = false
  · refine ⟨(s (28 + 6 * (k : Int) + 0)).toNat, by omega, by rw [Int.toNat_of_nonneg w0.1]; exact c1.2, rd_mono2 (j := k + 1) ?_ n (by omega)⟩
    rw [Int.toNat_of_nonneg w0.1, hsp]
    have g := rd_mono (s := s) (fl := fl) c1.1 k
    have q : tb (up1 (rd s fl R k) (s (28 + 6 * (k : Int) + 0)) (s (28 + 6 * (k : Int) + 1))) t (s (28 + 6 * (k : Int) + 0)) = true := by
      rw [tb_up1, if_pos rfl, g, Bool.or_true]
    unfold sp; split
    · exact up1_mono q
    · exact q
  · have hc2 : ((k : Int) = fl ∨ s (28 + 6 * (k : Int) + 3) = 1) ∧ tb R t (s (28 + 6 * (k : Int) + 0)) = true ∧ tb R t (s (28 + 6 * (k : Int) + 1)) = false := by
      apply Classical.byContradiction
      intro z
      refine hc ⟨fun y => ?_, fun e y => ?_⟩
      · cases hb : tb R t (s (28 + 6 * (k : Int) + 0)) with
        | true => rfl
        | false => exact absurd ⟨y, hb⟩ c1
      · cases hb : tb R t (s (28 + 6 * (k : Int) + 1)) with
        | true => rfl
        | false => exact absurd ⟨e, y, hb⟩ z
    obtain ⟨e, y1, y2⟩ := hc2
    refine ⟨(s (28 + 6 * (k : Int) + 1)).toNat, by omega, by rw [Int.toNat_of_nonneg w1.1]; exact y2, rd_mono2 (j := k + 1) ?_ n (by omega)⟩
    rw [Int.toNat_of_nonneg w1.1, hsp]
    have g := rd_mono (s := s) (fl := fl) y1 k
    have q := up1_mono (a := s (28 + 6 * (k : Int) + 0)) (b := s (28 + 6 * (k : Int) + 1)) g
    unfold sp; rw [if_pos e, tb_up1, if_pos rfl, q, Bool.or_true]
def nbT (R : Rw) (t : Nat) : Nat → Prop := fun j => tb R t (j : Int) = false
theorem itR_s (k : Nat) : itR s fl (k + 1) = rd s fl (itR s fl k) (s 1).toNat := rfl
theorem cl_step {R R' : Rw} (K : HOK s) {t : Nat} (hR : R' = rd s fl R (s 1).toNat) {c : Nat} (h : clT s fl R t (s 1).toNat ∨ nfc (nbT R t) 16 + c ≤ 16) : clT s fl R' t (s 1).toNat ∨ nfc (nbT R' t) 16 + (c + 1) ≤ 16 := by
  by_cases cc : clT s fl R t (s 1).toNat
  · have e : ∀ r, tb R' t r = tb R t r := by rw [hR]; exact rd_cl cc (s 1).toNat (Nat.le_refl _)
    exact Or.inl (fun j hj => ⟨fun z => by rw [e] at z ⊢; exact (cc j hj).1 z, fun q z => by rw [e] at z ⊢; exact (cc j hj).2 q z⟩)
  · rcases h with h | h
    · exact absurd h cc
    · obtain ⟨j, j1, j2, j3⟩ := rd_gain K rfl cc
      rw [← hR] at j3
      have mono : ∀ i : Nat, tb R t (i : Int) = true → tb R' t (i : Int) = true := fun i hi => by rw [hR]; exact rd_mono hi _
      have := nfc_lt (P := nbT R t) (P' := nbT R' t) (fun i hi => by
        cases hb : tb R t (i : Int) with
        | false => exact hb
        | true => have := mono i hb; unfold nbT at hi; rw [this] at hi; exact absurd hi (by decide)) (j := j) j2 (by unfold nbT; rw [j3]; decide) 16 j1
      exact Or.inr (by omega)
theorem nfc_0 (P : Nat → Prop) (n : Nat) : nfc P n + 0 ≤ n := by rw [Nat.add_zero]; exact nfc_n n
theorem itR_count (K : HOK s) (t k : Nat) : clT s fl (itR s fl k) t (s 1).toNat ∨ nfc (nbT (itR s fl k) t) 16 + k ≤ 16 := by
  induction k with
  | zero => exact Or.inr (nfc_0 _ 16)
  | succ k ih => exact cl_step K (itR_s k) ih
theorem nfc_pos {P : Nat → Prop} {j : Nat} (h : P j) : ∀ n, j < n → 0 < nfc P n
  | 0, hj => absurd hj (Nat.not_lt_zero _)
  | k + 1, hj => by
    unfold nfc
    by_cases e : j = k
    · subst e; rw [if_pos h]; omega
    · have := nfc_pos h k (by omega); omega
theorem itR_closed (K : HOK s) {k : Nat} (hk : 16 ≤ k) (t : Nat) : clT s fl (itR s fl k) t (s 1).toNat := by
  have k1 := K.2.1
  rcases itR_count (fl := fl) K t k with h | h
  · exact h
  · intro j hj
    obtain ⟨w0, w1, -⟩ := K.way (w := (j : Int)) (by omega) (by omega)
    have key : ∀ r : Int, 0 ≤ r → r < s 0 → tb (itR s fl k) t r = true := by
      intro r r1 r2
      cases hb : tb (itR s fl k) t r with
      | true => rfl
      | false =>
        have := nfc_pos (P := nbT (itR s fl k) t) (j := r.toNat) (by unfold nbT; rw [Int.toNat_of_nonneg r1]; exact hb) 16 (by omega)
        omega
    exact ⟨fun _ => key _ w0.1 w0.2, fun _ _ => key _ w1.1 w1.2⟩
/-- nothing more can come -/
def clA (s : Int → Int) (fl : Int) (R : Rw) : Prop := ∀ t, clT s fl R t (s 1).toNat
theorem clA_rd {R : Rw} (h : clA s fl R) {k : Nat} (hk : k ≤ (s 1).toNat) : rd s fl R k = R := by
  funext r
  apply Nat.eq_of_testBit_eq
  intro t
  exact rd_cl (h t) k hk r
theorem itR_stay {k : Nat} (h : rd s fl (itR s fl k) (s 1).toNat = itR s fl k) : ∀ j, itR s fl (k + j) = itR s fl k
  | 0 => rfl
  | j + 1 => by
    show rd s fl (itR s fl (k + j)) (s 1).toNat = _
    rw [itR_stay h j, h]
/-- the rows when all is done -/
def itF (s : Int → Int) (fl : Int) : Rw := itR s fl 16
theorem itF_of (K : HOK s) {k : Nat} (h : rd s fl (itR s fl k) (s 1).toNat = itR s fl k) : itR s fl k = itF s fl := by
  unfold itF
  by_cases c : k ≤ 16
  · have := itR_stay h (16 - k)
    rw [show k + (16 - k) = 16 by omega] at this
    exact this.symm
  · have := itR_stay (k := 16) (s := s) (fl := fl) (clA_rd (fun t => itR_closed K (Nat.le_refl _) t) (Nat.le_refl _)) (k - 16)
    rw [show 16 + (k - 16) = k by omega] at this
    exact this
theorem itF_17 (K : HOK s) {k : Nat} (h : 16 ≤ k) : itR s fl k = itF s fl := itF_of K (clA_rd (fun t => itR_closed K h t) (Nat.le_refl _))
theorem itR_clA (K : HOK s) {k : Nat} (h : 16 ≤ k) : clA s fl (itR s fl k) := fun t => itR_closed K h t
def smR (R : Rw) : Nat → Int
  | 0 => 0
  | k + 1 => smR R k + ((pc (R (k : Int)) : Nat) - 1 : Int)
theorem smR_in {R : Rw} (h : ∀ r, R r < 65536) : ∀ k : Nat, -(k : Int) ≤ smR R k ∧ smR R k ≤ 62 * (k : Int)
  | 0 => by unfold smR; omega
  | k + 1 => by
    have := smR_in h k
    have := pc_le (h (k : Int))
    unfold smR
    omega
end TP
