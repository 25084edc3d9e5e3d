/-! ===== the lists; who rides when: the mathematics ===== -/
section RDP
variable {s : Int → Int}
/-- the lists' object tells what the row tells -/
def TTh (s : Int → Int) (t v : Int) : Prop := ∃ D, Tab s (src1 (s (252 + 3 * t + 0)) 1 (s (252 + 3 * t + 1))) D ∧ v = so D (s (252 + 3 * t + 2)) ∧ v ≤ 1439
def LR (f : Nat → Nat → Int) (s : Int → Int) : Prop :=
  f 0 0 = s 11 ∧ f 1 0 = s 7 ∧ f 2 0 = s 8 ∧ f 3 0 = s 9 ∧ f 4 0 = s 10 ∧
  (∀ e : Int, 0 ≤ e → e < s 7 → f 5 e.toNat = s (212 + 4 * e + 0) ∧ f 6 e.toNat = s (212 + 4 * e + 1) ∧ f 7 e.toNat = s (212 + 4 * e + 2) ∧ f 8 e.toNat = s (212 + 4 * e + 3)) ∧
  (∀ t : Int, 0 ≤ t → t < s 8 → f 9 t.toNat = s (252 + 3 * t + 0) ∧ f 10 t.toNat = s (252 + 3 * t + 1) ∧ f 11 t.toNat = s (252 + 3 * t + 2) ∧ TTh s t (f 12 t.toNat)) ∧
  (∀ k : Int, 0 ≤ k → k < s 9 → f 13 k.toNat = s (288 + k)) ∧
  (∀ c : Int, 0 ≤ c → c < s 10 → f 14 c.toNat = s (308 + 2 * c) ∧ f 15 c.toNat = s (308 + 2 * c + 1))
def LOK (s : Int → Int) : Prop :=
  (0 ≤ s 7 ∧ s 7 ≤ 10) ∧ (0 ≤ s 8 ∧ s 8 ≤ 12) ∧ (0 ≤ s 9 ∧ s 9 ≤ 20) ∧ (0 ≤ s 10 ∧ s 10 ≤ 10) ∧ 0 ≤ s 11 ∧
  (∀ e : Int, 0 ≤ e → e < s 7 → (0 ≤ s (212 + 4 * e + 0) ∧ s (212 + 4 * e + 0) < s 0) ∧ 0 ≤ s (212 + 4 * e + 1) ∧ s (212 + 4 * e + 1) ≤ s (212 + 4 * e + 2) ∧ s (212 + 4 * e + 2) ≤ 1439 ∧ 0 ≤ s (212 + 4 * e + 3) ∧ s (212 + 4 * e + 3) ≤ 99) ∧
  (∀ t : Int, 0 ≤ t → t < s 8 → (0 ≤ s (252 + 3 * t + 0) ∧ s (252 + 3 * t + 0) < s 0) ∧ (0 ≤ s (252 + 3 * t + 1) ∧ s (252 + 3 * t + 1) ≤ 1439) ∧ (0 ≤ s (252 + 3 * t + 2) ∧ s (252 + 3 * t + 2) < s 0)) ∧
  (∀ k : Int, 0 ≤ k → k < s 9 → 0 ≤ s (288 + k) ∧ s (288 + k) ≤ 1439) ∧
  (∀ c : Int, 0 ≤ c → c < s 10 → (0 ≤ s (308 + 2 * c) ∧ s (308 + 2 * c) ≤ 5) ∧ (0 ≤ s (308 + 2 * c + 1) ∧ s (308 + 2 * c + 1) ≤ 5) ∧ s (308 + 2 * c) ≠ s (308 + 2 * c + 1))
theorem LOK.rid (L : LOK s) {k : Int} (h1 : 0 ≤ k) (h2 : k < s 9) : 0 ≤ s (288 + k) ∧ s (288 + k) ≤ 1439 := L.2.2.2.2.2.2.2.1 k h1 h2
theorem LR.rid {f : Nat → Nat → Int} (L : LR f s) {k : Int} (h1 : 0 ≤ k) (h2 : k < s 9) : f 13 k.toNat = s (288 + k) := L.2.2.2.2.2.2.2.1 k h1 h2
/-- how many below k -/
def cb (f : Int → Bool) : Nat → Int
  | 0 => 0
  | k + 1 => cb f k + if f (k : Int) = true then 1 else 0
theorem cb_rng {f : Int → Bool} : ∀ k : Nat, 0 ≤ cb f k ∧ cb f k ≤ (k : Int)
  | 0 => ⟨Int.le_refl _, Int.le_refl _⟩
  | k + 1 => by
    have := cb_rng (f := f) k
    unfold cb; split <;> omega
theorem cb_same {f f' : Int → Bool} : ∀ k : Nat, (∀ i : Int, 0 ≤ i → i < (k : Int) → f' i = f i) → cb f' k = cb f k
  | 0, _ => rfl
  | k + 1, h => by
    unfold cb
    rw [cb_same k (fun i h1 h2 => h i h1 (by omega)), h (k : Int) (by omega) (by omega)]
theorem cb_set {f f' : Int → Bool} {j : Int} (h1 : f j = false) (h2 : f' j = true) (h3 : ∀ i, i ≠ j → f' i = f i) (h0 : 0 ≤ j) : ∀ k : Nat, j < (k : Int) → cb f' k = cb f k + 1
  | 0, hk => by omega
  | k + 1, hk => by
    unfold cb
    by_cases e : j = (k : Int)
    · rw [cb_same (f := f) k (fun i i1 i2 => h3 i (by omega)), ← e, h1, h2, if_pos rfl, if_neg (by decide)]
      omega
    · rw [cb_set h1 h2 h3 h0 k (by omega), h3 (k : Int) (fun z => e z.symm)]
      omega
theorem cb_lt {f : Int → Bool} : ∀ k : Nat, cb f k < (k : Int) → ∃ i : Int, 0 ≤ i ∧ i < (k : Int) ∧ f i = false
  | 0, h => absurd h (by unfold cb; decide)
  | k + 1, h => by
    unfold cb at h
    by_cases e : f (k : Int) = true
    · rw [if_pos e] at h
      obtain ⟨i, i1, i2, i3⟩ := cb_lt (f := f) k (by omega)
      exact ⟨i, i1, by omega, i3⟩
    · exact ⟨(k : Int), by omega, by omega, by simpa using e⟩
theorem cb_zero {f : Int → Bool} : ∀ k : Nat, (∀ i : Int, 0 ≤ i → i < (k : Int) → f i = false) → cb f k = 0
  | 0, _ => rfl
  | k + 1, h => by
    unfold cb
    rw [cb_zero k (fun i h1 h2 => h i h1 (by omega)), h (k : Int) (by omega) (by omega)]
    rfl
/-! the hoist's minutes -/
theorem hoM_q {x : Int} : ∃ q, hoM s x = q * s 6 := ⟨_, rfl⟩
theorem hoM_least {x q : Int} (h0 : 0 ≤ x) (h6 : 1 ≤ s 6) (h : x ≤ q * s 6) : hoM s x ≤ q * s 6 := by
  unfold hoM
  rw [Int.tdiv_eq_ediv_of_nonneg (by omega)]
  have h1 : x + s 6 - 1 < (q + 1) * s 6 := by rw [Int.add_mul, Int.one_mul]; omega
  have h2 := Int.ediv_lt_of_lt_mul (show 0 < s 6 by omega) h1
  exact Int.mul_le_mul_of_nonneg_right (by omega) (by omega)
theorem hoM_self {q : Int} (h0 : 0 ≤ q * s 6) (h6 : 1 ≤ s 6) : hoM s (q * s 6) = q * s 6 := by
  have a := hoM_least h0 h6 (Int.le_refl (q * s 6))
  have b := (hoM_le (s := s) h0 h6).1
  omega
theorem mul_gap {p q e : Int} (he : 1 ≤ e) (h : p * e < q * e) : p * e + e ≤ q * e := by
  have h1 : p < q := Int.lt_of_mul_lt_mul_right h (by omega)
  have h2 : (p + 1) * e ≤ q * e := Int.mul_le_mul_of_nonneg_right (by omega) (by omega)
  rw [Int.add_mul, Int.one_mul] at h2
  exact h2
theorem hoM_next {q : Int} (h0 : 0 ≤ q * s 6) (h6 : 1 ≤ s 6) : hoM s (q * s 6 + 1) = q * s 6 + s 6 := by
  obtain ⟨p, hp⟩ := hoM_q (s := s) (x := q * s 6 + 1)
  have a := (hoM_le (s := s) (m := q * s 6 + 1) (by omega) h6).1
  rw [hp] at a
  have b := mul_gap (p := q) (q := p) h6 (by omega)
  have c := hoM_least (s := s) (x := q * s 6 + 1) (q := q + 1) (by omega) h6 (by rw [Int.add_mul, Int.one_mul]; omega)
  rw [Int.add_mul, Int.one_mul, hp] at c
  omega
/-! the next of those who wait -/
def PB (W : Int → Prop) (v : Int → Int) (x b : Int) : Prop := (b = -1 ∧ ∀ j, 0 ≤ j → j < x → ¬ W j) ∨ (0 ≤ b ∧ b < x ∧ W b ∧ (∀ j, 0 ≤ j → j < x → W j → v b ≤ v j) ∧ ∀ j, 0 ≤ j → j < b → W j → v b < v j)
theorem PB_skip {W : Int → Prop} {v : Int → Int} {x b : Int} (h : PB W v x b) (hw : ¬ W x) : PB W v (x + 1) b := by
  have hx : ∀ j, j < x + 1 → W j → j < x := fun j hj hw' => by
    by_cases e : j = x
    · rw [e] at hw'; exact absurd hw' hw
    · omega
  rcases h with ⟨a, c⟩ | ⟨a, c, d, e, g⟩
  · exact Or.inl ⟨a, fun j h1 h2 h3 => c j h1 (hx j h2 h3) h3⟩
  · exact Or.inr ⟨a, by omega, d, fun j h1 h2 h3 => e j h1 (hx j h2 h3) h3, g⟩
theorem PB_keep {W : Int → Prop} {v : Int → Int} {x b : Int} (h : PB W v x b) (hb : ¬ b = -1) (hv : v b ≤ v x) : PB W v (x + 1) b := by
  rcases h with ⟨a, c⟩ | ⟨a, c, d, e, g⟩
  · exact absurd a hb
  · refine Or.inr ⟨a, by omega, d, fun j h1 h2 h3 => ?_, g⟩
    by_cases q : j = x
    · rw [q]; exact hv
    · exact e j h1 (by omega) h3
theorem PB_take {W : Int → Prop} {v : Int → Int} {x b : Int} (h0 : 0 ≤ x) (h : PB W v x b) (hw : W x) (hv : b = -1 ∨ v x < v b) : PB W v (x + 1) x := by
  rcases h with ⟨a, c⟩ | ⟨a, c, d, e, g⟩
  · refine Or.inr ⟨h0, by omega, hw, fun j h1 h2 h3 => ?_, fun j h1 h2 h3 => absurd h3 (c j h1 h2)⟩
    by_cases q : j = x
    · rw [q]; exact Int.le_refl _
    · exact absurd h3 (c j h1 (by omega))
  · have hv' : v x < v b := by
      rcases hv with q | q
      · omega
      · exact q
    refine Or.inr ⟨h0, by omega, hw, fun j h1 h2 h3 => ?_, fun j h1 h2 h3 => by have := e j h1 h2 h3; omega⟩
    by_cases q : j = x
    · rw [q]; exact Int.le_refl _
    · have := e j h1 (by omega) h3; omega
theorem PB_one {W : Int → Prop} {v : Int → Int} {x b b' : Int} (h : PB W v x b) (h' : PB W v x b') : b = b' := by
  rcases h with ⟨a, c⟩ | ⟨a, c, d, e, g⟩ <;> rcases h' with ⟨a', c'⟩ | ⟨a', c', d', e', g'⟩
  · omega
  · exact absurd d' (c b' a' c')
  · exact absurd d (c' b a c)
  · rcases Int.lt_trichotomy b b' with q | q | q
    · have := g' b a q d; have := e b' a' c' d'; omega
    · exact q
    · have := g b' a' q d'; have := e' b a c d; omega
/-! the riders -/
abbrev Wt (A : Int → Int) : Int → Prop := fun j => A j = -1
def cA (s : Int → Int) (A : Int → Int) (d : Int) : Int := cb (fun j => decide (A j = d)) (s 9).toNat
def PI (s : Int → Int) (A : Int → Int) (L c μ : Int) (n : Nat) : Prop :=
  cb (fun j => decide (¬ A j = -1)) (s 9).toNat = (n : Int) ∧ (∀ j, 0 ≤ j → j < s 9 → A j = -1 → μ ≤ s (288 + j)) ∧ 0 ≤ μ ∧
  ((L = -1 ∧ c = 0) ∨ (0 ≤ L ∧ (∃ q, L = q * s 6) ∧ 1 ≤ c ∧ c ≤ s 5 ∧ cA s A L = c)) ∧ (∀ j, 0 ≤ j → j < s 9 → -1 ≤ A j ∧ A j ≤ L) ∧
  (∀ q, hoM s μ ≤ q * s 6 → q * s 6 < L → cA s A (q * s 6) = s 5) ∧ L ≤ 1558 + 120 * (n : Int)
/-- when the next one rides -/
def mR (s : Int → Int) (L c k : Int) : Int := if hoM s (s (288 + k)) ≤ L then (if c < s 5 then L else L + s 6) else hoM s (s (288 + k))
def setA (A : Int → Int) (k m : Int) : Int → Int := fun j => if j = k then m else A j
def cR (L c m : Int) : Int := if m = L then c + 1 else 1
theorem mR_ge {L c k : Int} (h6 : 0 ≤ s 6) : L ≤ mR s L c k := by
  unfold mR; split
  · split <;> omega
  · omega
theorem PI_0 (L : LOK s) (h6 : 1 ≤ s 6) : PI s (fun _ => -1) (-1) 0 0 0 := by
  refine ⟨cb_zero _ (fun i _ _ => rfl), fun j h1 h2 h3 => (L.rid h1 h2).1, Int.le_refl _, Or.inl ⟨rfl, rfl⟩, fun j _ _ => ⟨Int.le_refl _, Int.le_refl _⟩, fun q h1 h2 => ?_, by decide⟩
  have := (hoM_le (s := s) (m := 0) (Int.le_refl _) h6).1
  omega
theorem cA_set {A : Int → Int} {k m d : Int} (h0 : 0 ≤ k) (hk : k < s 9) (hA : A k = -1) (hd : 0 ≤ d) : cA s (setA A k m) d = cA s A d + (if m = d then 1 else 0) := by
  unfold cA
  by_cases e : m = d
  · rw [if_pos e]
    refine cb_set (j := k) ?_ ?_ (fun i hi => ?_) h0 _ (by omega)
    · rw [hA]; exact decide_eq_false (by omega)
    · unfold setA; rw [if_pos rfl]; exact decide_eq_true e
    · unfold setA; rw [if_neg hi]
  · rw [if_neg e, Int.add_zero]
    refine cb_same _ (fun i _ _ => ?_)
    unfold setA
    by_cases q : i = k
    · rw [if_pos q, q, hA, decide_eq_false e]; exact (decide_eq_false (by omega)).symm
    · rw [if_neg q]
theorem PI_step {A : Int → Int} {L c μ k : Int} {n : Nat} (LO : LOK s) (h6 : 1 ≤ s 6) (h6' : s 6 ≤ 120) (h5 : 1 ≤ s 5) (hP : PI s A L c μ n) (hk : PB (Wt A) (fun j => s (288 + j)) (s 9) k) (hk0 : ¬ k = -1) : PI s (setA A k (mR s L c k)) (mR s L c k) (cR L c (mR s L c k)) (s (288 + k)) (n + 1) := by
  obtain ⟨p1, p2, p3, p4, p5, p6, p7⟩ := hP
  rcases hk with ⟨a, -⟩ | ⟨b1, b2, b3, b4, b5⟩
  · exact absurd a hk0
  have hmn := LO.rid b1 b2
  have hg := hoM_le (s := s) hmn.1 h6
  have hmono := hoM_mono (s := s) (p2 k b1 b2 b3) p3 h6
  have hmge := mR_ge (s := s) (L := L) (c := c) (k := k) (by omega)
  have hm0 : 0 ≤ mR s L c k := by
    unfold mR
    split
    · split <;> omega
    · omega
  have hq : ∃ q, mR s L c k = q * s 6 := by
    unfold mR
    split
    · rcases p4 with ⟨z, -⟩ | ⟨-, ⟨q, hq⟩, -⟩
      · omega
      · split
        · exact ⟨q, hq⟩
        · exact ⟨q + 1, by rw [Int.add_mul, Int.one_mul]; omega⟩
    · exact hoM_q
  have hc0 : ∀ d, L < d → cA s A d = 0 := fun d hd => cb_zero _ (fun i i1 i2 => decide_eq_false (by have := p5 i i1 (by omega); omega))
  refine ⟨?_, fun j j1 j2 j3 => ?_, hmn.1, Or.inr ⟨hm0, hq, ?_⟩, fun j j1 j2 => ?_, fun q q1 q2 => ?_, ?_⟩
  · rw [cb_set (f := fun j => decide (¬ A j = -1)) (j := k) (decide_eq_false (fun z => z b3)) (by unfold setA; rw [if_pos rfl]; exact decide_eq_true (by omega)) (fun i hi => by unfold setA; rw [if_neg hi]) b1 _ (by omega), p1]
    omega
  · unfold setA at j3
    by_cases e : j = k
    · rw [if_pos e] at j3; omega
    · rw [if_neg e] at j3; exact b4 j j1 j2 j3
  · rw [cA_set b1 b2 b3 hm0, if_pos rfl]
    unfold cR
    by_cases e : mR s L c k = L
    · rw [if_pos e, e]
      rcases p4 with ⟨z, -⟩ | ⟨z1, z2, z3, z4, z5⟩
      · omega
      · rw [z5]
        refine ⟨by omega, ?_, rfl⟩
        unfold mR at e
        by_cases w : hoM s (s (288 + k)) ≤ L
        · rw [if_pos w] at e
          by_cases w2 : c < s 5
          · omega
          · rw [if_neg w2] at e; omega
        · rw [if_neg w] at e; omega
    · rw [if_neg e, hc0 _ (by omega)]
      exact ⟨Int.le_refl _, h5, rfl⟩
  · unfold setA
    by_cases e : j = k
    · rw [if_pos e]; omega
    · rw [if_neg e]; have := p5 j j1 j2; omega
  · have hqe : 0 ≤ q * s 6 := by omega
    rw [cA_set b1 b2 b3 hqe, if_neg (by omega), Int.add_zero]
    unfold mR at q2
    by_cases w : hoM s (s (288 + k)) ≤ L
    · rw [if_pos w] at q2
      by_cases w2 : c < s 5
      · rw [if_pos w2] at q2
        exact p6 q (by omega) q2
      · rw [if_neg w2] at q2
        rcases p4 with ⟨z, -⟩ | ⟨z1, ⟨p, z2⟩, z3, z4, z5⟩
        · omega
        · by_cases w3 : q * s 6 < L
          · exact p6 q (by omega) w3
          · have : q * s 6 = L := by
              rcases Int.lt_trichotomy (q * s 6) L with y | y | y
              · omega
              · exact y
              · rw [z2] at y
                have := mul_gap h6 y
                omega
            rw [this, z5]; omega
    · rw [if_neg w] at q2; omega
  · unfold mR
    split
    · split <;> omega
    · omega
/-- what the class keeps of a ride -/
def cvt (x : Int) : Int := if x ≤ 1439 then x else -2
theorem cvt_w {x : Int} : cvt x = -1 ↔ x = -1 := by unfold cvt; split <;> omega
def Frz (s : Int → Int) (lv st μ : Int) : Prop := -1 ≤ lv ∧ lv ≤ 1439 ∧ 0 ≤ st ∧ st ≤ 20 ∧ (1439 < hoM s (if μ < lv then lv else μ) ∨ (hoM s (if μ < lv then lv else μ) = lv ∧ s 5 ≤ st ∧ 1439 < hoM s (lv + 1)))
def CI (s : Int → Int) (lv st L c μ : Int) : Prop := (L ≤ 1439 ∧ lv = L ∧ st = c) ∨ (1439 < L ∧ Frz s lv st μ)
theorem lm {a b : Int} : (if a < b then b else a) = a ∨ (if a < b then b else a) = b := by split <;> simp
/-- what the hoist says of the next one, if the last ride is today -/
theorem ho_live {A : Int → Int} {L c μ k : Int} {n : Nat} (LO : LOK s) (h6 : 1 ≤ s 6) (hP : PI s A L c μ n) (h1 : 0 ≤ k) (h2 : k < s 9) : hoM s (if s (288 + k) < L then L else s (288 + k)) = (if hoM s (s (288 + k)) ≤ L then L else hoM s (s (288 + k))) := by
  obtain ⟨p1, p2, p3, p4, p5, p6, p7⟩ := hP
  have hmn := LO.rid h1 h2
  have hg := hoM_le (s := s) hmn.1 h6
  by_cases w : hoM s (s (288 + k)) ≤ L
  · rw [if_pos w]
    rcases p4 with ⟨z, -⟩ | ⟨z1, ⟨p, z2⟩, -⟩
    · omega
    · by_cases y : s (288 + k) < L
      · rw [if_pos y, z2]; exact hoM_self (by omega) h6
      · rw [if_neg y]; omega
  · rw [if_neg w]
    by_cases y : s (288 + k) < L
    · rcases p4 with ⟨z, -⟩ | ⟨z1, ⟨p, z2⟩, -⟩
      · omega
      · have := hoM_least (s := s) (q := p) hmn.1 h6 (by omega)
        omega
    · rw [if_neg y]
theorem ho_frz {lv st μ m : Int} (h6 : 1 ≤ s 6) (h0 : 0 ≤ μ) (hm : μ ≤ m) (h : Frz s lv st μ) : Frz s lv st m := by
  obtain ⟨a, b, c, d, e⟩ := h
  refine ⟨a, b, c, d, ?_⟩
  have hle : (if μ < lv then lv else μ) ≤ (if m < lv then lv else m) := by split <;> split <;> omega
  have h0' : 0 ≤ (if μ < lv then lv else μ) := by split <;> omega
  have hmono := hoM_mono (s := s) hle h0' h6
  rcases e with e | ⟨e1, e2, e3⟩
  · exact Or.inl (by omega)
  · by_cases g : 1439 < hoM s (if m < lv then lv else m)
    · exact Or.inl g
    · refine Or.inr ⟨?_, e2, e3⟩
      obtain ⟨p, hp⟩ := hoM_q (s := s) (x := if m < lv then lv else m)
      by_cases w : lv < hoM s (if m < lv then lv else m)
      · have hl0 : 0 ≤ lv := by rw [← e1]; have := (hoM_le (s := s) h0' h6).1; omega
        have := hoM_least (s := s) (x := lv + 1) (q := p) (by omega) h6 (by omega)
        omega
      · omega
/-- the most that one waits -/
def isMx (s : Int → Int) (A : Int → Int) (v : Int) (N : Int) : Prop := (∀ j, 0 ≤ j → j < N → ¬ A j = -1 → A j ≤ 1439 → A j - s (288 + j) ≤ v) ∧ -2 ≤ v ∧ (v = -2 ∨ ∃ j, 0 ≤ j ∧ j < N ∧ ¬ A j = -1 ∧ A j ≤ 1439 ∧ v = A j - s (288 + j))
theorem isMx_one {A : Int → Int} {v v' N : Int} (h : isMx s A v N) (h' : isMx s A v' N) : v = v' := by
  have key : ∀ a b : Int, isMx s A a N → isMx s A b N → a ≤ b := by
    intro a b ha hb
    rcases ha.2.2 with z | ⟨j, j1, j2, j3, j4, j5⟩
    · have := hb.2.1; omega
    · have := hb.1 j j1 j2 j3 j4; omega
  have := key v v' h h'
  have := key v' v h' h
  omega
end RDP
