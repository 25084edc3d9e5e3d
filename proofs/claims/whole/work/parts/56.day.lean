/-! ===== the day: the mathematics of one who sets off ===== -/
section DYP
variable {s : Int → Int}
def us (s : Int → Int) (k v : Int) : Int → Int := fun i => if i = k then v else s i
theorem us_at {k v : Int} : us s k v k = v := if_pos rfl
theorem us_ne {k v i : Int} (h : i ≠ k) : us s k v i = s i := if_neg h
theorem sd_us {M : Mem} {k v : Int} (hk : 0 < k) : sd (mset M 0 26 k.toNat v) = us (sd M) k v := by
  funext i
  rw [sd_set]
  unfold us
  by_cases e : i = k
  · rw [if_pos (by omega), if_pos e]
  · rw [if_neg (by omega), if_neg e]
def sOff (s : Int → Int) (p to_ mn : Int) : Int → Int := us (us (us s (172 + 5 * p + 0) (-1)) (172 + 5 * p + 3) to_) (172 + 5 * p + 4) (s 3 + mn)
theorem sOff_i {p to_ mn i : Int} (h0 : i ≠ 172 + 5 * p + 0) (h3 : i ≠ 172 + 5 * p + 3) (h4 : i ≠ 172 + 5 * p + 4) : sOff s p to_ mn i = s i := by
  unfold sOff; rw [us_ne h4, us_ne h3, us_ne h0]
theorem sOff_0 {p to_ mn : Int} : sOff s p to_ mn (172 + 5 * p + 0) = -1 := by
  unfold sOff; rw [us_ne (by omega), us_ne (by omega), us_at]
theorem sOff_3 {p to_ mn : Int} : sOff s p to_ mn (172 + 5 * p + 3) = to_ := by
  unfold sOff; rw [us_ne (by omega), us_at]
theorem sOff_4 {p to_ mn : Int} : sOff s p to_ mn (172 + 5 * p + 4) = s 3 + mn := by
  unfold sOff; rw [us_at]
/-- nothing of the house or of the lists changes -/
def DX (s s' : Int → Int) : Prop := ∀ i, 0 ≤ i → i ≠ 3 → ¬ (172 ≤ i ∧ i < 212 ∧ (i - 172) % 5 ≠ 1) → s' i = s i
theorem DX.rf : DX s s := fun _ _ _ _ => rfl
theorem DX.trans {s1 s2 : Int → Int} (h : DX s s1) (h' : DX s1 s2) : DX s s2 := fun i a b c => (h' i a b c).trans (h i a b c)
theorem DX.he {s' : Int → Int} (h : DX s s') : HE s s' := ⟨h 0 (by decide) (by decide) (by decide), h 1 (by decide) (by decide) (by decide), h 2 (by decide) (by decide) (by decide), h 4 (by decide) (by decide) (by decide), h 5 (by decide) (by decide) (by decide), h 6 (by decide) (by decide) (by decide), fun i a b => h i (by omega) (by omega) (by omega), fun p a b => h _ (by omega) (by omega) (by omega)⟩
theorem DX.le {s' : Int → Int} (h : DX s s') : LiE s s' := ⟨h 7 (by decide) (by decide) (by decide), h 8 (by decide) (by decide) (by decide), h 9 (by decide) (by decide) (by decide), h 10 (by decide) (by decide) (by decide), h 11 (by decide) (by decide) (by decide), fun i a b => h i (by omega) (by omega) (by omega)⟩
theorem DX_us {k v : Int} (h : k = 3 ∨ (172 ≤ k ∧ k < 212 ∧ (k - 172) % 5 ≠ 1)) : DX s (us s k v) := fun i a b c => us_ne (by omega)
theorem sOff_DX {p to_ mn : Int} (h0 : 0 ≤ p) (h1 : p < 8) : DX s (sOff s p to_ mn) := by
  intro i a b c
  exact sOff_i (by omega) (by omega) (by omega)
def canT (s : Int → Int) (p w : Int) : Prop := (0 ≤ w ∧ w < s 1) ∧ 0 ≤ endW s w (s (172 + 5 * p + 0)) ∧ (s (28 + 6 * w + 4) < 0 ∨ (s (28 + 6 * w + 4) ≤ s 3 ∧ s 3 ≤ s (28 + 6 * w + 5)))
def canR (s : Int → Int) (p : Int) : Prop := s 4 ≠ 0 ∧ Int.tmod (s 3) (s 6) = 0 ∧ ¬ 0 < s (172 + 5 * p + 2) ∧ ridS s (s 2).toNat ≠ s 5
noncomputable def topF (s : Int → Int) : Int := @Classical.epsilon Int ⟨0⟩ (fun t => isTop s t)
theorem topF_is {t : Int} (h : isTop s t) : topF s = t := isTop_one (@Classical.epsilon_spec Int (fun t => isTop s t) ⟨t, h⟩) h
def tkS (s : Int → Int) (p w : Int) : Int → Int := sOff s p (endW s w (s (172 + 5 * p + 0))) (s (28 + 6 * w + 2))
noncomputable def rdS (s : Int → Int) (p : Int) : Int → Int := us (sOff s p (topF s) (s 4)) (172 + 5 * p + 2) (s 3 + 1)
/-- no more ride in a minute than have seats -/
def DOK2 (s : Int → Int) : Prop := DOK s ∧ ridS s (s 2).toNat ≤ s 5
theorem ridS_cg {s' : Int → Int} (h3 : s' 3 = s 3) : ∀ k : Nat, (∀ j : Nat, j < k → s' (172 + 5 * (j : Int) + 2) = s (172 + 5 * (j : Int) + 2)) → ridS s' k = ridS s k
  | 0, _ => rfl
  | k + 1, h => by
    unfold ridS
    rw [ridS_cg h3 k (fun j hj => h j (by omega)), h k (by omega), h3]
theorem ridS_set {s' : Int → Int} (h3 : s' 3 = s 3) {p : Nat} (hp : s' (172 + 5 * (p : Int) + 2) = s 3 + 1) (hp0 : s (172 + 5 * (p : Int) + 2) ≠ s 3 + 1) : ∀ k : Nat, p < k → (∀ j : Nat, j < k → j ≠ p → s' (172 + 5 * (j : Int) + 2) = s (172 + 5 * (j : Int) + 2)) → ridS s' k = ridS s k + 1
  | 0, h, _ => by omega
  | k + 1, h, hj => by
    unfold ridS
    by_cases e : p = k
    · subst e
      rw [ridS_cg h3 p (fun j hj' => hj j (by omega) (by omega)), hp, h3, if_pos rfl, if_neg hp0]
      omega
    · rw [ridS_set h3 hp hp0 k (by omega) (fun j a b => hj j (by omega) b), hj k (by omega) (by omega), h3]
      omega
theorem ridS_nn : ∀ k : Nat, 0 ≤ ridS s k ∧ ridS s k ≤ (k : Int)
  | 0 => ⟨Int.le_refl _, Int.le_refl _⟩
  | k + 1 => by
    have := ridS_nn k
    unfold ridS
    split <;> omega
theorem sOff_DOK (K : HOK s) (D : DOK s) (h14 : s 3 ≤ 1439) {p to_ mn : Int} (h0 : 0 ≤ p) (h1 : p < s 2) (ht : 0 ≤ to_ ∧ to_ < s 0) (hm : 0 ≤ mn ∧ mn ≤ 60) : DOK (sOff s p to_ mn) := by
  have k8 := K.2.2.2.2.2.1
  obtain ⟨d1, d2, d3⟩ := D
  have e3 : sOff s p to_ mn 3 = s 3 := sOff_i (by omega) (by omega) (by omega)
  have e0 : sOff s p to_ mn 0 = s 0 := sOff_i (by omega) (by omega) (by omega)
  have e2 : sOff s p to_ mn 2 = s 2 := sOff_i (by omega) (by omega) (by omega)
  unfold DOK
  rw [e3, e0, e2]
  refine ⟨d1, d2, fun q q0 q1 => ?_⟩
  have q2 : sOff s p to_ mn (172 + 5 * q + 2) = s (172 + 5 * q + 2) := sOff_i (by omega) (by omega) (by omega)
  have hq := d3 q q0 q1
  rw [q2]
  by_cases e : q = p
  · subst e
    rw [sOff_0, sOff_3, sOff_4]
    refine ⟨by omega, by omega, hq.2.2.1, hq.2.2.2.1, fun _ => ⟨ht, by omega, by omega⟩⟩
  · rw [sOff_i (i := 172 + 5 * q + 0) (by omega) (by omega) (by omega), sOff_i (i := 172 + 5 * q + 3) (by omega) (by omega) (by omega), sOff_i (i := 172 + 5 * q + 4) (by omega) (by omega) (by omega)]
    exact hq
theorem tkS_ok (K : HOK s) (D : DOK2 s) (h14 : s 3 ≤ 1439) {p w : Int} (h0 : 0 ≤ p) (h1 : p < s 2) (hc : canT s p w) : DOK2 (tkS s p w) := by
  obtain ⟨⟨w1, w2⟩, c2, c3⟩ := hc
  have hmn := (K.way w1 w2).2.2.1
  have he : 0 ≤ endW s w (s (172 + 5 * p + 0)) ∧ endW s w (s (172 + 5 * p + 0)) < s 0 := by
    rcases endW_in K (r := s (172 + 5 * p + 0)) w1 w2 with q | q
    · omega
    · exact q
  refine ⟨sOff_DOK K D.1 h14 h0 h1 he ⟨by omega, by omega⟩, ?_⟩
  have e2 : tkS s p w 2 = s 2 := sOff_i (by omega) (by omega) (by omega)
  have e5 : tkS s p w 5 = s 5 := sOff_i (by omega) (by omega) (by omega)
  rw [e2, e5, ridS_cg (s := s) (s' := tkS s p w) (sOff_i (by omega) (by omega) (by omega)) _ (fun j hj => sOff_i (by omega) (by omega) (by omega))]
  exact D.2
theorem rdS_ok (K : HOK s) (D : DOK2 s) (h14 : s 3 ≤ 1439) {p t : Int} (ht : isTop s t) (h0 : 0 ≤ p) (h1 : p < s 2) (hc : canR s p) : DOK2 (rdS s p) ∧ ridS (rdS s p) (s 2).toNat = ridS s (s 2).toNat + 1 := by
  have k8 := K.2.2.2.2.2.1
  have hh := K.hoist
  obtain ⟨c1, c2, c3, c4⟩ := hc
  have eT := topF_is ht
  have hso := sOff_DOK K D.1 h14 (p := p) (to_ := topF s) (mn := s 4) h0 h1 (by rw [eT]; exact ⟨ht.1, ht.2.1⟩) ⟨by omega, by omega⟩
  have hd := D.1.2.2 p h0 h1
  have er : ∀ i, i ≠ 172 + 5 * p + 2 → rdS s p i = sOff s p (topF s) (s 4) i := fun i hi => us_ne hi
  have e2 : rdS s p 2 = s 2 := by rw [er 2 (by omega)]; exact sOff_i (by omega) (by omega) (by omega)
  have e3 : rdS s p 3 = s 3 := by rw [er 3 (by omega)]; exact sOff_i (by omega) (by omega) (by omega)
  have e5 : rdS s p 5 = s 5 := by rw [er 5 (by omega)]; exact sOff_i (by omega) (by omega) (by omega)
  have e0 : rdS s p 0 = s 0 := by rw [er 0 (by omega)]; exact sOff_i (by omega) (by omega) (by omega)
  have hr : ridS (rdS s p) (s 2).toNat = ridS s (s 2).toNat + 1 := by
    refine ridS_set (p := p.toNat) e3 ?_ ?_ _ (by omega) (fun j hj hne => ?_)
    · rw [Int.toNat_of_nonneg h0]; exact us_at
    · rw [Int.toNat_of_nonneg h0]; have := D.1.1; omega
    · rw [er _ (by omega)]; exact sOff_i (by omega) (by omega) (by omega)
  refine ⟨⟨?_, by rw [e2, e5, hr]; have := D.2; omega⟩, hr⟩
  obtain ⟨d1, d2, d3⟩ := hso
  have f3 : sOff s p (topF s) (s 4) 3 = s 3 := sOff_i (by omega) (by omega) (by omega)
  have f2 : sOff s p (topF s) (s 4) 2 = s 2 := sOff_i (by omega) (by omega) (by omega)
  have f0 : sOff s p (topF s) (s 4) 0 = s 0 := sOff_i (by omega) (by omega) (by omega)
  rw [f3] at d1 d2
  unfold DOK
  rw [e3, e0, e2]
  refine ⟨d1, d2, fun q q0 q1 => ?_⟩
  have hq := d3 q q0 (by rw [f2]; exact q1)
  rw [f3, f0] at hq
  rw [er (172 + 5 * q + 0) (by omega), er (172 + 5 * q + 3) (by omega), er (172 + 5 * q + 4) (by omega)]
  by_cases e : q = p
  · subst e
    have : rdS s q (172 + 5 * q + 2) = s 3 + 1 := us_at
    rw [this]
    exact ⟨hq.1, hq.2.1, by omega, Int.le_refl _, hq.2.2.2.2⟩
  · rw [er (172 + 5 * q + 2) (by omega)]; exact hq
theorem rdS_DX {p : Int} (h0 : 0 ≤ p) (h1 : p < 8) : DX s (rdS s p) := (sOff_DX h0 h1).trans (DX_us (by omega))
/-! the class's words for the same -/
theorem opC_now (K : HOK s) {w m : Int} (w1 : 0 ≤ w) (w2 : w < s 1) (h0 : 0 ≤ m) : opC s w m = m ↔ (s (28 + 6 * w + 4) < 0 ∨ (s (28 + 6 * w + 4) ≤ m ∧ m ≤ s (28 + 6 * w + 5))) := by
  obtain ⟨-, -, -, -, d⟩ := K.way w1 w2
  unfold opC
  rcases d with d | d
  · rw [if_pos d.1]; exact ⟨fun _ => Or.inl (by omega), fun _ => rfl⟩
  · rw [if_neg (by omega)]
    by_cases a : m < s (28 + 6 * w + 4)
    · rw [if_pos a]
      constructor
      · intro z; split at z <;> omega
      · intro z; omega
    · rw [if_neg a]
      by_cases b : m ≤ s (28 + 6 * w + 5)
      · rw [if_pos b]; exact ⟨fun _ => Or.inr ⟨by omega, b⟩, fun _ => rfl⟩
      · rw [if_neg b]; exact ⟨fun z => by omega, fun z => by omega⟩
theorem hoM_now {m : Int} (h6 : 1 ≤ s 6) (h0 : 0 ≤ m) : hoM s m = m ↔ Int.tmod m (s 6) = 0 := by
  rw [Int.tmod_eq_emod_of_nonneg h0]
  constructor
  · intro z
    obtain ⟨q, hq⟩ := hoM_q (s := s) (x := m)
    rw [z] at hq
    rw [hq]; exact Int.mul_emod_left q (s 6)
  · intro z
    have : m = (m / s 6) * s 6 := by
      have := Int.emod_add_mul_ediv m (s 6)
      rw [z, Int.zero_add, Int.mul_comm] at this
      exact this.symm
    rw [this]
    exact hoM_self (by rw [← this]; exact h0) h6
end DYP
