/-! ===== a house moved into ===== -/
section HMV
variable {hh s s' : Int → Int}
def hsA (hh s : Int → Int) (i : Int) : Int := if i = 3 then 0 else if i = 2 then hh 2 else if i = 1 then hh 1 else if i = 0 then hh 0 else s i
def hsB (hh s : Int → Int) (k : Nat) (i : Int) : Int := if 4 ≤ i ∧ i < 4 + (k : Int) then hh i else hsA hh s i
def hsC (hh s : Int → Int) (i : Int) : Int := if i = 8 then 0 else if i = 7 then 0 else hsB hh s 3 i
def hsD (hh s : Int → Int) (k : Nat) (i : Int) : Int := if 12 ≤ i ∧ i < 12 + (k : Int) then hh i else hsC hh s i
def hsE (hh s : Int → Int) (k : Nat) (i : Int) : Int := if 28 ≤ i ∧ i < 28 + (k : Int) then hh i else hsD hh s (hh 0).toNat i
def hsP (hh : Int → Int) (i : Int) : Int := if (i - 172) % 5 = 0 then hh (i + 1) else if (i - 172) % 5 = 1 then hh i else if (i - 172) % 5 = 2 then 0 else -1
def hsF (hh s : Int → Int) (k : Nat) (i : Int) : Int := if 172 ≤ i ∧ i < 172 + 5 * (k : Int) then hsP hh i else hsE hh s (6 * hh 1).toNat i
def hsS (hh s : Int → Int) (i : Int) : Int := hsF hh s (hh 2).toNat i
theorem hsS_lo (K : HOK hh) : hsS hh s 0 = hh 0 ∧ hsS hh s 1 = hh 1 ∧ hsS hh s 2 = hh 2 ∧ hsS hh s 3 = 0 ∧ hsS hh s 4 = hh 4 ∧ hsS hh s 5 = hh 5 ∧ hsS hh s 6 = hh 6 ∧ hsS hh s 7 = 0 ∧ hsS hh s 8 = 0 ∧ hsS hh s 9 = s 9 ∧ hsS hh s 10 = s 10 ∧ hsS hh s 11 = s 11 := by
  have e : ∀ i, 0 ≤ i → i < 12 → hsS hh s i = hsC hh s i := fun i a c => by
    unfold hsS hsF; rw [if_neg (by omega)]
    unfold hsE; rw [if_neg (by omega)]
    unfold hsD; rw [if_neg (by omega)]
  rw [e 0 (by decide) (by decide), e 1 (by decide) (by decide), e 2 (by decide) (by decide), e 3 (by decide) (by decide), e 4 (by decide) (by decide), e 5 (by decide) (by decide), e 6 (by decide) (by decide), e 7 (by decide) (by decide), e 8 (by decide) (by decide), e 9 (by decide) (by decide), e 10 (by decide) (by decide), e 11 (by decide) (by decide)]
  exact ⟨rfl, rfl, rfl, rfl, rfl, rfl, rfl, rfl, rfl, rfl, rfl, rfl⟩
theorem hsS_room (K : HOK hh) {r : Int} (r0 : 0 ≤ r) (r1 : r < hh 0) : hsS hh s (12 + r) = hh (12 + r) := by
  have k16 := K.2.1
  unfold hsS hsF; rw [if_neg (by omega)]
  unfold hsE; rw [if_neg (by omega)]
  unfold hsD; rw [if_pos (by omega)]
theorem hsS_way (K : HOK hh) {x : Int} (r0 : 0 ≤ x) (r1 : x < 6 * hh 1) : hsS hh s (28 + x) = hh (28 + x) := by
  have k16 := K.2.2.2.1
  unfold hsS hsF; rw [if_neg (by omega)]
  unfold hsE; rw [if_pos (by omega)]
theorem hsS_per (K : HOK hh) {p : Int} (p0 : 0 ≤ p) (p1 : p < hh 2) : hsS hh s (172 + 5 * p + 0) = hh (172 + 5 * p + 1) ∧ hsS hh s (172 + 5 * p + 1) = hh (172 + 5 * p + 1) ∧ hsS hh s (172 + 5 * p + 2) = 0 ∧ hsS hh s (172 + 5 * p + 3) = -1 ∧ hsS hh s (172 + 5 * p + 4) = -1 := by
  refine ⟨?_, ?_, ?_, ?_, ?_⟩ <;> unfold hsS hsF <;> rw [if_pos (by omega)] <;> unfold hsP
  · rw [if_pos (by omega)]; congr 1; omega
  · rw [if_neg (by omega), if_pos (by omega)]
  · rw [if_neg (by omega), if_neg (by omega), if_pos (by omega)]
  · rw [if_neg (by omega), if_neg (by omega), if_neg (by omega)]
  · rw [if_neg (by omega), if_neg (by omega), if_neg (by omega)]
theorem hsS_hi (K : HOK hh) {i : Int} (h : 212 ≤ i) : hsS hh s i = s i := by
  have k8 := K.2.2.2.2.2.1
  have k24 := K.2.2.2.1
  have k16 := K.2.1
  unfold hsS hsF; rw [if_neg (by omega)]
  unfold hsE; rw [if_neg (by omega)]
  unfold hsD; rw [if_neg (by omega)]
  unfold hsC; rw [if_neg (by omega), if_neg (by omega)]
  unfold hsB; rw [if_neg (by omega)]
  unfold hsA; rw [if_neg (by omega), if_neg (by omega), if_neg (by omega), if_neg (by omega)]
/-- what is told of a house alone -/
theorem HRO_cg {f : Nat → Nat → Int} (H : HR f hh) (K : HOK hh) (e0 : s' 0 = hh 0) (e1 : s' 1 = hh 1) (e2 : s' 2 = hh 2) (e4 : s' 4 = hh 4) (e5 : s' 5 = hh 5) (e6 : s' 6 = hh 6) (er : ∀ r : Int, 0 ≤ r → r < hh 0 → s' (12 + r) = hh (12 + r)) (ew : ∀ x : Int, 0 ≤ x → x < 6 * hh 1 → s' (28 + x) = hh (28 + x)) (ep : ∀ p : Int, 0 ≤ p → p < hh 2 → s' (172 + 5 * p + 1) = hh (172 + 5 * p + 1)) : HR f s' ∧ HOK s' := by
  obtain ⟨a0, a1, a2, a4, a5, a6, b1, b2, b3, b4⟩ := H
  obtain ⟨k1, k2, k3, k4, k5, k6, k7, k8, k9, k10, k11⟩ := K
  have ew' : ∀ w : Int, 0 ≤ w → w < hh 1 → s' (28 + 6 * w + 0) = hh (28 + 6 * w + 0) ∧ s' (28 + 6 * w + 1) = hh (28 + 6 * w + 1) ∧ s' (28 + 6 * w + 2) = hh (28 + 6 * w + 2) ∧ s' (28 + 6 * w + 3) = hh (28 + 6 * w + 3) ∧ s' (28 + 6 * w + 4) = hh (28 + 6 * w + 4) ∧ s' (28 + 6 * w + 5) = hh (28 + 6 * w + 5) := by
    intro w x y
    have z : ∀ k : Int, 0 ≤ k → k < 6 → s' (28 + 6 * w + k) = hh (28 + 6 * w + k) := fun k u v => by
      rw [show 28 + 6 * w + k = 28 + (6 * w + k) by omega]; exact ew (6 * w + k) (by omega) (by omega)
    exact ⟨z 0 (by decide) (by decide), z 1 (by decide) (by decide), z 2 (by decide) (by decide), z 3 (by decide) (by decide), z 4 (by decide) (by decide), z 5 (by decide) (by decide)⟩
  constructor
  · unfold HR
    rw [e0, e1, e2, e4, e5, e6]
    refine ⟨a0, a1, a2, a4, a5, a6, fun r r1 r2 => ?_, fun w w1 w2 => ?_, fun p p1 p2 => ?_, fun z => isTop_cg e0 er (b4 z)⟩
    · rw [er r r1 r2]; exact b1 r r1 r2
    · obtain ⟨q0, q1, q2, q3, q4, q5⟩ := ew' w w1 w2
      rw [q0, q1, q2, q3, q4, q5]; exact b2 w w1 w2
    · rw [ep p p1 p2]; exact b3 p p1 p2
  · unfold HOK
    rw [e0, e1, e2, e4, e5, e6]
    refine ⟨k1, k2, k3, k4, k5, k6, k7, k8, fun r r1 r2 => ?_, fun w w1 w2 => ?_, fun p p1 p2 => ?_⟩
    · rw [er r r1 r2]; exact k9 r r1 r2
    · obtain ⟨q0, q1, q2, q3, q4, q5⟩ := ew' w w1 w2
      obtain ⟨x1, x2, x3, x4, x5⟩ := k10 w w1 w2
      rw [q0, q1, q2, q3, q4, q5, er _ x1.1 x1.2, er _ x2.1 x2.2]; exact ⟨x1, x2, x3, x4, x5⟩
    · rw [ep p p1 p2]; exact k11 p p1 p2
theorem house_SAll {f4 f5 f6 f6' : Nat → Nat → Int} (H : HR f4 hh) (K : HOK hh) (L : LR f6 s) (LO : LOK s) (hs : ∀ i, 0 ≤ i → s' i = hsS hh s i)
    (d0 : f5 0 0 = 0) (d1 : f5 1 0 = 0) (d2 : ∀ p : Int, 0 ≤ p → p < hh 2 → f5 2 p.toNat = hh (172 + 5 * p + 1) ∧ f5 3 p.toNat = 0 ∧ f5 4 p.toNat = -1 ∧ f5 5 p.toNat = -1)
    (g1 : f6' 1 0 = 0) (g2 : f6' 2 0 = 0) (go : ∀ k, k ≠ 1 → k ≠ 2 → f6' k = f6 k) : SAll f4 f5 f6' s' := by
  obtain ⟨l0, l1, l2, l3, l4, l5, l6, l7, l8, l9, l10, l11⟩ := hsS_lo (s := s) K
  have k5 := K.2.2.2.2.1
  have k8 := K.2.2.2.2.2.1
  have k0 := K.1
  have z0 := (hs 0 (by decide)).trans l0
  have z1 := (hs 1 (by decide)).trans l1
  have z2 := (hs 2 (by decide)).trans l2
  have z3 := (hs 3 (by decide)).trans l3
  have z4 := (hs 4 (by decide)).trans l4
  have z5 := (hs 5 (by decide)).trans l5
  have z6 := (hs 6 (by decide)).trans l6
  have z7 := (hs 7 (by decide)).trans l7
  have z8 := (hs 8 (by decide)).trans l8
  have z9 := (hs 9 (by decide)).trans l9
  have z10 := (hs 10 (by decide)).trans l10
  have z11 := (hs 11 (by decide)).trans l11
  have zp : ∀ p : Int, 0 ≤ p → p < hh 2 → s' (172 + 5 * p + 0) = hh (172 + 5 * p + 1) ∧ s' (172 + 5 * p + 1) = hh (172 + 5 * p + 1) ∧ s' (172 + 5 * p + 2) = 0 ∧ s' (172 + 5 * p + 3) = -1 ∧ s' (172 + 5 * p + 4) = -1 := fun p a c => by
    obtain ⟨q0, q1, q2, q3, q4⟩ := hsS_per (s := s) K a c
    exact ⟨(hs _ (by omega)).trans q0, (hs _ (by omega)).trans q1, (hs _ (by omega)).trans q2, (hs _ (by omega)).trans q3, (hs _ (by omega)).trans q4⟩
  have zh : ∀ i, 212 ≤ i → s' i = s i := fun i a => (hs i (by omega)).trans (hsS_hi K a)
  obtain ⟨H', K'⟩ := HRO_cg (s' := s') H K z0 z1 z2 z4 z5 z6 (fun r a c => (hs _ (by omega)).trans (hsS_room K a c)) (fun x a c => (hs _ (by omega)).trans (hsS_way K a c)) (fun p a c => (zp p a c).2.1)
  have hrid : ∀ k : Nat, (k : Int) ≤ hh 2 → ridS s' k = 0 := by
    intro k
    induction k with
    | zero => intro _; rfl
    | succ k ih =>
      intro hk
      unfold ridS
      rw [ih (by omega), (zp (k : Int) (by omega) (by omega)).2.2.1, z3]; rfl
  have hr0 : ridS s' (s' 2).toNat = 0 := hrid _ (by rw [z2]; omega)
  have hh5 := K'.hoist
  obtain ⟨sX, sE, sT, sR, sC⟩ := sc_all.mp ⟨L, LO⟩
  have fin : LR f6' s' ∧ LOK s' := by
    refine sc_all.mpr ⟨scX_cg sX (go 0 (by decide) (by decide)) z11, ?_, ?_, scR_cg sR (fun k hk => go k (by omega) (by omega)) z9 (fun i a c => zh i (by omega)), scC_cg sC (fun k hk => go k (by omega) (by omega)) z10 (fun i a c => zh i (by omega))⟩
    · unfold scE; rw [z7]
      exact ⟨⟨g1, fun e a c => by omega⟩, ⟨by omega, by omega⟩, fun e a c => by omega⟩
    · unfold scT; rw [z8]
      exact ⟨⟨g2, fun e a c => by omega⟩, ⟨by omega, by omega⟩, fun e a c => by omega⟩
  refine ⟨H', K', ⟨by rw [z3]; exact d0, by rw [hr0]; exact d1, fun p a c => ?_⟩, ⟨⟨?_, ?_, fun p a c => ?_⟩, ?_⟩, fin.1, fin.2⟩
  · rw [z2] at c
    obtain ⟨q0, q1, q2, q3, q4⟩ := zp p a c
    obtain ⟨x2, x3, x4, x5⟩ := d2 p a c
    rw [q0, q2, q3, q4]
    exact ⟨x2, x3, x4, x5⟩
  · rw [z3]; omega
  · rw [z3]; omega
  · rw [z2] at c
    obtain ⟨q0, q1, q2, q3, q4⟩ := zp p a c
    have := K.2.2.2.2.2.2.2.2.2.2 p a c
    rw [q0, q2, z3, z0]
    exact ⟨by omega, by omega, by omega, by omega, fun z => by omega⟩
  · rw [hr0]; omega
end HMV
section HMC
variable {G : Gx} {n : Nat} {M : Mem} {b : Nat → Int} {L : Nat} {hh : Int → Int}
theorem c8_moveInto {Q : Mem → Prop} (H : HR (M 7) hh) (K : HOK hh) (h : ∀ M', (∀ o, o ≠ 4 → o ≠ 5 → o ≠ 6 → M' o = M o) → HR (M' 4) hh → M' 5 0 0 = 0 → M' 5 1 0 = 0 → (∀ p : Int, 0 ≤ p → p < hh 2 → M' 5 2 p.toNat = hh (172 + 5 * p + 1) ∧ M' 5 3 p.toNat = 0 ∧ M' 5 4 p.toNat = -1 ∧ M' 5 5 p.toNat = -1) → M' 6 1 0 = 0 → M' 6 2 0 = 0 → (∀ k, k ≠ 1 → k ≠ 2 → M' 6 k = M 6 k) → Q M') : OkV G (n + 3) mX8_moveInto [vO 3, vO 7] M Q := by
  have k8 := K.2.2.2.2.2.1
  refine eX8_moveInto (fun Kx => bX8_moveInto_0 rfl rfl rfl rfl (c1_copyFrom rfl rfl (by decide) (fun M1 m1 => ?_)))
  have H1 : HR (M1 4) hh := HR_cp m1 K H
  refine c0_begin rfl rfl (fun M2 e2 g0 g1 g2 M3 m3 M4 m4 => ?_)
  have o6 : ∀ o, o ≠ 6 → M4 o = M2 o := fun o ho => by rw [m4, m3]; exact (EqO.mset.trans EqO.mset) o ho
  refine h M4 (fun o a c d => ?_) ?_ ?_ ?_ (fun p p0 p1 => ?_) ?_ ?_ (fun k a c => ?_)
  · rw [o6 o d, e2 o c, m1.1 o a]
  · rw [o6 4 (by decide), e2 4 (by decide)]; exact H1
  · rw [o6 5 (by decide)]; exact g0
  · rw [o6 5 (by decide)]; exact g1
  · obtain ⟨x2, x3, x4, x5⟩ := g2 p.toNat (by omega)
    rw [o6 5 (by decide), x2, x3, x4, x5]
    exact ⟨H1.2.2.2.2.2.2.2.2.1 p p0 p1, rfl, rfl, rfl⟩
  · rw [m4, mset_ne (by simp), m3, mset_self]
  · rw [m4, mset_self]
  · funext i
    rw [m4, mset_ne (fun z => c z.2.1), m3, mset_ne (fun z => a z.2.1), e2 6 (by decide), m1.1 6 (by decide)]
theorem sd_set0 {M : Mem} {j : Nat} {v : Int} {i : Int} (h : 0 ≤ i) : sd (mset M 0 26 j v) i = if i = (j : Int) then v else sd M i := by
  rw [sd_set]
  by_cases e : i = (j : Int)
  · rw [if_pos (by omega), if_pos e]
  · rw [if_neg (by omega), if_neg e]
theorem c12_house {Q : Int → Mem → Prop} (T : Tq b L M) (ht : (hAll b L).1 = 0 → ∀ M', EqX ((0, 17) :: (0, 26) :: rsF) M M' → M' 0 1 0 = 0 → (∀ i, 0 ≤ i → sd M' i = hsS (hAll b L).2 (sd M) i) → Q ((hAll b L).2 0) M') (hf : (hAll b L).1 ≠ 0 → ∀ M', EqX ((0, 17) :: rsF) M M' → M' 0 1 0 = 0 → Q (wr ((-2) - (hAll b L).1)) M') : OkI G (n + 6) mX12_house [vO 0] M Q := by
  refine eX12_house (fun Kx => bX12_house_0 (fun M1 m1 M2 m2 M3 m3 M4 m4 M5 m5 M6 m6 M7 m7 => ?_))
  have E7 : EqX [(0, 7), (0, 8), (0, 9), (0, 10), (0, 17)] M M7 := by rw [m7, m6, m5, m4, m3, m2, m1]; exact ((((((EqX.mset (by decide)).trans (EqX.mset (by decide))).trans (EqX.mset (by decide))).trans (EqX.mset (by decide))).trans (EqX.mset (by decide))).trans (EqX.mset (by decide))).trans (EqX.mset (by decide))
  have R7 : RdM (fun _ => 0) M7 := by
    refine ⟨?_, ?_, ?_, ?_, ?_, ?_, fun r a c => z00 a c, fun r a c => z00 a (by have c' : r < 6 * (0 : Int) := c; omega), fun r a c => z00 a c⟩
    · rw [m7, mset_ne (by simp), m6, mset_ne (by simp), m5, mset_ne (by simp), m4, mset_ne (by simp), m3, mset_ne (by simp), m2, mset_self]
    · rw [m7, mset_ne (by simp), m6, mset_ne (by simp), m5, mset_ne (by simp), m4, mset_ne (by simp), m3, mset_self]
    · rw [m7, mset_ne (by simp), m6, mset_ne (by simp), m5, mset_ne (by simp), m4, mset_self]
    · rw [m7, mset_ne (by simp), m6, mset_ne (by simp), m5, mset_self]
    · rw [m7, mset_ne (by simp), m6, mset_self]
    · rw [m7, mset_self]
  refine c12_readsAll_h (Tq_cg T (E7.fld (by decide)) (E7.fld (by decide))) R7 (by rw [m7, mset_ne (by simp), m6, mset_ne (by simp), m5, mset_ne (by simp), m4, mset_ne (by simp), m3, mset_ne (by simp), m2, mset_ne (by simp), m1, mset_self]) (fun z M8 e8 g1 R8 => ⟨fun _ => ?_, fun w => absurd w (by decide)⟩) (fun z M8 e8 g1 g15 => ⟨fun w => absurd rfl w, fun _ => ?_⟩)
  · have K := hAll_ok z
    have ht' := ht z
    clear ht hf
    generalize (hAll b L).2 = hh at *
    obtain ⟨k1, k2, k3, k4, k5, k6, -⟩ := id K
    have s8 : sd M8 = sd M := (e8.sd (by decide)).trans (E7.sd (by decide))
    obtain ⟨r0, r1, r2, r4, r5, r6, u1, u2, u3⟩ := R8
    intro M9 m9 M10 m10 M11 m11 M12 m12
    have q8 : M9 0 8 0 = hh 1 := by rw [m9, mset_ne (by simp)]; exact r1
    have q9 : M10 0 9 0 = hh 2 := by rw [m10, mset_ne (by simp), m9, mset_ne (by simp)]; exact r2
    rw [r0] at m9; rw [q8] at m10; rw [q9] at m11
    have E12 : EqX [(0, 26)] M8 M12 := by rw [m12, m11, m10, m9]; exact (((EqX.mset (by decide)).trans (EqX.mset (by decide))).trans (EqX.mset (by decide))).trans (EqX.mset (by decide))
    have S12 : ∀ i, 0 ≤ i → sd M12 i = hsA hh (sd M) i := fun i hi => by
      rw [m12, sd_set0 hi, m11, sd_set0 hi, m10, sd_set0 hi, m9, sd_set0 hi, s8]; rfl
    have F : ∀ Mc, EqX [(0, 26)] M8 Mc → Mc 0 7 0 = hh 0 ∧ Mc 0 8 0 = hh 1 ∧ Mc 0 9 0 = hh 2 := fun Mc e => ⟨by rw [e 0 7 0 (by decide)]; exact r0, by rw [e 0 8 0 (by decide)]; exact r1, by rw [e 0 9 0 (by decide)]; exact r2⟩
    -- people
    have lpP : ∀ (k : Nat) (Mc : Mem), k ≤ (hh 2).toNat → (EqX [(0, 26)] M8 Mc ∧ ∀ i, 0 ≤ i → sd Mc i = hsF hh (sd M) k i) → CW G Kx mX12_house (n + 6) 204 [some (vO 0), some (vI (k : Int))] [] Mc (qI Q) := by
      refine up_ind (fun Mc i => ?_) (fun k Mc hk i ih => ?_)
      · obtain ⟨i1, i2⟩ := i
        obtain ⟨g7, g8, g9⟩ := F Mc i1
        refine bX12_house_204 ?_
        rw [g9, g7]
        exact ⟨fun _ => ht' Mc ((E7.sub (by decide)).trans ((e8.sub (by decide)).trans (i1.sub (by decide)))) (by rw [i1 0 1 0 (by decide)]; exact g1) i2, fun w => absurd (by omega) w⟩
      · obtain ⟨i1, i2⟩ := i
        obtain ⟨g7, g8, g9⟩ := F Mc i1
        have hk' : (k : Int) < hh 2 := by omega
        have hk8 : k < 8 := by omega
        have g13 : Mc 0 13 k = hh (172 + 5 * (k : Int) + 1) := by
          rw [i1 0 13 k (by decide)]
          have := u3 (k : Int) (by omega) hk'
          rw [Int.toNat_natCast] at this; exact this
        refine bX12_house_204 ?_
        rw [g9, Int.toNat_natCast, g13, ix5 hk8, ix5k hk8 (i := 1) (by decide) (by decide), wr_nat (j := k) (by omega)]
        refine ⟨fun w => absurd w (by omega), fun _ => ⟨⟨by omega, by omega⟩, ⟨by omega, by omega⟩, fun N1 n1 => ⟨⟨by omega, by omega⟩, ?_⟩⟩⟩
        have g131 : N1 0 13 k = hh (172 + 5 * (k : Int) + 1) := by rw [n1, mset_ne (by simp)]; exact g13
        rw [g131]
        have hk5 : ((172 + 5 * (k : Int) + 1).toNat : Int) = 172 + 5 * (k : Int) + 1 := by omega
        refine c12_begins rfl hk8 (fun N2 e2 s2 => ih N2 ⟨?_, fun i hi => ?_⟩)
        · rw [n1] at e2; exact (i1.trans (EqX.mset (by decide))).trans (e2.sub (by decide))
        · have s1 : sd N1 i = if i = 172 + 5 * (k : Int) + 1 then hh (172 + 5 * (k : Int) + 1) else hsF hh (sd M) k i := by
            rw [n1, sd_set0 hi, hk5, i2 i hi]
          rw [s2]
          have c0 : i = 172 + 5 * (k : Int) + 0 ∨ i ≠ 172 + 5 * (k : Int) + 0 := by omega
          unfold bgS us
          show (if i = 172 + 5 * (k : Int) + 4 then -1 else if i = 172 + 5 * (k : Int) + 3 then -1 else if i = 172 + 5 * (k : Int) + 2 then 0 else if i = 172 + 5 * (k : Int) + 0 then hh (172 + 5 * (k : Int) + 1) else sd N1 i) = _
          rw [s1]
          unfold hsF
          by_cases x4 : i = 172 + 5 * (k : Int) + 4
          · rw [if_pos x4, if_pos (by omega)]; unfold hsP; rw [if_neg (by omega), if_neg (by omega), if_neg (by omega)]
          rw [if_neg x4]
          by_cases x3 : i = 172 + 5 * (k : Int) + 3
          · rw [if_pos x3, if_pos (by omega)]; unfold hsP; rw [if_neg (by omega), if_neg (by omega), if_neg (by omega)]
          rw [if_neg x3]
          by_cases x2 : i = 172 + 5 * (k : Int) + 2
          · rw [if_pos x2, if_pos (by omega)]; unfold hsP; rw [if_neg (by omega), if_neg (by omega), if_pos (by omega)]
          rw [if_neg x2]
          by_cases x0 : i = 172 + 5 * (k : Int) + 0
          · rw [if_pos x0, if_pos (by omega)]; unfold hsP; rw [if_pos (by omega), x0]; congr 1
          rw [if_neg x0]
          by_cases x1 : i = 172 + 5 * (k : Int) + 1
          · rw [if_pos x1, if_pos (by omega)]; unfold hsP; rw [if_neg (by omega), if_pos (by omega), x1]
          rw [if_neg x1]
          by_cases y : 172 ≤ i ∧ i < 172 + 5 * (k : Int)
          · rw [if_pos y, if_pos (by omega)]
          · rw [if_neg y, if_neg (by omega)]
    -- ways
    have lpW : ∀ (k : Nat) (Mc : Mem), k ≤ (6 * hh 1).toNat → (EqX [(0, 26)] M8 Mc ∧ ∀ i, 0 ≤ i → sd Mc i = hsE hh (sd M) k i) → CW G Kx mX12_house (n + 6) 170 [some (vO 0), some (vI (k : Int))] [] Mc (qI Q) := by
      refine up_ind (fun Mc i => ?_) (fun k Mc hk i ih => ?_)
      · obtain ⟨i1, i2⟩ := i
        obtain ⟨g7, g8, g9⟩ := F Mc i1
        refine bX12_house_170 ?_
        rw [g8, wrs (x := 6 * hh 1) (by omega) (by omega)]
        refine ⟨fun _ => lpP 0 Mc (by omega) ⟨i1, fun i hi => ?_⟩, fun w => absurd (by omega) w⟩
        rw [i2 i hi]; unfold hsF; rw [if_neg (by omega)]
      · obtain ⟨i1, i2⟩ := i
        obtain ⟨g7, g8, g9⟩ := F Mc i1
        have g12 : Mc 0 12 k = hh (28 + (k : Int)) := by
          rw [i1 0 12 k (by decide)]
          have := u2 (k : Int) (by omega) (by omega)
          rw [Int.toNat_natCast] at this; exact this
        refine bX12_house_170 ?_
        rw [g8, wrs (x := 6 * hh 1) (by omega) (by omega), Int.toNat_natCast, g12, wrs (x := 28 + (k : Int)) (by omega) (by omega), wr_nat (j := k) (by omega)]
        refine ⟨fun w => absurd w (by omega), fun _ => ⟨⟨by omega, by omega⟩, ⟨by omega, by omega⟩, fun N1 n1 => ih N1 ⟨by rw [n1]; exact i1.trans (EqX.mset (by decide)), fun i hi => ?_⟩⟩⟩
        rw [n1, sd_set0 hi, i2 i hi, show (((28 + (k : Int)).toNat : Nat) : Int) = 28 + (k : Int) by omega]
        unfold hsE
        by_cases y : i = 28 + (k : Int)
        · rw [if_pos y, if_pos (by omega), y]
        · rw [if_neg y]
          by_cases x : 28 ≤ i ∧ i < 28 + (k : Int)
          · rw [if_pos x, if_pos (by omega)]
          · rw [if_neg x, if_neg (by omega)]
    -- rooms
    have lpR : ∀ (k : Nat) (Mc : Mem), k ≤ (hh 0).toNat → (EqX [(0, 26)] M8 Mc ∧ ∀ i, 0 ≤ i → sd Mc i = hsD hh (sd M) k i) → CW G Kx mX12_house (n + 6) 139 [some (vO 0), some (vI (k : Int))] [] Mc (qI Q) := by
      refine up_ind (fun Mc i => ?_) (fun k Mc hk i ih => ?_)
      · obtain ⟨i1, i2⟩ := i
        obtain ⟨g7, g8, g9⟩ := F Mc i1
        refine bX12_house_139 ?_
        rw [g7]
        refine ⟨fun _ => lpW 0 Mc (by omega) ⟨i1, fun i hi => ?_⟩, fun w => absurd (by omega) w⟩
        rw [i2 i hi]; unfold hsE; rw [if_neg (by omega)]
      · obtain ⟨i1, i2⟩ := i
        obtain ⟨g7, g8, g9⟩ := F Mc i1
        have g11 : Mc 0 11 k = hh (12 + (k : Int)) := by
          rw [i1 0 11 k (by decide)]
          have := u1 (k : Int) (by omega) (by omega)
          rw [Int.toNat_natCast] at this; exact this
        refine bX12_house_139 ?_
        rw [g7, Int.toNat_natCast, g11, wrs (x := 12 + (k : Int)) (by omega) (by omega), wr_nat (j := k) (by omega)]
        refine ⟨fun w => absurd w (by omega), fun _ => ⟨⟨by omega, by omega⟩, ⟨by omega, by omega⟩, fun N1 n1 => ih N1 ⟨by rw [n1]; exact i1.trans (EqX.mset (by decide)), fun i hi => ?_⟩⟩⟩
        rw [n1, sd_set0 hi, i2 i hi, show (((12 + (k : Int)).toNat : Nat) : Int) = 12 + (k : Int) by omega]
        unfold hsD
        by_cases y : i = 12 + (k : Int)
        · rw [if_pos y, if_pos (by omega), y]
        · rw [if_neg y]
          by_cases x : 12 ≤ i ∧ i < 12 + (k : Int)
          · rw [if_pos x, if_pos (by omega)]
          · rw [if_neg x, if_neg (by omega)]
    -- the hoist
    have lpH : ∀ (k : Nat) (Mc : Mem), k ≤ 3 → (EqX [(0, 26)] M8 Mc ∧ ∀ i, 0 ≤ i → sd Mc i = hsB hh (sd M) k i) → CW G Kx mX12_house (n + 6) 96 [some (vO 0), some (vI (k : Int))] [] Mc (qI Q) := by
      refine up_ind (fun Mc i => ?_) (fun k Mc hk i ih => ?_)
      · obtain ⟨i1, i2⟩ := i
        refine bX12_house_96 ⟨fun _ N1 n1 N2 n2 => lpR 0 N2 (by omega) ⟨by rw [n2, n1]; exact (i1.trans (EqX.mset (by decide))).trans (EqX.mset (by decide)), fun i hi => ?_⟩, fun w => absurd (by decide) w⟩
        have q : hsD hh (sd M) 0 i = hsC hh (sd M) i := by unfold hsD; rw [if_neg (by omega)]
        rw [n2, sd_set0 hi, n1, sd_set0 hi, i2 i hi, q]; rfl
      · obtain ⟨i1, i2⟩ := i
        have g10 : Mc 0 10 k = hh (4 + (k : Int)) := by
          rw [i1 0 10 k (by decide)]
          have c : k = 0 ∨ k = 1 ∨ k = 2 := by omega
          rcases c with c | c | c <;> subst c
          · exact r4
          · exact r5
          · exact r6
        refine bX12_house_96 ?_
        rw [Int.toNat_natCast, g10, wrs (x := 4 + (k : Int)) (by omega) (by omega), wr_nat (j := k) (by omega)]
        refine ⟨fun w => absurd w (by omega), fun _ => ⟨⟨by omega, by omega⟩, ⟨by omega, by omega⟩, fun N1 n1 => ih N1 ⟨by rw [n1]; exact i1.trans (EqX.mset (by decide)), fun i hi => ?_⟩⟩⟩
        rw [n1, sd_set0 hi, i2 i hi, show (((4 + (k : Int)).toNat : Nat) : Int) = 4 + (k : Int) by omega]
        unfold hsB
        by_cases y : i = 4 + (k : Int)
        · rw [if_pos y, if_pos (by omega), y]
        · rw [if_neg y]
          by_cases x : 4 ≤ i ∧ i < 4 + (k : Int)
          · rw [if_pos x, if_pos (by omega)]
          · rw [if_neg x, if_neg (by omega)]
    refine lpH 0 M12 (by omega) ⟨E12, fun i hi => ?_⟩
    rw [S12 i hi]; unfold hsB; rw [if_neg (by omega)]
  · rw [g15]
    exact hf z M8 ((E7.sub (by decide)).trans (e8.sub (by decide))) g1
end HMC
