/-! ===== a minute ===== -/
section MNT
variable {G : Gx} {n : Nat} {M : Mem} {s : Int → Int} {d o : Nat} {ρ : Nat → Nat → Int}
noncomputable def acK (ρ : Nat → Nat → Int) (s : Int → Int) : Nat → Int → Int
  | 0 => s
  | k + 1 => if 0 ≤ acK ρ s k (172 + 5 * (k : Int) + 0) then doS ρ (acK ρ s k) (k : Int) else acK ρ s k
def arr1 (s : Int → Int) (p : Int) : Int → Int := us (us (us s (172 + 5 * p + 0) (s (172 + 5 * p + 3))) (172 + 5 * p + 3) (-1)) (172 + 5 * p + 4) (-1)
def arC (s : Int → Int) (p : Int) : Prop := s (172 + 5 * p + 0) < 0 ∧ s (172 + 5 * p + 4) ≤ s 3 ∧ s 3 ≠ 1440
noncomputable def arK (s : Int → Int) : Nat → Int → Int
  | 0 => s
  | k + 1 => @ite _ (arC (arK s k) (k : Int)) (Classical.propDecidable _) (arr1 (arK s k) (k : Int)) (arK s k)
noncomputable def mnS (ρ : Nat → Nat → Int) (s : Int → Int) : Int → Int := arK (us (acK ρ s (s 2).toNat) 3 (s 3 + 1)) (s 2).toNat
noncomputable def mnI (ρ : Nat → Nat → Int) (s : Int → Int) : Nat → Int → Int
  | 0 => s
  | j + 1 => mnS ρ (mnI ρ s j)
theorem arr1_0 {p : Int} : arr1 s p (172 + 5 * p + 0) = s (172 + 5 * p + 3) := by unfold arr1; rw [us_ne (by omega), us_ne (by omega), us_at]
theorem arr1_3 {p : Int} : arr1 s p (172 + 5 * p + 3) = -1 := by unfold arr1; rw [us_ne (by omega), us_at]
theorem arr1_4 {p : Int} : arr1 s p (172 + 5 * p + 4) = -1 := by unfold arr1; rw [us_at]
theorem arr1_i {p i : Int} (h0 : i ≠ 172 + 5 * p + 0) (h3 : i ≠ 172 + 5 * p + 3) (h4 : i ≠ 172 + 5 * p + 4) : arr1 s p i = s i := by
  unfold arr1; rw [us_ne h4, us_ne h3, us_ne h0]
theorem arr1_DX {p : Int} (h0 : 0 ≤ p) (h1 : p < 8) : DX s (arr1 s p) := fun i a b c => arr1_i (by omega) (by omega) (by omega)
theorem arK_on {k : Nat} (h : arC (arK s k) (k : Int)) : arK s (k + 1) = arr1 (arK s k) (k : Int) := if_pos h
theorem arK_off {k : Nat} (h : ¬ arC (arK s k) (k : Int)) : arK s (k + 1) = arK s k := if_neg h
theorem DX.e2 {s' : Int → Int} (h : DX s s') : s' 2 = s 2 := h 2 (by decide) (by decide) (by decide)
theorem DX.e0 {s' : Int → Int} (h : DX s s') : s' 0 = s 0 := h 0 (by decide) (by decide) (by decide)
theorem DX.e5 {s' : Int → Int} (h : DX s s') : s' 5 = s 5 := h 5 (by decide) (by decide) (by decide)
theorem DX.top {s' : Int → Int} (h : DX s s') (K : HOK s) {t : Int} (ht : isTop s t) : isTop s' t := h.he.top K.2.1 ht

theorem acK_ok (K : HOK s) (D : DOK2 s) (h14 : s 3 ≤ 1439) {t : Int} (ht : 0 < s 2 → isTop s t) : ∀ k : Nat, (k : Int) ≤ s 2 → DOK2 (acK ρ s k) ∧ DX s (acK ρ s k) ∧ acK ρ s k 3 = s 3
  | 0, _ => ⟨D, DX.rf, rfl⟩
  | k + 1, hk => by
    obtain ⟨a, b, c⟩ := acK_ok K D h14 ht k (by omega)
    unfold acK
    split
    · obtain ⟨x, y, z⟩ := doS_ok (ρ := ρ) (p := (k : Int)) (b.he.ok K) a (by omega) (b.top K (ht (by omega))) (by omega) (by rw [b.e2]; omega)
      exact ⟨x, b.trans y, z.trans c⟩
    · exact ⟨a, b, c⟩
theorem arr1_ok (D : DOK2 s) {p : Int} (h0 : 0 ≤ p) (h1 : p < s 2) (hc : arC s p) : DOK2 (arr1 s p) := by
  obtain ⟨⟨d1, d2, d3⟩, d4⟩ := D
  have e3 : arr1 s p 3 = s 3 := arr1_i (by omega) (by omega) (by omega)
  have e0 : arr1 s p 0 = s 0 := arr1_i (by omega) (by omega) (by omega)
  have e2 : arr1 s p 2 = s 2 := arr1_i (by omega) (by omega) (by omega)
  have e5 : arr1 s p 5 = s 5 := arr1_i (by omega) (by omega) (by omega)
  refine ⟨?_, by rw [e2, e5, ridS_cg (s := s) (s' := arr1 s p) e3 _ (fun j hj => arr1_i (by omega) (by omega) (by omega))]; exact d4⟩
  unfold DOK
  rw [e3, e0, e2]
  refine ⟨d1, d2, fun q q0 q1 => ?_⟩
  have hq := d3 q q0 q1
  rw [arr1_i (i := 172 + 5 * q + 2) (by omega) (by omega) (by omega)]
  by_cases e : q = p
  · subst e
    have hb := hq.2.2.2.2 (by have := hc.1; omega)
    rw [arr1_0, arr1_3, arr1_4]
    exact ⟨by omega, by omega, hq.2.2.1, hq.2.2.2.1, fun z => by omega⟩
  · rw [arr1_i (i := 172 + 5 * q + 0) (by omega) (by omega) (by omega), arr1_i (i := 172 + 5 * q + 3) (by omega) (by omega) (by omega), arr1_i (i := 172 + 5 * q + 4) (by omega) (by omega) (by omega)]
    exact hq
theorem arK_ok (k8 : s 2 ≤ 8) (D : DOK2 s) : ∀ k : Nat, (k : Int) ≤ s 2 → DOK2 (arK s k) ∧ DX s (arK s k) ∧ arK s k 3 = s 3
  | 0, _ => ⟨D, DX.rf, rfl⟩
  | k + 1, hk => by
    obtain ⟨a, b, c⟩ := arK_ok k8 D k (by omega)
    by_cases h : arC (arK s k) (k : Int)
    · rw [arK_on h]
      exact ⟨arr1_ok a (by omega) (by rw [b.e2]; omega) h, b.trans (arr1_DX (by omega) (by omega)), (arr1_i (by omega) (by omega) (by omega)).trans c⟩
    · rw [arK_off h]; exact ⟨a, b, c⟩
theorem arK_1440 (h : s 3 = 1440) : ∀ k : Nat, arK s k = s
  | 0 => rfl
  | k + 1 => by
    have ih := arK_1440 h k
    rw [arK_off (fun z => z.2.2 (by rw [ih]; exact h)), ih]
theorem now_ok (D : DOK2 s) (h14 : s 3 ≤ 1439) (h5 : 0 ≤ s 5) : DOK2 (us s 3 (s 3 + 1)) ∧ ridS (us s 3 (s 3 + 1)) (s 2).toNat = 0 := by
  obtain ⟨⟨d1, d2, d3⟩, d4⟩ := D
  have e0 : us s 3 (s 3 + 1) 0 = s 0 := us_ne (by decide)
  have e2 : us s 3 (s 3 + 1) 2 = s 2 := us_ne (by decide)
  have e3 : us s 3 (s 3 + 1) 3 = s 3 + 1 := us_at
  have e5 : us s 3 (s 3 + 1) 5 = s 5 := us_ne (by decide)
  have hr : ∀ k : Nat, (k : Int) ≤ s 2 → ridS (us s 3 (s 3 + 1)) k = 0 := by
    intro k
    induction k with
    | zero => intro _; rfl
    | succ k ih =>
      intro hk
      have := (d3 (k : Int) (by omega) (by omega)).2.2.2.1
      unfold ridS
      rw [ih (by omega), e3, us_ne (by omega), if_neg (by omega)]; rfl
  have hr2 : ridS (us s 3 (s 3 + 1)) (s 2).toNat = 0 := by
    by_cases q : 0 ≤ s 2
    · exact hr _ (by omega)
    · rw [show (s 2).toNat = 0 by omega]; rfl
  refine ⟨⟨?_, by rw [e2, e5, hr2]; exact h5⟩, hr2⟩
  unfold DOK
  rw [e3, e0, e2]
  refine ⟨by omega, by omega, fun q q0 q1 => ?_⟩
  have hq := d3 q q0 q1
  rw [us_ne (show (172 + 5 * q + 0 : Int) ≠ 3 by omega), us_ne (show (172 + 5 * q + 2 : Int) ≠ 3 by omega), us_ne (show (172 + 5 * q + 3 : Int) ≠ 3 by omega), us_ne (show (172 + 5 * q + 4 : Int) ≠ 3 by omega)]
  exact ⟨hq.1, hq.2.1, hq.2.2.1, by omega, hq.2.2.2.2⟩
theorem mnS_ok (K : HOK s) (D : DOK2 s) (h14 : s 3 ≤ 1439) {t : Int} (ht : 0 < s 2 → isTop s t) : DOK2 (mnS ρ s) ∧ DX s (mnS ρ s) ∧ mnS ρ s 3 = s 3 + 1 := by
  have k8 := K.2.2.2.2.2.1
  have k5 := K.2.2.2.2.1
  have hh := K.hoist
  obtain ⟨a, b, c⟩ := acK_ok (ρ := ρ) K D h14 ht (s 2).toNat (by omega)
  have hn := (now_ok a (by omega) (by rw [b.e5]; omega)).1
  rw [c] at hn
  have hdx : DX s (us (acK ρ s (s 2).toNat) 3 (s 3 + 1)) := b.trans (DX_us (Or.inl rfl))
  obtain ⟨x, y, z⟩ := arK_ok (s := us (acK ρ s (s 2).toNat) 3 (s 3 + 1)) (by rw [hdx.e2]; exact k8) hn (s 2).toNat (by rw [hdx.e2]; omega)
  refine ⟨x, hdx.trans y, ?_⟩
  show arK _ _ 3 = _
  rw [z, us_at]
theorem mnI_ok (K : HOK s) (D : DOK2 s) {t : Int} (ht : 0 < s 2 → isTop s t) : ∀ j : Nat, s 3 + (j : Int) ≤ 1440 → DOK2 (mnI ρ s j) ∧ DX s (mnI ρ s j) ∧ mnI ρ s j 3 = s 3 + (j : Int)
  | 0, _ => ⟨D, DX.rf, by show s 3 = s 3 + 0; omega⟩
  | j + 1, hj => by
    obtain ⟨a, b, c⟩ := mnI_ok K D ht j (by omega)
    obtain ⟨x, y, z⟩ := mnS_ok (ρ := ρ) (s := mnI ρ s j) (t := t) (b.he.ok K) a (by omega) (fun q => b.top K (ht (by rw [b.e2] at q; exact q)))
    refine ⟨x, b.trans y, ?_⟩
    show mnS ρ (mnI ρ s j) 3 = _
    rw [z, c]; omega
/-! the class -/
theorem c0_arrive {Q : Mem → Prop} (hd : oc d = 0) (H : HR (M 4) s) (K : HOK s) (D : DR (M d) s) (D2 : DOK2 s) (h14 : s 3 ≠ 1440) (h : ∀ M', EqO d M M' → DR (M' d) (arK s (s 2).toNat) → Q M') : OkV G n mX0_arrive [vO d, vO 4] M Q := by
  have k8 := K.2.2.2.2.2.1
  have k5 := K.2.2.2.2.1
  have e2 : M 4 2 0 = s 2 := H.2.2.1
  have n4 := d4 hd
  refine eX0_arrive (fun Kx => bX0_arrive_0 ?_)
  have loop : ∀ (k : Nat) (Mc : Mem), k ≤ (s 2).toNat → (EqO d M Mc ∧ DR (Mc d) (arK s k)) → CW G Kx mX0_arrive n 2 [some (vO d), some (vO 4), some (vI (k : Int))] [] Mc (qV Q) := by
    refine up_ind (fun Mc i => ?_) (fun k Mc hk i ih => ?_)
    · have g2 : Mc 4 2 0 = s 2 := by rw [i.1 4 n4]; exact e2
      refine bX0_arrive_2 rfl hd ?_
      rw [g2]
      exact ⟨fun _ => h Mc i.1 i.2, fun z => absurd (by omega) z⟩
    · obtain ⟨i1, i2⟩ := i
      have g2 : Mc 4 2 0 = s 2 := by rw [i1 4 n4]; exact e2
      have hk' : (k : Int) < s 2 := by omega
      obtain ⟨a, b, c⟩ := arK_ok k8 D2 k (by omega)
      have eS := b.e2
      obtain ⟨f2, f3, f4, f5⟩ := i2.per (p := (k : Int)) (by omega) (by rw [eS]; exact hk')
      rw [Int.toNat_natCast] at f2 f3 f4 f5
      have f0 : Mc d 0 0 = s 3 := by rw [i2.1]; exact c
      have hdp := a.1.2.2 (k : Int) (by omega) (by rw [eS]; exact hk')
      have kb : (0 : Int) ≤ (k : Int) ∧ (k : Int) < 8 := ⟨by omega, by omega⟩
      refine bX0_arrive_2 rfl hd ?_
      rw [g2, Int.toNat_natCast, f2, f5, f0, wr_n (b := 9) (k := k) (by omega) (by omega)]
      have skip : ¬ arC (arK s k) (k : Int) → CW G Kx mX0_arrive n 2 [some (vO d), some (vO 4), some (vI ((k + 1 : Nat) : Int))] [] Mc (qV Q) := fun z => ih Mc ⟨i1, by rw [arK_off z]; exact i2⟩
      refine ⟨fun z => absurd z (by omega), fun _ => ⟨fun z => absurd z (by omega), fun _ => ⟨kb, fun z => skip (fun q => by have := q.1; omega), fun z => ⟨kb, fun y => skip (fun q => by have := q.2.1; rw [c] at this; omega), fun y => ⟨kb, kb, fun M1 m1 => ⟨kb, fun M2 m2 => ⟨kb, fun M3 m3 => ih M3 ⟨?_, ?_⟩⟩⟩⟩⟩⟩⟩⟩
      · rw [m3, m2, m1]; exact i1.trans ((EqO.mset.trans EqO.mset).trans EqO.mset)
      · have hac : arC (arK s k) (k : Int) := ⟨by omega, by rw [c]; omega, by rw [c]; exact h14⟩
        rw [arK_on hac]
        rw [f4] at m1
        obtain ⟨u0, u1, u2⟩ := i2
        have e3 : arr1 (arK s k) (k : Int) 3 = arK s k 3 := arr1_i (by omega) (by omega) (by omega)
        have ee2 : arr1 (arK s k) (k : Int) 2 = arK s k 2 := arr1_i (by omega) (by omega) (by omega)
        have far : ∀ j i, j ≠ 2 → j ≠ 4 → j ≠ 5 → M3 d j i = Mc d j i := fun j i x1 x2 x3 => by rw [m3, mset_ne (fun z => x3 z.2.1), m2, mset_ne (fun z => x2 z.2.1), m1, mset_ne (fun z => x1 z.2.1)]
        unfold DR
        rw [e3, ee2, far 0 0 (by decide) (by decide) (by decide), far 1 0 (by decide) (by decide) (by decide), ridS_cg (s := arK s k) (s' := arr1 (arK s k) (k : Int)) e3 _ (fun j hj => arr1_i (by omega) (by omega) (by omega))]
        refine ⟨u0, u1, fun q q1 q2 => ?_⟩
        obtain ⟨v2, v3, v4, v5⟩ := u2 q q1 q2
        have w2 : M3 d 2 q.toNat = if q.toNat = k then arK s k (172 + 5 * (k : Int) + 3) else Mc d 2 q.toNat := by rw [m3, mset_ne (by simp), m2, mset_ne (by simp), m1, mset_fn]
        have w4 : M3 d 4 q.toNat = if q.toNat = k then -1 else Mc d 4 q.toNat := by rw [m3, mset_ne (by simp), m2, mset_fn, m1, mset_ne (by simp)]
        have w5 : M3 d 5 q.toNat = if q.toNat = k then -1 else Mc d 5 q.toNat := by rw [m3, mset_fn, m2, mset_ne (by simp), m1, mset_ne (by simp)]
        rw [far 3 _ (by decide) (by decide) (by decide), w2, w4, w5, arr1_i (i := 172 + 5 * q + 2) (by omega) (by omega) (by omega)]
        by_cases e : q = (k : Int)
        · have ek : q.toNat = k := by omega
          rw [if_pos ek, if_pos ek, if_pos ek, e, arr1_0, arr1_3, arr1_4]
          rw [e] at v3
          exact ⟨rfl, v3, rfl, rfl⟩
        · have ek : ¬ q.toNat = k := by omega
          rw [if_neg ek, if_neg ek, if_neg ek, arr1_i (i := 172 + 5 * q + 0) (by omega) (by omega) (by omega), arr1_i (i := 172 + 5 * q + 3) (by omega) (by omega) (by omega), arr1_i (i := 172 + 5 * q + 4) (by omega) (by omega) (by omega)]
          exact ⟨v2, v3, v4, v5⟩
  exact loop 0 M (by omega) ⟨EqO.rf, D⟩
theorem acK_s (k : Nat) : acK ρ s (k + 1) = if 0 ≤ acK ρ s k (172 + 5 * (k : Int) + 0) then doS ρ (acK ρ s k) (k : Int) else acK ρ s k := rfl
theorem c0_pass {Q : Mem → Prop} {N : Nat} {t : Int} (ho : oc o = 6) (hd : oc d = 0) (H : HR (M 4) s) (K : HOK s) (D : DR (M d) s) (D2 : DOK2 s) (ht : 0 < s 2 → isTop s t) (hN : s 3 + (N : Int) ≤ 1440) (hR : RuC ρ (M o)) (hO : RuOK ρ)
    (h : ∀ M', EqO2 d o M M' → RuC ρ (M' o) → DR (M' d) (mnI ρ s N) → Q M') : OkV G (n + 5) mX0_pass [vO d, vO 4, vO o, vI (N : Int)] M Q := by
  have k8 := K.2.2.2.2.2.1
  have k5 := K.2.2.2.2.1
  have hh := K.hoist
  have e2 : M 4 2 0 = s 2 := H.2.2.1
  have n4 := d4 hd
  have no4 : (4 : Nat) ≠ o := fun e => by rw [← e] at ho; exact absurd ho (by decide)
  have nd : d ≠ o := fun e => by rw [← e, hd] at ho; exact absurd ho (by decide)
  have D0 := D2.1.1
  refine eX0_pass (fun Kx => bX0_pass_0 ?_)
  have loop : ∀ (j : Nat) (Mc : Mem), j ≤ N → (EqO2 d o M Mc ∧ RuC ρ (Mc o) ∧ DR (Mc d) (mnI ρ s j)) → CW G Kx mX0_pass (n + 5) 3 [some (vO d), some (vO 4), some (vO o), some (vI (N : Int)), some (vI (j : Int)), none] [] Mc (qV Q) := by
    refine up_ind (fun Mc i => ?_) (fun j Mc hj i ih => ?_)
    · exact bX0_pass_3 ⟨fun _ => h Mc i.1 i.2.1 i.2.2, fun z => absurd (Int.le_refl _) z⟩
    · obtain ⟨i1, i2, i3⟩ := i
      obtain ⟨a, b, c⟩ := mnI_ok (ρ := ρ) K D2 ht j (by omega)
      have ih' : ∀ M', EqO2 d o M M' → RuC ρ (M' o) → DR (M' d) (mnS ρ (mnI ρ s j)) → CW G Kx mX0_pass (n + 5) 3 [some (vO d), some (vO 4), some (vO o), some (vI (N : Int)), some (vI ((j + 1 : Nat) : Int)), none] [] M' (qV Q) := fun M' x y z => ih M' ⟨x, y, z⟩
      clear ih
      have wj : ∀ {P : Prop}, (wr ((j : Int) + 1) = ((j + 1 : Nat) : Int) → P) → P := fun f => f (wr_n (b := 1441) (k := j) (by omega) (by omega))
      generalize mnI ρ s j = r at *
      have Kr := b.he.ok K
      have r2 := b.e2
      have htr : 0 < r 2 → isTop r t := fun q => b.top K (ht (by rw [r2] at q; exact q))
      have hr14 : r 3 ≤ 1439 := by omega
      have Hc : HR (Mc 4) r := by rw [i1 4 n4 no4]; exact b.he.hr K H
      refine bX0_pass_3 ⟨fun z => absurd z (by omega), fun _ => ?_⟩
      have pers : ∀ (k : Nat) (M2 : Mem), k ≤ (r 2).toNat → (EqO2 d o M M2 ∧ RuC ρ (M2 o) ∧ DR (M2 d) (acK ρ r k)) → CW G Kx mX0_pass (n + 5) 12 [some (vO d), some (vO 4), some (vO o), some (vI (N : Int)), some (vI (j : Int)), some (vI (k : Int))] [] M2 (qV Q) := by
        have fin : ∀ M2, EqO2 d o M M2 → RuC ρ (M2 o) → DR (M2 d) (acK ρ r (r 2).toNat) → CW G Kx mX0_pass (n + 5) 53 [some (vO d), some (vO 4), some (vO o), some (vI (N : Int)), some (vI (j : Int)), none] [] M2 (qV Q) := by
          intro M2 q1 q2 q3
          obtain ⟨x, y, z⟩ := acK_ok (ρ := ρ) Kr a hr14 htr (r 2).toNat (by omega)
          have hno := now_ok x (by omega) (by rw [y.e5, b.e5]; omega)
          rw [z] at hno
          have hy2 := y.e2
          obtain ⟨u0, u1, u2⟩ := q3
          have f0 : M2 d 0 0 = r 3 := u0.trans z
          refine bX0_pass_53 hd (fun M3 m3 M4 m4 => ?_)
          rw [f0, wrs (x := r 3 + 1) (by omega) (by omega)] at m3
          have g0 : M4 d 0 0 = r 3 + 1 := by rw [m4, mset_ne (by simp), m3, mset_self]
          have hE4 : EqO2 d o M M4 := q1.trans (EqO.two (by rw [m4, m3]; exact EqO.mset.trans EqO.mset))
          have hR4 : RuC ρ (M4 o) := fun k hk => by
            have : M4 o = M2 o := by rw [m4, m3]; exact (EqO.mset.trans EqO.mset) o (fun z => nd z.symm)
            rw [this]; exact q2 k hk
          have hD4 : DR (M4 d) (us (acK ρ r (r 2).toNat) 3 (r 3 + 1)) := by
            have far : ∀ k i, k ≠ 0 → k ≠ 1 → M4 d k i = M2 d k i := fun k i x1 x2 => by rw [m4, mset_ne (fun z => x2 z.2.1), m3, mset_ne (fun z => x1 z.2.1)]
            unfold DR
            rw [us_at, us_ne (show (2 : Int) ≠ 3 by decide), hy2]
            refine ⟨g0, ?_, fun q qa qb => ?_⟩
            · rw [m4, mset_self]
              have := hno.2
              rw [hy2] at this
              exact this.symm
            · obtain ⟨v2, v3, v4, v5⟩ := u2 q qa (by rw [hy2]; exact qb)
              rw [far 2 _ (by decide) (by decide), far 3 _ (by decide) (by decide), far 4 _ (by decide) (by decide), far 5 _ (by decide) (by decide), us_ne (show (172 + 5 * q + 0 : Int) ≠ 3 by omega), us_ne (show (172 + 5 * q + 2 : Int) ≠ 3 by omega), us_ne (show (172 + 5 * q + 3 : Int) ≠ 3 by omega), us_ne (show (172 + 5 * q + 4 : Int) ≠ 3 by omega)]
              exact ⟨v2, v3, v4, v5⟩
          have hdx : DX r (us (acK ρ r (r 2).toNat) 3 (r 3 + 1)) := y.trans (DX_us (Or.inl rfl))
          have e23 : us (acK ρ r (r 2).toNat) 3 (r 3 + 1) 2 = r 2 := hdx.e2
          have e33 : us (acK ρ r (r 2).toNat) 3 (r 3 + 1) 3 = r 3 + 1 := us_at
          have hms : mnS ρ r = arK (us (acK ρ r (r 2).toNat) 3 (r 3 + 1)) (r 2).toNat := rfl
          rw [g0]
          refine wj (fun wj => ?_)
          rw [wj]
          clear wj
          refine ⟨fun w => ih' M4 hE4 hR4 ?_, fun w => ?_⟩
          · rw [hms, arK_1440 (by rw [e33]; omega)]; exact hD4
          · have H4 : HR (M4 4) (us (acK ρ r (r 2).toNat) 3 (r 3 + 1)) := by rw [hE4 4 n4 no4]; exact (b.trans hdx).he.hr K H
            refine c0_arrive hd H4 ((b.trans hdx).he.ok K) hD4 hno.1 (by rw [e33]; omega) (fun M5 p1 p2 => ih' M5 (hE4.trans p1.two) (fun k hk => by rw [p1 o (fun z => nd z.symm)]; exact hR4 k hk) ?_)
            rw [e23] at p2
            rw [hms]; exact p2
        refine up_ind (fun M2 q => ?_) (fun k M2 hk q ihk => ?_)
        · have g2 : M2 4 2 0 = s 2 := by rw [q.1 4 n4 no4]; exact e2
          refine bX0_pass_12 rfl hd ?_
          rw [g2]
          exact ⟨fun _ => fin M2 q.1 q.2.1 q.2.2, fun z => absurd (by omega) z⟩
        · obtain ⟨q1, q2, q3⟩ := q
          have g2 : M2 4 2 0 = s 2 := by rw [q1 4 n4 no4]; exact e2
          have hk' : (k : Int) < r 2 := by omega
          obtain ⟨x, y, z⟩ := acK_ok (ρ := ρ) Kr a hr14 htr k (by omega)
          obtain ⟨f2, -⟩ := q3.per (p := (k : Int)) (by omega) (by rw [y.e2]; exact hk')
          rw [Int.toNat_natCast] at f2
          have hdp := x.1.2.2 (k : Int) (by omega) (by rw [y.e2]; exact hk')
          refine bX0_pass_12 rfl hd ?_
          rw [g2, Int.toNat_natCast, f2, wr_n (b := 9) (k := k) (by omega) (by omega)]
          refine ⟨fun w => absurd w (by omega), fun _ => ⟨fun w => absurd w (by omega), fun _ => ⟨⟨by omega, by omega⟩, fun w => ?_, fun w => ?_⟩⟩⟩
          · refine ihk M2 ⟨q1, q2, ?_⟩
            rw [acK_s, if_neg (by omega)]; exact q3
          · have H2 : HR (M2 4) (acK ρ r k) := by rw [q1 4 n4 no4]; exact (b.trans y).he.hr K H
            refine c0_act ho hd H2 (y.he.ok Kr) q3 x (by omega) (y.top Kr (htr (by omega))) (by omega) (by rw [y.e2]; exact hk') (by omega) q2 hO (fun M3 p1 p2 p3 => ihk M3 ⟨q1.trans p1, p2, ?_⟩)
            rw [acK_s, if_pos (by omega)]; exact p3
      exact pers 0 Mc (by omega) ⟨i1, i2, i3⟩
  exact loop 0 M (by omega) ⟨EqO2.rf, hR, D⟩
end MNT
