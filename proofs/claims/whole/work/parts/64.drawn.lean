/-! ===== days by draws ===== -/
section DRP
variable {s : Int → Int} {x : Int}
def drX (x : Int) : Int := Int.tmod (x * 1103515245 + 12345) 2147483648
def drR (y q : Int) : Int := Int.tmod (Int.tdiv y 65536) q
theorem drX_rng (h0 : 0 ≤ x) : 0 ≤ drX x ∧ drX x ≤ 2147483647 := by
  unfold drX
  rw [Int.tmod_eq_emod_of_nonneg (by omega)]
  omega
theorem drX_wl (h0 : 0 ≤ x) (h1 : x ≤ 2147483647) : wl (Int.tmod (wl (wl (x * 1103515245) + 12345)) 2147483648) = drX x := by
  have := drX_rng h0
  rw [wls (x := x * 1103515245) (by omega) (by omega), wls (x := x * 1103515245 + 12345) (by omega) (by omega)]
  show wl (drX x) = drX x
  exact wls (by omega) (by omega)
theorem dv_rng {y : Int} (h0 : 0 ≤ y) (h1 : y ≤ 2147483647) : 0 ≤ Int.tdiv y 65536 ∧ Int.tdiv y 65536 ≤ 32767 := by
  rw [Int.tdiv_eq_ediv_of_nonneg h0]; omega
theorem drR_rng {y q : Int} (h0 : 0 ≤ y) (h1 : y ≤ 2147483647) (hq : 0 < q) : 0 ≤ drR y q ∧ drR y q < q := by
  have := dv_rng h0 h1
  unfold drR
  rw [Int.tmod_eq_emod_of_nonneg this.1]
  exact ⟨Int.emod_nonneg _ (by omega), Int.emod_lt_of_pos _ hq⟩
theorem drR_c {y q : Int} (h0 : 0 ≤ y) (h1 : y ≤ 2147483647) (hq : 0 < q) (hq2 : q ≤ 16) : wr (Int.tmod (wr (wl (Int.tdiv y 65536))) q) = drR y q := by
  have := dv_rng h0 h1
  have h2 := drR_rng h0 h1 hq
  rw [wls (x := Int.tdiv y 65536) (by omega) (by omega), wrs (x := Int.tdiv y 65536) (by omega) (by omega)]
  exact wrs (by show _ ≤ drR y q; omega) (by show drR y q ≤ _; omega)
theorem drR_m {y q : Int} (h0 : 0 ≤ y) (h1 : y ≤ 2147483647) (hq : 0 < q) (hq2 : q ≤ 16) : wr (wl (Int.tmod (wl (Int.tdiv y 65536)) q)) = drR y q := by
  have := dv_rng h0 h1
  have h2 := drR_rng h0 h1 hq
  rw [wls (x := Int.tdiv y 65536) (by omega) (by omega)]
  show wr (wl (drR y q)) = drR y q
  rw [wls (by omega) (by omega), wrs (by omega) (by omega)]
def bgS (s : Int → Int) (p r : Int) : Int → Int := us (us (us (us s (172 + 5 * p + 0) r) (172 + 5 * p + 2) 0) (172 + 5 * p + 3) (-1)) (172 + 5 * p + 4) (-1)
theorem bgS_i {p r i : Int} (h0 : i ≠ 172 + 5 * p + 0) (h2 : i ≠ 172 + 5 * p + 2) (h3 : i ≠ 172 + 5 * p + 3) (h4 : i ≠ 172 + 5 * p + 4) : bgS s p r i = s i := by
  unfold bgS; rw [us_ne h4, us_ne h3, us_ne h2, us_ne h0]
theorem bgS_at {p r : Int} : bgS s p r (172 + 5 * p + 0) = r ∧ bgS s p r (172 + 5 * p + 2) = 0 ∧ bgS s p r (172 + 5 * p + 3) = -1 ∧ bgS s p r (172 + 5 * p + 4) = -1 := by
  refine ⟨?_, ?_, ?_, us_at⟩ <;> unfold bgS
  · rw [us_ne (by omega), us_ne (by omega), us_ne (by omega), us_at]
  · rw [us_ne (by omega), us_ne (by omega), us_at]
  · rw [us_ne (by omega), us_at]
def dwK (s : Int → Int) (x : Int) : Nat → (Int → Int) × Int
  | 0 => (us s 3 0, x)
  | k + 1 => (bgS (dwK s x k).1 (k : Int) (drR (drX (dwK s x k).2) (s 0)), drX (dwK s x k).2)
theorem dwK_s (k : Nat) : dwK s x (k + 1) = (bgS (dwK s x k).1 (k : Int) (drR (drX (dwK s x k).2) (s 0)), drX (dwK s x k).2) := rfl
theorem dwK_x (h0 : 0 ≤ x) (h1 : x ≤ 2147483647) : ∀ k : Nat, 0 ≤ (dwK s x k).2 ∧ (dwK s x k).2 ≤ 2147483647
  | 0 => ⟨h0, h1⟩
  | k + 1 => drX_rng (dwK_x h0 h1 k).1
theorem dwK_ok (h0 : 0 ≤ x) (h1 : x ≤ 2147483647) (hr : 0 < s 0) : ∀ k : Nat, k ≤ 8 → DX s (dwK s x k).1 ∧ (dwK s x k).1 3 = 0 ∧ ∀ p : Int, 0 ≤ p → p < (k : Int) → (0 ≤ (dwK s x k).1 (172 + 5 * p + 0) ∧ (dwK s x k).1 (172 + 5 * p + 0) < s 0) ∧ (dwK s x k).1 (172 + 5 * p + 2) = 0 ∧ (dwK s x k).1 (172 + 5 * p + 3) = -1 ∧ (dwK s x k).1 (172 + 5 * p + 4) = -1
  | 0, _ => ⟨DX_us (Or.inl rfl), (by show us s 3 0 3 = 0; exact us_at), fun p a b => by omega⟩
  | k + 1, hk => by
    obtain ⟨a, b, c⟩ := dwK_ok h0 h1 hr k (by omega)
    obtain ⟨x1, x2⟩ := dwK_x (s := s) h0 h1 k
    have hd := drX_rng x1
    have hrr := drR_rng hd.1 hd.2 hr
    rw [dwK_s]
    refine ⟨a.trans (fun i i0 i1 i2 => bgS_i (by omega) (by omega) (by omega) (by omega)), (by show bgS (dwK s x k).1 (k : Int) (drR (drX (dwK s x k).2) (s 0)) 3 = 0; rw [bgS_i (by omega) (by omega) (by omega) (by omega)]; exact b), fun p p0 p1 => ?_⟩
    by_cases e : p = (k : Int)
    · subst e
      obtain ⟨e0, e2, e3, e4⟩ := bgS_at (s := (dwK s x k).1) (p := (k : Int)) (r := drR (drX (dwK s x k).2) (s 0))
      show (0 ≤ bgS _ _ _ _ ∧ bgS _ _ _ _ < s 0) ∧ bgS _ _ _ _ = 0 ∧ bgS _ _ _ _ = -1 ∧ bgS _ _ _ _ = -1
      rw [e0, e2, e3, e4]
      exact ⟨hrr, rfl, rfl, rfl⟩
    · show (0 ≤ bgS _ _ _ _ ∧ bgS _ _ _ _ < s 0) ∧ bgS _ _ _ _ = 0 ∧ bgS _ _ _ _ = -1 ∧ bgS _ _ _ _ = -1
      rw [bgS_i (i := 172 + 5 * p + 0) (by omega) (by omega) (by omega) (by omega), bgS_i (i := 172 + 5 * p + 2) (by omega) (by omega) (by omega) (by omega), bgS_i (i := 172 + 5 * p + 3) (by omega) (by omega) (by omega) (by omega), bgS_i (i := 172 + 5 * p + 4) (by omega) (by omega) (by omega) (by omega)]
      exact c p p0 (by omega)
theorem dwK_D (h0 : 0 ≤ x) (h1 : x ≤ 2147483647) (hr : 0 < s 0) (k5 : 0 ≤ s 2) (k8 : s 2 ≤ 8) (s5 : 0 ≤ s 5) : DOK2 (dwK s x (s 2).toNat).1 ∧ ridS (dwK s x (s 2).toNat).1 (s 2).toNat = 0 := by
  obtain ⟨a, b, c⟩ := dwK_ok h0 h1 hr (s 2).toNat (by omega)
  have hrid : ∀ k : Nat, (k : Int) ≤ s 2 → ridS (dwK s x (s 2).toNat).1 k = 0 := by
    intro k
    induction k with
    | zero => intro _; rfl
    | succ k ih =>
      intro hk
      unfold ridS
      rw [ih (by omega), (c (k : Int) (by omega) (by omega)).2.1, b]; rfl
  have hz := hrid (s 2).toNat (by omega)
  refine ⟨⟨?_, by rw [a.e2, hz, a.e5]; exact s5⟩, hz⟩
  unfold DOK
  rw [b, a.e0, a.e2]
  refine ⟨by omega, by omega, fun p p0 p1 => ?_⟩
  obtain ⟨c0, c2, c3, c4⟩ := c p p0 (by omega)
  rw [c2]
  exact ⟨by omega, by omega, by omega, by omega, fun z => by omega⟩
noncomputable def drI (ρ : Nat → Nat → Int) (s : Int → Int) (x w : Int) : Nat → (Int → Int) × Int × Int
  | 0 => (s, x, 0)
  | j + 1 => (mnI ρ (dwK (drI ρ s x w j).1 (drI ρ s x w j).2.1 (s 2).toNat).1 1440, (dwK (drI ρ s x w j).1 (drI ρ s x w j).2.1 (s 2).toNat).2, (drI ρ s x w j).2.2 + tlS (mnI ρ (dwK (drI ρ s x w j).1 (drI ρ s x w j).2.1 (s 2).toNat).1 1440) w)
theorem drI_s {ρ : Nat → Nat → Int} {w : Int} (j : Nat) : drI ρ s x w (j + 1) = (mnI ρ (dwK (drI ρ s x w j).1 (drI ρ s x w j).2.1 (s 2).toNat).1 1440, (dwK (drI ρ s x w j).1 (drI ρ s x w j).2.1 (s 2).toNat).2, (drI ρ s x w j).2.2 + tlS (mnI ρ (dwK (drI ρ s x w j).1 (drI ρ s x w j).2.1 (s 2).toNat).1 1440) w) := rfl
end DRP
section DRW
variable {G : Gx} {n : Nat} {M : Mem} {s : Int → Int} {ρ : Nat → Nat → Int} {d : Nat} {x : Int}
/-- one drawn day -/
theorem day_ok {t : Int} (K : HOK s) (h0 : 0 ≤ x) (h1 : x ≤ 2147483647) (hr : 0 < s 0) (ht : 0 < s 2 → isTop s t) : ∀ j : Nat, j ≤ 1440 → DOK2 (mnI ρ (dwK s x (s 2).toNat).1 j) ∧ DX s (mnI ρ (dwK s x (s 2).toNat).1 j) ∧ mnI ρ (dwK s x (s 2).toNat).1 j 3 = (j : Int) := by
  intro j hj
  have hh := K.hoist
  obtain ⟨a, b, c⟩ := dwK_ok h0 h1 hr (s 2).toNat (by have := K.2.2.2.2.2.1; omega)
  obtain ⟨e, f⟩ := dwK_D (x := x) h0 h1 hr K.2.2.2.2.1 K.2.2.2.2.2.1 (by omega)
  obtain ⟨u, v, w⟩ := mnI_ok (ρ := ρ) (s := (dwK s x (s 2).toNat).1) (t := t) (a.he.ok K) e (fun q => a.top K (ht (by rw [a.e2] at q; exact q))) j (by rw [b]; omega)
  exact ⟨u, a.trans v, by rw [w, b]; omega⟩
theorem tlS_rng {w : Int} (k5 : 0 ≤ s 2) (k8 : s 2 ≤ 8) : 0 ≤ tlS s w ∧ tlS s w ≤ 8 := by
  have := cb_rng (f := tlF s w) (s 2).toNat
  unfold tlS; omega
theorem drI_ok {t w : Int} (K : HOK s) (h0 : 0 ≤ x) (h1 : x ≤ 2147483647) (hr : 0 < s 0) (ht : 0 < s 2 → isTop s t) : ∀ j : Nat, DX s (drI ρ s x w j).1 ∧ (0 ≤ (drI ρ s x w j).2.1 ∧ (drI ρ s x w j).2.1 ≤ 2147483647) ∧ 0 ≤ (drI ρ s x w j).2.2 ∧ (drI ρ s x w j).2.2 ≤ 8 * (j : Int)
  | 0 => ⟨DX.rf, ⟨h0, h1⟩, Int.le_refl _, Int.le_refl _⟩
  | j + 1 => by
    obtain ⟨a, ⟨b0, b1⟩, c0, c1⟩ := drI_ok (w := w) K h0 h1 hr ht j
    have e2 := a.e2
    obtain ⟨u, v, z⟩ := day_ok (ρ := ρ) (s := (drI ρ s x w j).1) (x := (drI ρ s x w j).2.1) (t := t) (a.he.ok K) b0 b1 (by rw [a.e0]; exact hr) (fun q => a.top K (ht (by rw [a.e2] at q; exact q))) 1440 (by decide)
    rw [e2] at u v z
    have v2 := v.e2
    have ht8 := tlS_rng (s := mnI ρ (dwK (drI ρ s x w j).1 (drI ρ s x w j).2.1 (s 2).toNat).1 1440) (w := w) (by rw [v2, e2]; exact K.2.2.2.2.1) (by rw [v2, e2]; exact K.2.2.2.2.2.1)
    have hx := dwK_x (s := (drI ρ s x w j).1) b0 b1 (s 2).toNat
    rw [drI_s]
    dsimp only
    exact ⟨a.trans v, hx, by omega, by omega⟩
theorem c0_begin {Q : Mem → Prop} {e : Nat} (hd : oc d = 0) (he : oc e = 1) (h : ∀ M', EqO d M M' → M' d 0 0 = 0 → M' d 1 0 = 0 → (∀ i, i < 8 → M' d 2 i = M e 14 i ∧ M' d 3 i = 0 ∧ M' d 4 i = -1 ∧ M' d 5 i = -1) → Q M') : OkV G (n + 2) mX0_begin [vO d, vO e] M Q := by
  have ne : e ≠ d := fun z => by rw [z, hd] at he; exact absurd he (by decide)
  refine eX0_begin (fun Kx => bX0_begin_0 hd he (fun M1 m1 M2 m2 => ?_))
  refine c11_copyRow (N := 8) (by rw [he]; rfl) (by rw [hd]; rfl) (by rw [he]; rfl) (by rw [hd]; rfl) (by decide) ?_
  refine c_fill (N := 8) (by rw [hd]; rfl) (by rw [hd]; rfl) (by decide) ?_
  refine c_fill (N := 8) (by rw [hd]; rfl) (by rw [hd]; rfl) (by decide) ?_
  refine c_fill (N := 8) (by rw [hd]; rfl) (by rw [hd]; rfl) (by decide) ?_
  have e2 : M2 e = M e := by rw [m2, m1]; exact (EqO.mset.trans EqO.mset) e ne
  refine h _ ?_ ?_ ?_ (fun i hi => ⟨?_, ?_, ?_, ?_⟩)
  · intro a ha
    have e1 : M2 a = M a := by rw [m2, m1]; exact (EqO.mset.trans EqO.mset) a ha
    rw [← e1]
    funext b i
    simp only [mfill, mcpy, ha, false_and, if_false]
  · simp only [mfill, mcpy]; simp; rw [m2, mset_ne (by simp), m1, mset_self]
  · simp only [mfill, mcpy]; simp; rw [m2, mset_self]
  · simp only [mfill, mcpy]; simp [hi]; rw [e2]
  · simp only [mfill, mcpy]; simp [hi]
  · simp only [mfill, mcpy]; simp [hi]
  · simp only [mfill, mcpy]; simp [hi]
theorem c0_beginDrawn {Q : Int → Mem → Prop} (hd : oc d = 0) (H : HR (M 4) s) (K : HOK s) (hr : 0 < s 0) (h0 : 0 ≤ x) (h1 : x ≤ 2147483647) (h : ∀ M', EqO d M M' → DR (M' d) (dwK s x (s 2).toNat).1 → Q (dwK s x (s 2).toNat).2 M') : OkI G (n + 3) mX0_beginDrawn [vO d, vO 4, vI x] M Q := by
  have k8 := K.2.2.2.2.2.1
  have k5 := K.2.2.2.2.1
  have k16 := K.2.1
  have hh := K.hoist
  have n4 := d4 hd
  refine eX0_beginDrawn (fun Kx => bX0_beginDrawn_0 hd (c0_begin (e := 4) hd rfl (fun M1 i1 i2 i3 i4 => ?_)))
  have g2 : ∀ Mc, EqO d M Mc → Mc 4 2 0 = s 2 := fun Mc e => by rw [e 4 n4]; exact H.2.2.1
  have g0 : ∀ Mc, EqO d M Mc → Mc 4 0 0 = s 0 := fun Mc e => by rw [e 4 n4]; exact H.1
  have loop : ∀ (k : Nat) (Mc : Mem), k ≤ (s 2).toNat → (EqO d M Mc ∧ Mc d 0 0 = 0 ∧ Mc d 1 0 = 0 ∧ (∀ i, i < 8 → Mc d 3 i = 0 ∧ Mc d 4 i = -1 ∧ Mc d 5 i = -1) ∧ ∀ p : Int, 0 ≤ p → p < (k : Int) → Mc d 2 p.toNat = (dwK s x k).1 (172 + 5 * p + 0)) → CW G Kx mX0_beginDrawn (n + 3) 11 [some (vO d), some (vO 4), none, some (vL (dwK s x k).2), none, some (vI (k : Int))] [] Mc (qI Q) := by
    refine up_ind (fun Mc i => ?_) (fun k Mc hk i ih => ?_)
    · obtain ⟨j1, j2, j3, j4, j5⟩ := i
      obtain ⟨a, b, c⟩ := dwK_ok h0 h1 hr (s 2).toNat (by omega)
      obtain ⟨x1, x2⟩ := dwK_x (s := s) h0 h1 (s 2).toNat
      refine bX0_beginDrawn_11 hd rfl ?_
      rw [g2 Mc j1, wrs (x := (dwK s x (s 2).toNat).2) (by omega) (by omega)]
      refine ⟨fun _ => h Mc j1 ⟨?_, ?_, fun p p0 p1 => ?_⟩, fun z => absurd (by omega) z⟩
      · rw [j2, b]
      · rw [j3, a.e2, (dwK_D (x := x) h0 h1 hr k5 k8 (by omega)).2]
      · rw [a.e2] at p1
        obtain ⟨c0, c2, c3, c4⟩ := c p p0 (by omega)
        obtain ⟨z3, z4, z5⟩ := j4 p.toNat (by omega)
        rw [c2, c3, c4, z3, z4, z5]
        exact ⟨j5 p p0 (by omega), rfl, rfl, rfl⟩
    · obtain ⟨j1, j2, j3, j4, j5⟩ := i
      obtain ⟨x1, x2⟩ := dwK_x (s := s) h0 h1 k
      have hd' := drX_rng x1
      refine bX0_beginDrawn_11 hd rfl ?_
      rw [g2 Mc j1, g0 Mc j1, drX_wl x1 x2, drR_c hd'.1 hd'.2 hr k16, wr_n (b := 9) (k := k) (by omega) (by omega), Int.toNat_natCast]
      refine ⟨fun z => absurd z (by omega), fun _ => ⟨fun z => absurd z (by omega), fun _ => ⟨fun z => absurd z (by omega), fun _ => ⟨by omega, ⟨by omega, by omega⟩, fun M2 m2 => ih M2 ⟨?_, ?_, ?_, fun i hi => ?_, fun p p0 p1 => ?_⟩⟩⟩⟩⟩
      · rw [m2]; exact j1.trans EqO.mset
      · rw [m2, mset_ne (by simp)]; exact j2
      · rw [m2, mset_ne (by simp)]; exact j3
      · rw [m2, mset_ne (by simp), mset_ne (by simp), mset_ne (by simp)]; exact j4 i hi
      · rw [m2, mset_fn, dwK_s]
        show _ = bgS _ _ _ _
        by_cases e : p = (k : Int)
        · subst e
          rw [Int.toNat_natCast, if_pos rfl, bgS_at.1]
        · rw [if_neg (by omega), bgS_i (by omega) (by omega) (by omega) (by omega)]
          exact j5 p p0 (by omega)
  exact loop 0 M1 (by omega) ⟨i1, i2, i3, fun i hi => (i4 i hi).2, fun p p0 p1 => by omega⟩
theorem c12_begins {Q : Mem → Prop} {r : Int} {p : Nat} (hs : sd M = s) (hp : p < 8) (h : ∀ M', EqX [(0, 26)] M M' → sd M' = bgS s (p : Int) r → Q M') : OkV G n mX12_begins [vO 0, vI (p : Int), vI r] M Q := by
  refine eX12_begins (fun Kx => bX12_begins_0 ?_)
  rw [ix5 hp, ix5k hp (i := 2) (by decide) (by decide), ix5k hp (i := 3) (by decide) (by decide), ix5k hp (i := 4) (by decide) (by decide)]
  refine ⟨⟨by omega, by omega⟩, fun M1 m1 => ⟨⟨by omega, by omega⟩, fun M2 m2 => ⟨⟨by omega, by omega⟩, fun M3 m3 => ⟨⟨by omega, by omega⟩, fun M4 m4 => h M4 ?_ ?_⟩⟩⟩⟩
  · rw [m4, m3, m2, m1]; exact (((EqX.mset (by decide)).trans (EqX.mset (by decide))).trans (EqX.mset (by decide))).trans (EqX.mset (by decide))
  · rw [m4, sd_us (by omega), m3, sd_us (by omega), m2, sd_us (by omega), m1, sd_us (by omega), hs]; rfl
theorem inI_26 {i : Nat} (hM : okM G M) : inI (M 0 26 i) := hM 0 26 i
theorem both_drawn {x1 x2 x3 : Int} {P : Int → Int → Mem → Prop} (H : HR (M 4) (sd M)) (K : HOK (sd M)) (L : LR (M 6) (sd M)) (LO : LOK (sd M)) (R : RuAll M) (h : ∀ r M2, AhP M M2 → P r r M2) : OkI G (n + 6) mX11_drawn [vO 1, vI x1, vI x2, vI x3] M (fun r1 M1 => OkI G (n + 6) mX12_drawn [vO 0, vI x1, vI x2, vI x3] M1 (fun r2 M2 => P r1 r2 M2)) := by
  refine Ok_use (fun hMM _ => ?_)
  have hx11 : sd M 11 ≤ 2147483647 := (inI_26 (i := 11) hMM).2
  have hx0 : 0 ≤ sd M 11 := LO.2.2.2.2.1
  have hM : AhP M M := ⟨fun _ _ _ _ _ _ => rfl, R⟩
  have k5 := K.2.2.2.2.1
  have k8 := K.2.2.2.2.2.1
  have k16 := K.2.1
  have k0 := K.1
  have htop := top_of H K
  have e0 : M 0 26 0 = sd M 0 := rfl
  have no : ¬ (0 ≤ x1 ∧ x1 < M 0 2 0 ∧ sd M 0 ≠ 0 ∧ 1 ≤ x2 ∧ x2 ≤ 20 ∧ 0 ≤ x3 ∧ x3 ≤ 1) → OkI G (n + 6) mX12_drawn [vO 0, vI x1, vI x2, vI x3] M (fun r2 M2 => P (-1) r2 M2) := by
    intro z
    refine eX12_drawn (fun Kz => bX12_drawn_0 (c12_isRule (fun a b => ⟨fun w => absurd w (by decide), fun _ => ?_⟩) (fun a => ⟨fun _ => h _ M hM, fun w => absurd rfl w⟩)))
    rw [e0]
    exact ⟨fun _ => h _ M hM, fun e => c12_in (fun c d => ⟨fun w => absurd w (by decide), fun _ => c12_in (fun c1 d1 => absurd ⟨a, b, e, c, d, c1, d1⟩ z) (fun c => ⟨fun w => absurd rfl w, fun _ => h _ M hM⟩)⟩) (fun c => ⟨fun _ => h _ M hM, fun w => absurd rfl w⟩)⟩
  have g40 : M 4 0 0 = sd M 0 := H.1
  refine eX11_drawn (fun Kx => bX11_drawn_0 (c11_ruleTold R (fun k hx hk hk2 => ?_) (fun a => ?_)))
  rotate_left
  · rw [g40]
    exact ⟨fun _ => no (fun z => a ⟨z.1, z.2.1⟩), fun _ => ⟨fun _ => no (fun z => a ⟨z.1, z.2.1⟩), fun c hc => absurd hc (by simp)⟩⟩
  rw [g40]
  refine ⟨fun w => no (fun z => z.2.2.1 w), fun hr0 => ⟨fun w => absurd w (by simp), fun c hc => ⟨fun w => no (by omega), fun a1 => ⟨fun w => no (by omega), fun a2 => ⟨fun w => no (by omega), fun a3 => ⟨fun a4 => ?_, fun w => no (by omega)⟩⟩⟩⟩⟩⟩
  have hr : 0 < sd M 0 := by omega
  obtain ⟨r1, r2, r3, r4⟩ := id R
  obtain ⟨q1, ρ, q2, q3, q4⟩ := r4 k hk2
  have g60 : M 6 0 0 = sd M 11 := L.1
  rw [g60]
  have ok := drI_ok (ρ := ρ) (w := x3) K hx0 hx11 hr htop
  -- the reference, behind the class
  have two : ∀ M1, EqO2 8 (15 + k) M M1 → RuC ρ (M1 (15 + k)) → OkI G (n + 6) mX12_drawn [vO 0, vI x1, vI x2, vI x3] M1 (fun r2 M2 => P (drI ρ (sd M) (sd M 11) x3 x2.toNat).2.2 r2 M2) := by
    intro M1 hE1 i2
    have o0 : M1 0 = M 0 := hE1 0 (by decide) (by omega)
    have hs1 : sd M1 = sd M := by funext i; show M1 0 26 _ = M 0 26 _; rw [o0]
    have hR1 : RuM ρ M1 k := by unfold RuM; rw [o0]; exact q3
    refine eX12_drawn (fun Kz => bX12_drawn_0 (c12_isRule (fun u v => ⟨fun w => absurd w (by decide), fun _ => ?_⟩) (fun c => absurd ⟨by omega, by rw [o0]; omega⟩ c)))
    rw [show M1 0 26 0 = sd M 0 by rw [o0]; rfl]
    refine ⟨fun w => absurd w hr0, fun _ => c12_in (fun c d => ⟨fun w => absurd w (by decide), fun _ => c12_in (fun c1 d1 => ⟨fun _ => ?_, fun w => absurd w (by decide)⟩) (fun c => absurd ⟨by omega, by omega⟩ c)⟩) (fun c => absurd ⟨by omega, by omega⟩ c)⟩
    refine c12_keeps (fun Mk m1 m2 => ?_)
    have hsk : sd Mk = sd M := (m1.sd (by decide)).trans hs1
    have hRk : RuM ρ Mk k := by
      unfold RuM
      rw [m1.fld (o := 0) (k := 3) (by decide), m1.fld (o := 0) (k := 5) (by decide), m1.fld (o := 0) (k := 6) (by decide)]; exact hR1
    rw [show Mk 0 26 11 = sd M 11 by rw [← hsk]; rfl]
    have days : ∀ (j : Nat) (Mc : Mem), j ≤ x2.toNat → (EqX dyF Mk Mc ∧ sd Mc = (drI ρ (sd M) (sd M 11) x3 j).1) → CW G Kz mX12_drawn (n + 6) 61 [some (vO 0), some (vI x1), some (vI x2), some (vI x3), some (vL (drI ρ (sd M) (sd M 11) x3 j).2.1), none, some (vI (drI ρ (sd M) (sd M 11) x3 j).2.2), some (vI (j : Int)), none] [] Mc (qI (fun r2 M2 => P (drI ρ (sd M) (sd M 11) x3 x2.toNat).2.2 r2 M2)) := by
      refine up_ind (fun Mc i => ?_) (fun j Mc hj i ih => ?_)
      · obtain ⟨j1, j2⟩ := i
        refine bX12_drawn_61 ⟨fun _ => c12_putsBack (fun M2 b1 b2 b3 => h _ M2 (ah_end R hk q2 hE1 i2 m1 m2 j1 j2 (ok x2.toNat).1 b1 b2 b3)), fun z => absurd (by omega) z⟩
      · obtain ⟨j1, j2⟩ := i
        obtain ⟨a, ⟨b0, b1⟩, c0, c1⟩ := ok j
        have ih' : ∀ M', EqX dyF Mk M' → sd M' = mnI ρ (dwK (drI ρ (sd M) (sd M 11) x3 j).1 (drI ρ (sd M) (sd M 11) x3 j).2.1 (sd M 2).toNat).1 1440 → CW G Kz mX12_drawn (n + 6) 61 [some (vO 0), some (vI x1), some (vI x2), some (vI x3), some (vL (dwK (drI ρ (sd M) (sd M 11) x3 j).1 (drI ρ (sd M) (sd M 11) x3 j).2.1 (sd M 2).toNat).2), none, some (vI ((drI ρ (sd M) (sd M 11) x3 j).2.2 + tlS (mnI ρ (dwK (drI ρ (sd M) (sd M 11) x3 j).1 (drI ρ (sd M) (sd M 11) x3 j).2.1 (sd M 2).toNat).1 1440) x3)), some (vI ((j + 1 : Nat) : Int)), none] [] M' (qI (fun r2 M2 => P (drI ρ (sd M) (sd M 11) x3 x2.toNat).2.2 r2 M2)) := fun M' u v => by
          simp only [drI_s] at ih
          exact ih M' ⟨u, v⟩
        clear ih
        generalize (drI ρ (sd M) (sd M 11) x3 x2.toNat).2.2 = ans at *
        generalize (drI ρ (sd M) (sd M 11) x3 j).1 = r at *
        generalize (drI ρ (sd M) (sd M 11) x3 j).2.1 = y at *
        generalize (drI ρ (sd M) (sd M 11) x3 j).2.2 = u at *
        have er2 := a.e2
        have er0 := a.e0
        have Kr := a.he.ok K
        have hrr : 0 < r 0 := by omega
        have htr : 0 < r 2 → isTop r (M 4 3 0) := fun q => a.top K (htop (by rw [er2] at q; exact q))
        have dok := day_ok (ρ := ρ) (s := r) (x := y) Kr b0 b1 hrr htr
        rw [er2] at dok
        have wj : ∀ {P : Prop}, (wr ((j : Int) + 1) = ((j + 1 : Nat) : Int) → P) → P := fun f => f (wr_n (b := 30) (k := j) (by omega) (by omega))
        refine bX12_drawn_61 ⟨fun z => absurd z (by omega), fun _ M2 m2 => ?_⟩
        -- minutes
        have mins : ∀ (i : Nat) (M3 : Mem), i ≤ 1440 → (EqX dyF Mk M3 ∧ sd M3 = mnI ρ (dwK r y (sd M 2).toNat).1 i) → CW G Kz mX12_drawn (n + 6) 131 [some (vO 0), some (vI x1), some (vI x2), some (vI x3), some (vL (dwK r y (sd M 2).toNat).2), none, some (vI u), some (vI (j : Int)), none] [] M3 (qI (fun r2 M2 => P ans r2 M2)) := by
          refine up_ind (fun M3 p => ?_) (fun i M3 hi p ihm => ?_)
          · obtain ⟨p1, p2⟩ := p
            obtain ⟨v1, v2, v3⟩ := dok 1440 (by decide)
            have g3 : M3 0 26 3 = 1440 := by
              have : sd M3 3 = mnI ρ (dwK r y (sd M 2).toNat).1 1440 3 := by rw [p2]
              rw [v3] at this; exact this
            have f2 := v2.e2
            have ihf := ih' M3 p1 p2
            clear ih' dok
            generalize mnI ρ (dwK r y (sd M 2).toNat).1 1440 = q at *
            have h8 := tlS_rng (s := q) (w := x3) (by omega) (by omega)
            refine bX12_drawn_131 ?_
            refine wj (fun wj => ?_)
            rw [g3, wj]
            clear wj
            refine ⟨fun _ => ⟨fun z => ?_, fun z => ?_⟩, fun z => absurd (by decide) z⟩
            · have e : x3 = 1 := by omega
              refine c12_onTheWay p2 (by omega) (by omega) ?_
              rw [e] at ihf h8 ⊢
              rw [wrs (by omega) (by omega)]
              exact ihf
            · refine c12_atHome p2 (by omega) (by omega) ?_
              rw [z] at ihf h8 ⊢
              rw [wrs (by omega) (by omega)]
              exact ihf
          · obtain ⟨p1, p2⟩ := p
            obtain ⟨v1, v2, v3⟩ := dok i (by omega)
            have g3 : M3 0 26 3 = (i : Int) := by
              have : sd M3 3 = mnI ρ (dwK r y (sd M 2).toNat).1 i 3 := by rw [p2]
              rw [v3] at this; exact this
            refine bX12_drawn_131 ?_
            rw [g3]
            refine ⟨fun z => absurd z (by omega), fun _ => ?_⟩
            rw [hx]
            refine c12_minute hk p2 (v2.he.ok Kr) v1 (by omega) (fun q => v2.top Kr (htr (by rw [v2.e2] at q; exact q))) (RuM_cg hRk p1) q4 (fun M4 t1 t2 => ?_)
            rw [← hx]
            exact ihm M4 ⟨p1.trans t1, t2⟩
        have pers : ∀ (i : Nat) (M3 : Mem), i ≤ (sd M 2).toNat → (EqX dyF Mk M3 ∧ sd M3 = (dwK r y i).1) → CW G Kz mX12_drawn (n + 6) 77 [some (vO 0), some (vI x1), some (vI x2), some (vI x3), some (vL (dwK r y i).2), none, some (vI u), some (vI (j : Int)), some (vI (i : Int))] [] M3 (qI (fun r2 M2 => P ans r2 M2)) := by
          refine up_ind (fun M3 p => ?_) (fun i M3 hi p ihp => ?_)
          · obtain ⟨p1, p2⟩ := p
            obtain ⟨v1, v2, v3⟩ := dwK_ok (s := r) b0 b1 hrr (sd M 2).toNat (by omega)
            have g2 : M3 0 26 2 = sd M 2 := by
              have : sd M3 2 = (dwK r y (sd M 2).toNat).1 2 := by rw [p2]
              rw [v1.e2, er2] at this; exact this
            refine bX12_drawn_77 ?_
            rw [g2]
            exact ⟨fun _ => mins 0 M3 (by omega) ⟨p1, p2⟩, fun z => absurd (by omega) z⟩
          · obtain ⟨p1, p2⟩ := p
            obtain ⟨v1, v2, v3⟩ := dwK_ok (s := r) b0 b1 hrr i (by omega)
            obtain ⟨y1, y2⟩ := dwK_x (s := r) b0 b1 i
            have hd' := drX_rng y1
            have g2 : M3 0 26 2 = sd M 2 := by
              have : sd M3 2 = (dwK r y i).1 2 := by rw [p2]
              rw [v1.e2, er2] at this; exact this
            have g0 : M3 0 26 0 = r 0 := by
              have : sd M3 0 = (dwK r y i).1 0 := by rw [p2]
              rw [v1.e0] at this; exact this
            refine bX12_drawn_77 ?_
            rw [g2, g0, drX_wl y1 y2, drR_m hd'.1 hd'.2 hrr (by omega), wr_n (b := 9) (k := i) (by omega) (by omega)]
            exact ⟨fun z => absurd z (by omega), fun _ => ⟨by omega, c12_begins p2 (by omega) (fun M4 t1 t2 => ihp M4 ⟨p1.trans (t1.sub (by decide)), t2⟩)⟩⟩
        refine pers 0 M2 (by omega) ⟨by rw [m2]; exact j1.trans (EqX.mset (by decide)), ?_⟩
        show sd M2 = us r 3 0
        rw [m2, ← j2]
        exact sd_us (M := Mc) (k := 3) (v := 0) (by decide)
    exact days 0 Mk (by omega) ⟨EqX.rf, hsk⟩
  -- the class
  have days : ∀ (j : Nat) (Mc : Mem), j ≤ x2.toNat → (EqO2 8 (15 + k) M Mc ∧ RuC ρ (Mc (15 + k))) → CW G Kx mX11_drawn (n + 6) 65 [some (vO 1), none, some (vI x2), some (vI x3), some (vO (15 + k)), some (vI (drI ρ (sd M) (sd M 11) x3 j).2.1), some (vI (drI ρ (sd M) (sd M 11) x3 j).2.2), some (vI (j : Int))] [] Mc (qI (fun r1 M1 => OkI G (n + 6) mX12_drawn [vO 0, vI x1, vI x2, vI x3] M1 (fun r2 M2 => P r1 r2 M2))) := by
    refine up_ind (fun Mc i => ?_) (fun j Mc hj i ih => ?_)
    · exact bX11_drawn_65 ⟨fun _ => two Mc i.1 i.2, fun z => absurd (by omega) z⟩
    · obtain ⟨j1, j2⟩ := i
      obtain ⟨a, ⟨b0, b1⟩, c0, c1⟩ := ok j
      have ih' : ∀ M', EqO2 8 (15 + k) M M' → RuC ρ (M' (15 + k)) → CW G Kx mX11_drawn (n + 6) 65 [some (vO 1), none, some (vI x2), some (vI x3), some (vO (15 + k)), some (vI (dwK (drI ρ (sd M) (sd M 11) x3 j).1 (drI ρ (sd M) (sd M 11) x3 j).2.1 (sd M 2).toNat).2), some (vI ((drI ρ (sd M) (sd M 11) x3 j).2.2 + tlS (mnI ρ (dwK (drI ρ (sd M) (sd M 11) x3 j).1 (drI ρ (sd M) (sd M 11) x3 j).2.1 (sd M 2).toNat).1 1440) x3)), some (vI ((j + 1 : Nat) : Int))] [] M' (qI (fun r1 M1 => OkI G (n + 6) mX12_drawn [vO 0, vI x1, vI x2, vI x3] M1 (fun r2 M2 => P r1 r2 M2))) := fun M' u v => by
          simp only [drI_s] at ih
          exact ih M' ⟨u, v⟩
      clear ih
      generalize (drI ρ (sd M) (sd M 11) x3 j).1 = r at *
      generalize (drI ρ (sd M) (sd M 11) x3 j).2.1 = y at *
      generalize (drI ρ (sd M) (sd M 11) x3 j).2.2 = u at *
      have er2 := a.e2
      have er0 := a.e0
      have Kr := a.he.ok K
      have hrr : 0 < r 0 := by omega
      have htr : 0 < r 2 → isTop r (M 4 3 0) := fun q => a.top K (htop (by rw [er2] at q; exact q))
      have dok := day_ok (ρ := ρ) (s := r) (x := y) Kr b0 b1 hrr htr
      obtain ⟨v1, v2, v3⟩ := dwK_ok (s := r) b0 b1 hrr (r 2).toNat (by omega)
      have m4 : ∀ M', EqO2 8 (15 + k) M M' → M' 4 = M 4 := fun M' e => e 4 (by decide) (by omega)
      have wj : ∀ {P : Prop}, (wr ((j : Int) + 1) = ((j + 1 : Nat) : Int) → P) → P := fun f => f (wr_n (b := 30) (k := j) (by omega) (by omega))
      refine bX11_drawn_65 ⟨fun z => absurd z (by omega), fun _ => ?_⟩
      refine c0_beginDrawn (d := 8) (s := r) rfl (by rw [m4 Mc j1]; exact a.he.hr K H) Kr hrr b0 b1 (fun Ma t1 t2 => ?_)
      have hEa : EqO2 8 (15 + k) M Ma := j1.trans t1.two
      have ka : Ma (15 + k) = Mc (15 + k) := t1 _ (by omega)
      have dd := dwK_D (s := r) (x := y) b0 b1 hrr (by omega) (by omega) (by have := Kr.hoist; omega)
      refine c0_pass (N := 1440) (o := 15 + k) (d := 8) (s := (dwK r y (r 2).toNat).1) (oc_rule hk) rfl (by rw [m4 Ma hEa]; exact (a.trans v1).he.hr K H) (v1.he.ok Kr) t2 dd.1 (fun q => v1.top Kr (htr (by rw [v1.e2] at q; exact q))) (by rw [v2]; decide) (by rw [ka]; exact j2) q4 (fun Mb w1 w2 w3 => ?_)
      have hEb := hEa.trans w1
      obtain ⟨z1, z2, z3⟩ := dok 1440 (by decide)
      have ze2 := z2.e2
      have ihf := ih' Mb hEb w2
      rw [← er2] at ihf
      clear ih' dok
      generalize mnI ρ (dwK r y (r 2).toNat).1 1440 = q at *
      refine c0_tally (s := q) rfl (by rw [m4 Mb hEb]; exact (a.trans z2).he.hr K H) (z2.he.ok Kr) w3 z1.1 (by omega) (by omega) ?_
      have h8 := tlS_rng (s := q) (w := x3) (by omega) (by omega)
      rw [wrs (x := u + tlS q x3) (by omega) (by omega)]
      refine wj (fun wj => ?_)
      rw [wj]
      clear wj
      exact ihf
  exact days 0 M (by omega) ⟨EqO2.rf, q2⟩
end DRW
