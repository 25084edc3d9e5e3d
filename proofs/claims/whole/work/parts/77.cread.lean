/-! ===== the class reads a test ===== -/
section CRT
variable {G : Gx} {n : Nat} {M M' : Mem} {b : Nat → Int} {L f m l o a : Nat} {u : Nat → Int} {σ τ : List Int}
abbrev wrF (o : Nat) : List (Nat × Nat) := (o, 2) :: (o - 6, 5) :: (o - 6, 6) :: rdF
abbrev EqW (o : Nat) (M M' : Mem) : Prop := EqX (wrF o) M M'
theorem EqW.tk (e : EqX tkF M M') : EqW o M M' := e.sub (fun c hc => List.mem_cons_of_mem _ (List.mem_cons_of_mem _ (List.mem_cons_of_mem _ (List.mem_cons_of_mem _ hc))))
theorem EqW.f7 (e : EqX [(2, 7)] M M') : EqW o M M' := e.sub (fun c hc => by rw [List.mem_singleton.mp hc]; simp)
def RelC (b : Nat → Int) (L o : Nat) (M : Mem) (f m l : Nat) (u : Nat → Int) : Prop := Tk b L M f ∧ M o 2 0 = (m : Int) ∧ M (o - 6) 6 0 = (l : Int) ∧ M (o - 6) 5 = u
theorem o2 (ho : oc o = 7) (hr : oc (o - 6) = 6) : o ≠ 2 ∧ o - 6 ≠ 2 ∧ o ≠ o - 6 := ⟨fun e => by rw [e] at ho; exact absurd ho (by decide), fun e => by rw [e] at hr; exact absurd hr (by decide), fun e => by rw [← e, ho] at hr; exact absurd hr (by decide)⟩
theorem RelC.tk (R : RelC b L o M f m l u) (ho : oc o = 7) (hr : oc (o - 6) = 6) (e : EqX tkF M M') {f' : Nat} (T : Tk b L M' f') : RelC b L o M' f' m l u := by
  obtain ⟨q1, q2, -⟩ := o2 ho hr
  obtain ⟨-, r1, r2, r3⟩ := R
  have k2 : ∀ c ∈ tkF, c.1 = 2 := by decide
  have e1 : M' o = M o := e.obj (fun c hc => by rw [k2 c hc]; exact fun z => q1 z.symm)
  have e2 : M' (o - 6) = M (o - 6) := e.obj (fun c hc => by rw [k2 c hc]; exact fun z => q2 z.symm)
  exact ⟨T, by rw [e1]; exact r1, by rw [e2]; exact r2, by rw [e2]; exact r3⟩
theorem c6_put {Q : Int → Mem → Prop} {v : Int} (ho : oc o = 7) (hr : oc (o - 6) = 6) (R : RelC b L o M f m l u) (hl : l < 400) (h : ∀ M', EqW o M M' → RelC b L o M' f m (l + 1) (upN u l v) → Q 1 M') : OkI G n mX6_put [vO (o - 6), vI v] M Q := by
  obtain ⟨q1, q2, q3⟩ := o2 ho hr
  obtain ⟨T, r1, r2, r3⟩ := R
  refine eX6_put (fun Kx => bX6_put_0 hr ?_)
  rw [r2]
  refine ⟨fun z => absurd z (by omega), fun _ => ⟨⟨by omega, by omega⟩, fun M1 m1 M2 m2 => ?_⟩⟩
  rw [Int.toNat_natCast] at m1
  have g : M1 (o - 6) 6 0 = (l : Int) := by rw [m1, mset_ne (by simp)]; exact r2
  rw [g, wr_nat (j := l) (by omega)] at m2
  refine h M2 ?_ ⟨?_, ?_, ?_, ?_⟩
  · rw [m2, m1]; exact (EqX.mset (by simp)).trans (EqX.mset (by simp))
  · rw [m2, m1]; exact (T.mset q2).mset q2
  · rw [m2, mset_ne (fun z => q3 z.1), m1, mset_ne (fun z => q3 z.1)]; exact r1
  · rw [m2, mset_self]
  · funext i
    rw [m2, mset_ne (by simp), m1, mset_fn, r3]; rfl
theorem c7_countPart {Q : Int → Mem → Prop} (ho : oc o = 7) (hr : oc (o - 6) = 6) (R : RelC b L o M f m l u) (hm : m ≤ 60) (ht : m ≠ 60 → ∀ M', EqW o M M' → RelC b L o M' f (m + 1) l u → Q 1 M') (hf : m = 60 → ∀ M', EqW o M M' → M' 2 7 0 = 1 + 8 * (f : Int) + 3 → Q 0 M') : OkI G (n + 1) mX7_countPart [vO o] M Q := by
  obtain ⟨q1, q2, q3⟩ := o2 ho hr
  obtain ⟨T, r1, r2, r3⟩ := R
  refine eX7_countPart (fun Kx => bX7_countPart_0 ho (fun M1 m1 => ?_))
  rw [r1, wr_nat (j := m) (by omega)] at m1
  have g : M1 o 2 0 = ((m + 1 : Nat) : Int) := by rw [m1, mset_self]
  have T1 : Tk b L M1 f := by rw [m1]; exact T.mset q1
  have E1 : EqW o M M1 := by rw [m1]; exact EqX.mset (by simp)
  rw [g]
  refine ⟨fun z => ht (by omega) M1 E1 ⟨T1, g, ?_, ?_⟩, fun z => c9_refuse T1 (by decide) (fun M2 e2 g2 => ⟨fun _ => hf (by omega) M2 (E1.trans (EqW.f7 e2)) g2, fun w => absurd rfl w⟩)⟩
  · rw [m1, mset_ne (fun z => q3 z.1.symm)]; exact r2
  · funext i; rw [m1, mset_ne (fun z => q3 z.1.symm), r3]
theorem c7_valueWord {Q : Int → Mem → Prop} (ho : oc o = 7) (T : Tk b L M f) (h : Q (vw b L f) M) : OkI G (n + 5) mX7_valueWord [vO o] M Q := by
  unfold vw at h
  refine eX7_valueWord (fun Kx => bX7_valueWord_0 ho ?_)
  refine c9_isWord (by decide) T (fun w => ⟨fun z => absurd z (by decide), fun _ => by rw [cI_t w] at h; exact h⟩) (fun w => ⟨fun _ => ?_, fun z => absurd rfl z⟩)
  rw [cI_f w] at h
  refine c9_isWord (by decide) T (fun w => ⟨fun z => absurd z (by decide), fun _ => by rw [cI_t w] at h; exact h⟩) (fun w => ⟨fun _ => ?_, fun z => absurd rfl z⟩)
  rw [cI_f w] at h
  refine c9_isWord (by decide) T (fun w => ⟨fun z => absurd z (by decide), fun _ => by rw [cI_t w] at h; exact h⟩) (fun w => ⟨fun _ => ?_, fun z => absurd rfl z⟩)
  rw [cI_f w] at h
  refine c9_isWord (by decide) T (fun w => ⟨fun z => absurd z (by decide), fun _ => by rw [cI_t w] at h; exact h⟩) (fun w => ⟨fun _ => ?_, fun z => absurd rfl z⟩)
  rw [cI_f w] at h
  refine c9_isWord (by decide) T (fun w => ⟨fun z => absurd z (by decide), fun _ => by rw [cI_t w] at h; exact h⟩) (fun w => ⟨fun _ => ?_, fun z => absurd rfl z⟩)
  rw [cI_f w] at h
  refine c9_isWord (by decide) T (fun w => ⟨fun z => absurd z (by decide), fun _ => by rw [cI_t w] at h; exact h⟩) (fun w => ⟨fun _ => ?_, fun z => absurd rfl z⟩)
  rw [cI_f w] at h
  refine c9_isWord (by decide) T (fun w => ⟨fun z => absurd z (by decide), fun _ => by rw [cI_t w] at h; exact h⟩) (fun w => ⟨fun _ => ?_, fun z => absurd rfl z⟩)
  rw [cI_f w] at h
  refine c9_isWord (by decide) T (fun w => ⟨fun z => absurd z (by decide), fun _ => by rw [cI_t w] at h; exact h⟩) (fun w => ⟨fun _ => ?_, fun z => absurd rfl z⟩)
  rw [cI_f w] at h; exact h
theorem c7_reckoning {Q : Int → Mem → Prop} (ho : oc o = 7) (T : Tk b L M f) (h : Q (rk b L f) M) : OkI G (n + 1) mX7_reckoning [vO o] M Q := by
  obtain ⟨t0, t1, t2, t3, t4, t5, t6, -⟩ := T
  refine eX7_reckoning (fun Kx => bX7_reckoning_0 ho ?_)
  rw [t4, t5]
  unfold rk at h
  refine ⟨fun z => c9_byteAt t0 t1 t2 ?_, fun z => ?_⟩
  · have hl := (kd_3.mp z).1
    have e : byA b L f = b f := by unfold byA; rw [if_pos hl]
    rw [if_pos hl] at h
    rw [e]
    refine ⟨fun w => ?_, fun w => ?_, fun w => ?_, fun w => ?_, fun w => ?_, fun w => ?_, fun w => ?_⟩
    · rw [if_neg (by omega), if_neg (by omega), if_neg (by omega), if_neg (by omega)] at h; exact h
    · rw [if_pos w] at h; exact h
    · rw [if_neg (by omega), if_pos w] at h; exact h
    · rw [if_neg (by omega), if_neg (by omega), if_neg (by omega), if_neg (by omega)] at h; exact h
    · rw [if_neg (by omega), if_neg (by omega), if_pos w] at h; exact h
    · rw [if_neg (by omega), if_neg (by omega), if_neg (by omega), if_neg (by omega)] at h; exact h
    · rw [if_neg (by omega), if_neg (by omega), if_neg (by omega), if_pos w] at h; exact h
  · by_cases hl : f < L
    · rw [if_pos hl] at h
      have key : ∀ c : Int, ¬ pL c = true → ¬ pD c = true → b f ≠ c := fun c x y e => z (kd_3.mpr ⟨hl, by rw [e]; exact x, by rw [e]; exact y⟩)
      rw [if_neg (key 42 (by decide) (by decide)), if_neg (key 43 (by decide) (by decide)), if_neg (key 45 (by decide) (by decide)), if_neg (key 47 (by decide) (by decide))] at h; exact h
    · rw [if_neg hl] at h; exact h
theorem c7_comparison {Q : Int → Mem → Prop} (ho : oc o = 7) (T : Tk b L M f) (h : Q (cp b L f) M) : OkI G (n + 1) mX7_comparison [vO o] M Q := by
  obtain ⟨t0, t1, t2, t3, t4, t5, t6, -⟩ := T
  have hbr := bh_rng (b := b) t3
  refine eX7_comparison (fun Kx => bX7_comparison_0 ho ?_)
  rw [t4, t5, t6, wrs (x := ((bh b L f : Nat) : Int) - (f : Int)) (by omega) (by omega)]
  unfold cp at h
  refine ⟨fun z => ?_, fun z => ?_⟩
  · have hl := (kd_3.mp z).1
    have e : byA b L f = b f := by unfold byA; rw [if_pos hl]
    rw [if_pos hl] at h
    have go : ∀ z0 : Int, (z0 = 0 ↔ ¬ bh b L f = f + 2) → CW G Kx mX7_comparison (n + 1) 37 [some (vO o), none] [vI z0] M (qI Q) := by
      intro z0 hz
      refine bX7_comparison_37 ho ?_
      rw [t5]
      refine c9_byteAt t0 t1 t2 ?_
      rw [e]
      refine ⟨fun w => ?_, fun w => ⟨fun y => ?_, fun y => ?_⟩, fun w => ?_, fun w => ⟨fun y => ?_, fun y => ?_⟩⟩
      · rw [if_neg (by omega), if_neg (by omega), if_neg (by omega)] at h; exact h
      · rw [if_pos w, if_neg (hz.mp y)] at h; exact h
      · rw [if_pos w, if_pos (Classical.byContradiction (fun q => y (hz.mpr q)))] at h; exact h
      · rw [if_neg (by omega), if_pos w] at h; exact h
      · rw [if_neg (by omega), if_neg (by omega), if_pos w, if_neg (hz.mp y)] at h; exact h
      · rw [if_neg (by omega), if_neg (by omega), if_pos w, if_pos (Classical.byContradiction (fun q => y (hz.mpr q)))] at h; exact h
    exact ⟨fun y => go 0 ⟨fun _ q => by omega, fun _ => rfl⟩, fun y => go 1 ⟨fun q => absurd q (by decide), fun q => absurd (by omega) q⟩⟩
  · by_cases hl : f < L
    · rw [if_pos hl] at h
      have key : ∀ c : Int, ¬ pL c = true → ¬ pD c = true → b f ≠ c := fun c x y e => z (kd_3.mpr ⟨hl, by rw [e]; exact x, by rw [e]; exact y⟩)
      rw [if_neg (key 60 (by decide) (by decide)), if_neg (key 61 (by decide) (by decide)), if_neg (key 62 (by decide) (by decide))] at h; exact h
    · rw [if_neg hl] at h; exact h
theorem c7_readValue {Q : Int → Mem → Prop} (ho : oc o = 7) (hr : oc (o - 6) = 6) (R : RelC b L o M f m l u) (I : MIv b L a 1 f m l u τ) (ht : ∀ M' f' m' l' u', EqW o M M' → RelC b L o M' f' m' l' u' → stp b L (1, f, m, l, u, τ, 0) = (2, f', m', l', u', τ, 0) → f < f' → Q 1 M') (hf : ∀ M' φ, EqW o M M' → M' 2 7 0 = φ → stp b L (1, f, m, l, u, τ, 0) = flt φ → Q 0 M') : OkI G (n + 6) mX7_readValue [vO o] M Q := by
  obtain ⟨i1, i2, i3, i4, i5, i6, i7, -⟩ := id I
  have T := R.1
  have hL := T.2.2.1
  have hn := nx_rng (b := b) i1
  rw [stp_1] at ht hf
  unfold s1 at ht hf
  refine eX7_readValue (fun Kx => bX7_readValue_0 ho hr (c7_valueWord ho T ⟨fun z => ?_, fun z => ?_⟩))
  · have hv := vw_rng (b := b) (L := L) (f := f)
    have h0 : 0 ≤ vw b L f := by omega
    have hlt := (vw_lt h0).1
    rw [if_pos h0] at ht hf
    refine c7_countPart ho hr R i7 (fun y M1 e1 R1 => ⟨fun _ => ?_, fun w => absurd w (by decide)⟩) (fun y M1 e1 g => ⟨fun w => absurd rfl w, fun _ => ?_⟩)
    · rw [if_neg y] at ht
      refine R1.1.adv (fun M2 e2 T2 => c6_put ho hr (R1.tk ho hr e2 T2) (by omega) (fun M3 e3 R3 => ⟨Or.inr rfl, ht M3 _ _ _ _ ((e1.trans (EqW.tk e2)).trans e3) R3 rfl (hn.2.2 hlt)⟩))
    · rw [if_pos y] at hf
      exact hf M1 _ e1 g rfl
  · rw [if_neg (by omega)] at ht hf
    refine c9_isNumber T (fun y => ⟨fun _ => ?_, fun w => absurd w (by decide)⟩) (fun y M1 e1 g => ⟨fun w => absurd rfl w, fun _ => ?_⟩)
    · rw [if_pos y] at ht hf
      obtain ⟨hk, -, v0, v1⟩ := nF_ok y
      have hlt := (kd_2.mp hk).1
      rw [(T.2.2.2.2.2.2.2.1 hk).2, wrs (x := 100 + nv b L f) (by omega) (by omega)]
      refine c7_countPart ho hr R i7 (fun y M1 e1 R1 => ⟨fun _ => ?_, fun w => absurd w (by decide)⟩) (fun y M1 e1 g => ⟨fun w => absurd rfl w, fun _ => ?_⟩)
      · rw [if_neg y] at ht
        refine R1.1.adv (fun M2 e2 T2 => c6_put ho hr (R1.tk ho hr e2 T2) (by omega) (fun M3 e3 R3 => ⟨Or.inr rfl, ht M3 _ _ _ _ ((e1.trans (EqW.tk e2)).trans e3) R3 rfl (hn.2.2 hlt)⟩))
      · rw [if_pos y] at hf
        exact hf M1 _ e1 g rfl
    · rw [if_neg y] at hf
      exact hf M1 _ (EqW.f7 e1) g rfl
/-- a sign that may wait -/
def pu (x : Int) (τ : List Int) : List Int := if x = -1 then τ else x :: τ
theorem pu_no : pu (-1) τ = τ := if_pos rfl
theorem pu_y {x : Int} (h : x ≠ -1) : pu x τ = x :: τ := if_neg h
theorem sC1_hd (h : sC1 τ) : hd τ ≠ 10 ∧ hd τ ≠ 11 ∧ hd τ ≠ 12 ∧ hd τ ≠ 13 := by
  rcases h with h | h
  · have := bse_hd h; omega
  · omega
theorem rk_cases {f : Nat} : rk b L f = -1 ∨ rk b L f = 10 ∨ rk b L f = 11 ∨ rk b L f = 12 ∨ rk b L f = 13 := by
  unfold rk
  split
  · split
    · omega
    · split
      · omega
      · split
        · omega
        · split <;> omega
  · omega
theorem c7_readSum {Q : Int → Mem → Prop} (ho : oc o = 7) (hr : oc (o - 6) = 6) (R : RelC b L o M f m l u) (I : MIv b L a 1 f m l u τ) (hτ : sC1 τ) (ht : ∀ M' f' m' l' u', EqW o M M' → RelC b L o M' f' m' l' u' → Rc b L (1, f, m, l, u, τ, 0) (2, f', m', l', u', τ, 0) → rk b L f' = -1 → f < f' → Q 1 M') (hf : ∀ M' φ, EqW o M M' → M' 2 7 0 = φ → Rc b L (1, f, m, l, u, τ, 0) (flt φ) → Q 0 M') : OkI G (n + 7) mX7_readSum [vO o] M Q := by
  have hL := R.1.2.2.1
  refine eX7_readSum (fun Kx => bX7_readSum_0 ?_)
  have loop : ∀ (c k f1 m1 l1 : Nat) (u1 : Nat → Int) (ss ts : Int) (Mc : Mem), L - f1 ≤ c → f ≤ f1 → k ≤ f1 → (ss = -1 ∨ ss = 10 ∨ ss = 11) → (ts = -1 ∨ ts = 12 ∨ ts = 13) → EqW o M Mc → RelC b L o Mc f1 m1 l1 u1 → MIv b L a 1 f1 m1 l1 u1 (pu ts (pu ss τ)) → Rc b L (1, f, m, l, u, τ, 0) (1, f1, m1, l1, u1, pu ts (pu ss τ), 0) → CW G Kx mX7_readSum (n + 7) 6 [some (vO o), some (vI ss), some (vI ts), some (vI (k : Int)), none] [] Mc (qI Q) := by
    intro c
    induction c with
    | zero =>
      intro k f1 m1 l1 u1 ss ts Mc hc hff hk hss hts E R1 I1 rc
      have e1 : f1 = L := by have := I1.1; omega
      refine bX7_readSum_6 ho hr ⟨fun z => ?_, fun z => ?_⟩
      · refine c9_refuse R1.1 (by decide) (fun M2 e2 g2 => ⟨Or.inl rfl, hf M2 _ (E.trans (EqW.f7 e2)) g2 (rc.then ?_)⟩)
        rw [stp_1]; unfold s1
        have hk0 : kd b L f1 = 0 := kd_0.mpr (by omega)
        have hv : ¬ 0 ≤ vw b L f1 := fun q => by have := (vw_lt q).1; omega
        have hn : nF b L f1 0 99999 = 1 + 8 * (f1 : Int) + 0 := by unfold nF; rw [if_neg (by omega)]
        rw [if_neg hv, hn, if_neg (by omega)]
      · refine c7_readValue ho hr R1 I1 (fun M2 f2 m2 l2 u2 e2 R2 s2' hlt => ?_) (fun M2 φ e2 g2 s2' => ⟨fun w => absurd rfl w, fun _ => hf M2 φ (E.trans e2) g2 (rc.then s2')⟩)
        have := R2.1.2.2.2.1
        omega
    | succ c ih =>
      intro k f1 m1 l1 u1 ss ts Mc hc hff hk hss hts E R1 I1 rc
      refine bX7_readSum_6 ho hr ⟨fun z => ?_, fun z => ?_⟩
      · have e1 : f1 = L := by have := I1.1; omega
        refine c9_refuse R1.1 (by decide) (fun M2 e2 g2 => ⟨Or.inl rfl, hf M2 _ (E.trans (EqW.f7 e2)) g2 (rc.then ?_)⟩)
        rw [stp_1]; unfold s1
        have hk0 : kd b L f1 = 0 := kd_0.mpr (by omega)
        have hv : ¬ 0 ≤ vw b L f1 := fun q => by have := (vw_lt q).1; omega
        have hn : nF b L f1 0 99999 = 1 + 8 * (f1 : Int) + 0 := by unfold nF; rw [if_neg (by omega)]
        rw [if_neg hv, hn, if_neg (by omega)]
      · refine c7_readValue ho hr R1 I1 (fun M2 f2 m2 l2 u2 e2 R2 s2' hlt => ⟨fun _ => ?_, fun w => absurd w (by decide)⟩) (fun M2 φ e2 g2 s2' => ⟨fun w => absurd rfl w, fun _ => hf M2 φ (E.trans e2) g2 (rc.then s2')⟩)
        have E2 := E.trans e2
        have rc2 := rc.then s2'
        have I2 : MIv b L a 2 f2 m2 l2 u2 (pu ts (pu ss τ)) := MIv_of (MIv_Rc (MIS_mk I1) (Rc.st s2' Rc.rf)) (by decide)
        -- behind the term's sign
        have go : ∀ (M3 : Mem) (l3 : Nat) (u3 : Nat → Int), EqW o M M3 → RelC b L o M3 f2 m2 l3 u3 → Rc b L (1, f, m, l, u, τ, 0) (2, f2, m2, l3, u3, pu ss τ, 0) → MIv b L a 2 f2 m2 l3 u3 (pu ss τ) → CW G Kx mX7_readSum (n + 7) 36 [some (vO o), some (vI ss), none, some (vI (k : Int)), none] [] M3 (qI Q) := by
          intro M3 l3 u3 E3 R3 rc3 I3
          obtain ⟨x1, x2, x3, x4⟩ := sC1_hd hτ
          have hps : hd (pu ss τ) ≠ 12 ∧ hd (pu ss τ) ≠ 13 := by
            rcases hss with q | q | q
            · rw [q, pu_no]; exact ⟨x3, x4⟩
            · rw [q, pu_y (by decide)]; exact ⟨by show (10 : Int) ≠ 12; decide, by show (10 : Int) ≠ 13; decide⟩
            · rw [q, pu_y (by decide)]; exact ⟨by show (11 : Int) ≠ 12; decide, by show (11 : Int) ≠ 13; decide⟩
          have hn2 := nx_rng (b := b) I3.1
          have s2e : stp b L (2, f2, m2, l3, u3, pu ss τ, 0) = s2 b L f2 m2 l3 u3 (pu ss τ) := stp_2
          -- a sign of a product: it waits
          have mul : ∀ r : Int, rk b L f2 = r → (r = 12 ∨ r = 13) → CW G Kx mX7_readSum (n + 7) 62 [some (vO o), some (vI ss), none, some (vI (k : Int)), some (vI r)] [vI r] M3 (qI Q) := by
            intro r hrk hr12
            have hs : s2 b L f2 m2 l3 u3 (pu ss τ) = (1, nx b L f2, m2, l3, u3, pu r (pu ss τ), 0) := by
              unfold s2
              rw [if_neg (by omega), hrk, if_pos hr12, pu_y (x := r) (by omega)]
            have hlt2 := rk_lt (b := b) (L := L) (f := f2) (by omega)
            refine bX7_readSum_62 ho hr ?_
            rw [wr_nat (j := k) (by omega)]
            refine ⟨fun _ => ⟨fun _ => R3.1.adv (fun M4 e4 T4 => ?_), fun w => absurd w (by omega)⟩, fun w => absurd w (by omega)⟩
            have st : stp b L (2, f2, m2, l3, u3, pu ss τ, 0) = (1, nx b L f2, m2, l3, u3, pu r (pu ss τ), 0) := s2e.trans hs
            exact ih (k + 1) _ _ _ _ ss r M4 (by omega) (by omega) (by omega) hss (Or.inr hr12) (E3.trans (EqW.tk e4)) (R3.tk ho hr e4 T4) (MIv_of (MIv_Rc (MIS_mk I3) (Rc.st st Rc.rf)) (by decide)) (rc3.then st)
          -- the sum's sign comes out
          have add : ∀ r : Int, rk b L f2 = r → ¬ (r = 12 ∨ r = 13) → CW G Kx mX7_readSum (n + 7) 62 [some (vO o), some (vI ss), none, some (vI (k : Int)), some (vI r)] [vI (-1)] M3 (qI Q) := by
            intro r hrk hr12
            have hrc : r = -1 ∨ r = 10 ∨ r = 11 := by have := rk_cases (b := b) (L := L) (f := f2); omega
            have next : ∀ (M4 : Mem) (l4 : Nat) (u4 : Nat → Int), EqW o M M4 → RelC b L o M4 f2 m2 l4 u4 → Rc b L (1, f, m, l, u, τ, 0) (2, f2, m2, l4, u4, τ, 0) → MIv b L a 2 f2 m2 l4 u4 τ → (¬ r = -1 → OkV G (n + 6) mX9_advance [vO 2] M4 (fun M5 => CW G Kx mX7_readSum (n + 7) 6 [some (vO o), some (vI r), some (vI (-1)), some (vI ((k + 1 : Nat) : Int)), none] [] M5 (qI Q))) ∧ (r = -1 → Q 1 M4) := by
              intro M4 l4 u4 E4 R4 rc4 I4
              refine ⟨fun hne => R4.1.adv (fun M5 e5 T5 => ?_), fun he => ht M4 f2 m2 l4 u4 E4 R4 rc4 (by rw [hrk, he]) (by omega)⟩
              have hlt2 := rk_lt (b := b) (L := L) (f := f2) (by omega)
              have st : stp b L (2, f2, m2, l4, u4, τ, 0) = (1, nx b L f2, m2, l4, u4, pu (-1) (pu r τ), 0) := by
                rw [stp_2]; unfold s2
                rw [if_neg (by omega), hrk, if_neg hr12, if_neg (by omega), if_pos (by omega), pu_no, pu_y (by omega)]
              exact ih (k + 1) _ _ _ _ r (-1) M5 (by omega) (by omega) (by omega) (by omega) (Or.inl rfl) (E4.trans (EqW.tk e5)) (R4.tk ho hr e5 T5) (MIv_of (MIv_Rc (MIS_mk I4) (Rc.st st Rc.rf)) (by decide)) (rc4.then st)
            refine bX7_readSum_62 ho hr ?_
            rw [wr_nat (j := k) (by omega)]
            refine ⟨fun w => absurd rfl w, fun _ => ⟨fun w => ?_, fun w => ?_⟩⟩
            · rw [w, pu_no] at rc3 I3
              exact next M3 l3 u3 E3 R3 rc3 I3
            · have hs10 : ss = 10 ∨ ss = 11 := by omega
              have st : stp b L (2, f2, m2, l3, u3, pu ss τ, 0) = (2, f2, m2, l3 + 1, upN u3 l3 ss, τ, 0) := by
                rw [stp_2, pu_y w]; unfold s2
                have eh : hd (ss :: τ) = ss := rfl
                rw [eh, if_neg (by omega), hrk, if_neg hr12, if_pos hs10]; rfl
              have hb := I3.2.2.1
              rw [pu_y w] at hb
              have hb' : l3 + (τ.length + 1) ≤ f2 := hb
              have hfL := I3.1
              exact c6_put ho hr R3 (by omega) (fun M4 e4 R4 => next M4 _ _ (E3.trans e4) R4 (rc3.then st) (MIv_of (MIv_Rc (MIS_mk I3) (Rc.st st Rc.rf)) (by decide)))
          refine bX7_readSum_36 ho (c7_reckoning ho R3.1 ⟨fun z => mul _ rfl (Or.inl z), fun z => ⟨fun y => add _ rfl (by omega), fun y => mul _ rfl (Or.inr y)⟩⟩)
        refine ⟨fun w => ?_, fun w => ?_⟩
        · rw [w, pu_no] at rc2 I2
          exact go M2 l2 u2 E2 R2 rc2 I2
        · have ht12 : ts = 12 ∨ ts = 13 := by omega
          have st : stp b L (2, f2, m2, l2, u2, pu ts (pu ss τ), 0) = (2, f2, m2, l2 + 1, upN u2 l2 ts, pu ss τ, 0) := by
            rw [stp_2, pu_y w]; unfold s2
            have eh : hd (ts :: pu ss τ) = ts := rfl
            rw [eh, if_pos ht12]; rfl
          have hb := I2.2.2.1
          rw [pu_y w] at hb
          have hb' : l2 + ((pu ss τ).length + 1) ≤ f2 := hb
          have hfL := I2.1
          exact c6_put ho hr R2 (by omega) (fun M3 e3 R3 => go M3 _ _ (E2.trans e3) R3 (rc2.then st) (MIv_of (MIv_Rc (MIS_mk I2) (Rc.st st Rc.rf)) (by decide)))
  exact loop (L - f) 0 f m l u (-1) (-1) M (Nat.le_refl _) (Nat.le_refl _) (Nat.zero_le _) (Or.inl rfl) (Or.inl rfl) EqX.rf R (by rw [pu_no, pu_no]; exact I) (by rw [pu_no, pu_no]; exact Rc.rf)
/-- a comparison's sign is kept in the reader itself: field 3 -/
abbrev EqV (o : Nat) (M M' : Mem) : Prop := EqX ((o, 3) :: wrF o) M M'
theorem EqV.w (e : EqW o M M') : EqV o M M' := e.sub (fun c hc => List.mem_cons_of_mem _ hc)
theorem EqV.tk (e : EqX tkF M M') : EqV o M M' := EqV.w (EqW.tk e)
theorem EqV.f7 (e : EqX [(2, 7)] M M') : EqV o M M' := EqV.w (EqW.f7 e)
theorem EqW.o3 (ho : oc o = 7) (hr : oc (o - 6) = 6) (e : EqW o M M') : M' o 3 0 = M o 3 0 := by
  obtain ⟨q1, q2, q3⟩ := o2 ho hr
  refine e o 3 0 (fun v => ?_)
  rcases List.mem_cons.mp v with v | v
  · exact absurd (congrArg Prod.snd v) (show ¬ (3 : Nat) = 2 by decide)
  rcases List.mem_cons.mp v with v | v
  · exact q3 (congrArg Prod.fst v)
  rcases List.mem_cons.mp v with v | v
  · exact q3 (congrArg Prod.fst v)
  have k2 : ∀ c ∈ rdF, c.1 = 2 := by decide
  exact q1 (k2 _ v)
theorem c7_readComparison {Q : Int → Mem → Prop} (ho : oc o = 7) (hr : oc (o - 6) = 6) (R : RelC b L o M f m l u) (hm : m ≤ 60) (ht : ¬ cp b L f = -1 → m ≠ 60 → ∀ M', EqV o M M' → RelC b L o M' (nx b L f) (m + 1) l u → M' o 3 0 = cp b L f → Q 1 M') (hf : ∀ M' φ, EqV o M M' → M' 2 7 0 = φ → ((cp b L f = -1 ∧ φ = 1 + 8 * (f : Int) + 0) ∨ (¬ cp b L f = -1 ∧ m = 60 ∧ φ = 1 + 8 * (f : Int) + 3)) → Q 0 M') : OkI G (n + 2) mX7_readComparison [vO o] M Q := by
  obtain ⟨q1, q2, q3⟩ := o2 ho hr
  refine eX7_readComparison (fun Kx => bX7_readComparison_0 ho (c7_comparison ho R.1 (fun M2 m2 => ?_)))
  have g : M2 o 3 0 = cp b L f := by rw [m2, mset_self]
  have E2 : EqV o M M2 := by rw [m2]; exact EqX.mset List.mem_cons_self
  have R2 : RelC b L o M2 f m l u := by
    obtain ⟨T, r1, r2, r3⟩ := R
    refine ⟨by rw [m2]; exact T.mset q1, by rw [m2, mset_ne (by simp)]; exact r1, by rw [m2, mset_ne (fun z => q3 z.1.symm)]; exact r2, ?_⟩
    funext i; rw [m2, mset_ne (fun z => q3 z.1.symm), r3]
  rw [g]
  refine ⟨fun z => c7_countPart ho hr R2 hm (fun y M3 e3 R3 => ⟨fun _ => R3.1.adv (fun M4 e4 T4 => ht z y M4 ((E2.trans (EqV.w e3)).trans (EqV.tk e4)) (R3.tk ho hr e4 T4) ?_), fun w => absurd w (by decide)⟩) (fun y M3 e3 g3 => ⟨fun w => absurd rfl w, fun _ => hf M3 _ (E2.trans (EqV.w e3)) g3 (Or.inr ⟨z, y, rfl⟩)⟩), fun z => c9_refuse R2.1 (by decide) (fun M3 e3 g3 => ⟨Or.inl rfl, hf M3 _ (E2.trans (EqV.f7 e3)) g3 (Or.inl ⟨z, rfl⟩)⟩)⟩
  rw [EqW.o3 ho hr (EqW.tk e4), EqW.o3 ho hr e3]; exact g
/-- a whole comparison: a sum, its sign, a sum, and the sign comes out -/
theorem c7_cmp3 {Q : Int → Mem → Prop} (ho : oc o = 7) (hr : oc (o - 6) = 6) (R : RelC b L o M f m l u) (I : MIv b L a 1 f m l u σ) (hσ : bse σ) (ht : ∀ M' f' m' l' u', EqV o M M' → RelC b L o M' f' m' l' u' → Rc b L (1, f, m, l, u, σ, 0) (3, f', m', l', u', σ, 0) → f < f' → Q 1 M') (hf : ∀ M' φ, EqV o M M' → M' 2 7 0 = φ → Rc b L (1, f, m, l, u, σ, 0) (flt φ) → Q 0 M') : OkI G (n + 7) mX7_readSum [vO o] M (fun r_3 M3 => (r_3 = 0 → Q 0 M3) ∧ (¬ (r_3 = 0) → OkI G (n + 7) mX7_readComparison [vO o] M3 (fun r_4 M4 => (r_4 = 0 → Q 0 M4) ∧ (¬ (r_4 = 0) → OkI G (n + 7) mX7_readSum [vO o] M4 (fun r_5 M5 => (r_5 = 0 → Q 0 M5) ∧ (¬ (r_5 = 0) → OkI G (n + 7) mX6_put [vO (o - 6), vI (M5 o 3 0)] M5 (fun r_6 M6 => (r_6 = 0 → Q 0 M6) ∧ (¬ (r_6 = 0) → Q 1 M6)))))))) := by
  have hL := R.1.2.2.1
  have hbh := bse_hd hσ
  refine c7_readSum ho hr R I (Or.inl hσ) (fun M1 f1 m1 l1 u1 e1 R1 rc1 hk1 hlt1 => ⟨fun w => absurd w (by decide), fun _ => ?_⟩) (fun M1 φ e1 g1 rc1 => ⟨fun _ => hf M1 φ (EqV.w e1) g1 rc1, fun w => absurd rfl w⟩)
  have I1 : MIv b L a 2 f1 m1 l1 u1 σ := MIv_of (MIv_Rc (MIS_mk I) rc1) (by decide)
  have base : stp b L (2, f1, m1, l1, u1, σ, 0) = if cp b L f1 = -1 then flt (1 + 8 * (f1 : Int) + 0) else if m1 = 60 then flt (1 + 8 * (f1 : Int) + 3) else (1, nx b L f1, m1 + 1, l1, u1, cp b L f1 :: σ, 0) := by
    rw [stp_2]; unfold s2
    rw [if_neg (by omega), if_neg (by omega), if_neg (by omega), if_neg (by omega), if_neg (by omega)]
  refine c7_readComparison (n := n + 5) ho hr R1 I1.2.2.2.2.2.2.1 (fun z y M3 e3 R3 g3 => ⟨fun w => absurd w (by decide), fun _ => ?_⟩) (fun M3 φ e3 g3 z => ⟨fun _ => hf M3 φ ((EqV.w e1).trans e3) g3 (rc1.then ?_), fun w => absurd rfl w⟩)
  · rw [if_neg z, if_neg y] at base
    obtain ⟨p1, p2, p3⟩ := cp_lt z
    have I3 : MIv b L a 1 (nx b L f1) (m1 + 1) l1 u1 (cp b L f1 :: σ) := MIv_of (MIv_Rc (MIS_mk I1) (Rc.st base Rc.rf)) (by decide)
    have rc3 := rc1.then base
    have E3 := (EqV.w (o := o) e1).trans e3
    have hnx := (nx_rng (b := b) I1.1).2.2 p1
    refine c7_readSum ho hr R3 I3 (Or.inr ⟨p2, p3, hσ⟩) (fun M4 f4 m4 l4 u4 e4 R4 rc4 hk4 hlt4 => ⟨fun w => absurd w (by decide), fun _ => ?_⟩) (fun M4 φ e4 g4 rc4 => ⟨fun _ => hf M4 φ (E3.trans (EqV.w e4)) g4 (rc3.trans rc4), fun w => absurd rfl w⟩)
    have I4 : MIv b L a 2 f4 m4 l4 u4 (cp b L f1 :: σ) := MIv_of (MIv_Rc (MIS_mk I3) rc4) (by decide)
    have st : stp b L (2, f4, m4, l4, u4, cp b L f1 :: σ, 0) = (3, f4, m4, l4 + 1, upN u4 l4 (cp b L f1), σ, 0) := by
      rw [stp_2]; unfold s2
      have eh : hd (cp b L f1 :: σ) = cp b L f1 := rfl
      rw [eh, if_neg (by omega), if_neg (by omega), if_neg (by omega), if_neg (by omega), if_pos ⟨p2, p3⟩]; rfl
    have hb : l4 + (σ.length + 1) ≤ f4 := I4.2.2.1
    have hfL := I4.1
    rw [EqW.o3 ho hr e4, g3]
    exact c6_put ho hr R4 (by omega) (fun M5 e5 R5 => ⟨fun w => absurd w (by decide), fun _ => ht M5 _ _ _ _ ((E3.trans (EqV.w e4)).trans (EqV.w e5)) R5 ((rc3.trans rc4).then st) (by omega)⟩)
  · rcases z with ⟨z, y⟩ | ⟨z, y, x⟩
    · rw [if_pos z] at base; rw [y]; exact base
    · rw [if_neg z, if_pos y] at base; rw [x]; exact base
end CRT
