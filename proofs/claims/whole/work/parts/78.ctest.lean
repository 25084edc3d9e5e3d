/-! ===== the class reads a test: facts, tests ===== -/
section CTG
variable {G : Gx} {M M' : Mem} {b : Nat → Int} {L o a : Nat}
/-- what readFact and readTest say, at a depth: so many are left -/
def CFact (G : Gx) (b : Nat → Int) (L o a D : Nat) : Prop := ∀ (n : Nat) (M : Mem) (f m l : Nat) (u : Nat → Int) (σ : List Int) (Q : Int → Mem → Prop), dep σ + D = 10 → RelC b L o M f m l u → MIv b L a 0 f m l u σ →
  (∀ M' f' m' l' u', EqV o M M' → RelC b L o M' f' m' l' u' → Rc b L (0, f, m, l, u, σ, 0) (3, f', m', l', u', σ, 0) → f < f' → Q 1 M') → (∀ M' φ, EqV o M M' → M' 2 7 0 = φ → Rc b L (0, f, m, l, u, σ, 0) (flt φ) → Q 0 M') → OkI G (3 * D + n + 9) mX7_readFact [vO o, vI ((dep σ : Nat) : Int)] M Q
def CTest (G : Gx) (b : Nat → Int) (L o a D : Nat) : Prop := ∀ (n : Nat) (M : Mem) (f m l : Nat) (u : Nat → Int) (σ : List Int) (Q : Int → Mem → Prop), dep σ + D = 10 → (hd σ = 0 ∨ hd σ = 91) → RelC b L o M f m l u → MIv b L a 0 f m l u σ →
  (∀ M' f' m' l' u', EqV o M M' → RelC b L o M' f' m' l' u' → Rc b L (0, f, m, l, u, σ, 0) (3, f', m', l', u', σ, 0) → f < f' → ¬ wq b L f' 11 → ¬ wq b L f' 10 → Q 1 M') → (∀ M' φ, EqV o M M' → M' 2 7 0 = φ → Rc b L (0, f, m, l, u, σ, 0) (flt φ) → Q 0 M') → OkI G (3 * D + n + 11) mX7_readTest [vO o, vI ((dep σ : Nat) : Int)] M Q
theorem dep_c {x : Int} {σ : List Int} (h : ¬ (x = 21 ∨ x = 91)) : dep (x :: σ) = dep σ := by
  show dep σ + (if x = 21 ∨ x = 91 then 1 else 0) = dep σ
  rw [if_neg h]; rfl
theorem dep_y {x : Int} {σ : List Int} (h : x = 21 ∨ x = 91) : dep (x :: σ) = dep σ + 1 := by
  show dep σ + (if x = 21 ∨ x = 91 then 1 else 0) = dep σ + 1
  rw [if_pos h]
/-- a word that may wait -/
def pw (x v : Int) (σ : List Int) : List Int := if x = 0 then σ else v :: σ
theorem pw_0 {v : Int} {σ : List Int} : pw 0 v σ = σ := if_pos rfl
theorem pw_1 {v : Int} {σ : List Int} : pw 1 v σ = v :: σ := if_neg (by decide)
theorem dep_pw {x v : Int} {σ : List Int} (h : ¬ (v = 21 ∨ v = 91)) : dep (pw x v σ) = dep σ := by
  unfold pw
  split
  · rfl
  · exact dep_c h
/-- at the end no fact can stand -/
theorem stp_end0 {f m l : Nat} {u : Nat → Int} {σ : List Int} (h : L ≤ f) : stp b L (0, f, m, l, u, σ, 0) = (1, f, m, l, u, σ, 0) := by
  rw [stp_0]; unfold s0
  rw [cI_f (fun w => by have := (kd_1.mp w.1).1; omega), if_neg (fun w => by have := w.1; omega)]
theorem stp_end1 {f m l : Nat} {u : Nat → Int} {σ : List Int} (h : L ≤ f) : stp b L (1, f, m, l, u, σ, 0) = flt (1 + 8 * (f : Int) + 0) := by
  rw [stp_1]; unfold s1
  have hk0 : kd b L f = 0 := kd_0.mpr (by omega)
  have hv : ¬ 0 ≤ vw b L f := fun q => by have := (vw_lt q).1; omega
  have hn : nF b L f 0 99999 = 1 + 8 * (f : Int) + 0 := by unfold nF; rw [if_neg (by omega)]
  rw [if_neg hv, hn, if_neg (by omega)]
theorem c_test (ho : oc o = 7) (hr : oc (o - 6) = 6) {D : Nat} (H : CFact G b L o a D) : CTest G b L o a D := by
  intro n M f m l u σ Q hD hh R I ht hf
  have hL := R.1.2.2.1
  have HF : ∀ (τ : List Int) (Mc : Mem) (f1 m1 l1 : Nat) (u1 : Nat → Int) (Q' : Int → Mem → Prop), dep τ = dep σ → RelC b L o Mc f1 m1 l1 u1 → MIv b L a 0 f1 m1 l1 u1 τ → (∀ M' f' m' l' u', EqV o Mc M' → RelC b L o M' f' m' l' u' → Rc b L (0, f1, m1, l1, u1, τ, 0) (3, f', m', l', u', τ, 0) → f1 < f' → Q' 1 M') → (∀ M' φ, EqV o Mc M' → M' 2 7 0 = φ → Rc b L (0, f1, m1, l1, u1, τ, 0) (flt φ) → Q' 0 M') → OkI G (3 * D + n + 10) mX7_readFact [vO o, vI ((dep σ : Nat) : Int)] Mc Q' := by
    intro τ Mc f1 m1 l1 u1 Q' dd R1 I1 h1 h2
    have h := H (n + 1) Mc f1 m1 l1 u1 τ Q' (by rw [dd]; exact hD) R1 I1 h1 h2
    rw [dd] at h
    exact h
  refine eX7_readTest (fun Kx => bX7_readTest_0 ?_)
  have loop : ∀ (c k f1 m1 l1 : Nat) (u1 : Nat → Int) (x2 x3 : Int) (Mc : Mem), L - f1 < c → f ≤ f1 → k ≤ f1 → (x2 = 0 ∨ x2 = 1) → (x3 = 0 ∨ x3 = 1) → EqV o M Mc → RelC b L o Mc f1 m1 l1 u1 → Rc b L (0, f, m, l, u, σ, 0) (0, f1, m1, l1, u1, pw x3 19 (pw x2 20 σ), 0) → CW G Kx mX7_readTest (3 * D + n + 11) 7 [some (vO o), some (vI ((dep σ : Nat) : Int)), some (vI x2), some (vI x3), some (vI (k : Int))] [] Mc (qI Q) := by
    intro c
    induction c with
    | zero => intro k f1 m1 l1 u1 x2 x3 Mc hc; omega
    | succ c ih =>
      intro k f1 m1 l1 u1 x2 x3 Mc hc hff hk hx2 hx3 E R1 rc
      have hfL := R1.1.2.2.2.1
      have I1 : MIv b L a 0 f1 m1 l1 u1 (pw x3 19 (pw x2 20 σ)) := MIv_of (MIv_Rc (MIS_mk I) rc) (by decide)
      have dd : dep (pw x3 19 (pw x2 20 σ)) = dep σ := by rw [dep_pw (by decide), dep_pw (by decide)]
      refine bX7_readTest_7 ho hr ⟨fun z => c9_refuse R1.1 (by decide) (fun M2 e2 g2 => ⟨Or.inl rfl, hf M2 _ (E.trans (EqV.f7 e2)) g2 ((rc.then (stp_end0 (by omega))).then (stp_end1 (by omega)))⟩), fun z => ?_⟩
      refine HF _ Mc f1 m1 l1 u1 _ dd R1 I1 (fun M2 f2 m2 l2 u2 e2 R2 rc2 lt2 => ⟨fun _ => ?_, fun w => absurd w (by decide)⟩) (fun M2 φ e2 g2 rc2 => ⟨fun w => absurd rfl w, fun _ => hf M2 φ (E.trans e2) g2 (rc.trans rc2)⟩)
      have E2 := E.trans e2
      have rc3 := rc.trans rc2
      have hf2 := R2.1.2.2.2.1
      have hn2 := nx_rng (b := b) hf2
      have I2 : MIv b L a 3 f2 m2 l2 u2 (pw x3 19 (pw x2 20 σ)) := MIv_of (MIv_Rc (MIS_mk I1) rc2) (by decide)
      -- behind the and that waited
      have at39 : ∀ (M3 : Mem) (l3 : Nat) (u3 : Nat → Int), EqV o M M3 → RelC b L o M3 f2 m2 l3 u3 → Rc b L (0, f, m, l, u, σ, 0) (3, f2, m2, l3, u3, pw x2 20 σ, 0) → CW G Kx mX7_readTest (3 * D + n + 11) 39 [some (vO o), some (vI ((dep σ : Nat) : Int)), some (vI x2), none, some (vI (k : Int))] [] M3 (qI Q) := by
        intro M3 l3 u3 E3 R3 rc3
        have I3 : MIv b L a 3 f2 m2 l3 u3 (pw x2 20 σ) := MIv_of (MIv_Rc (MIS_mk I) rc3) (by decide)
        have hp : hd (pw x2 20 σ) = 0 ∨ hd (pw x2 20 σ) = 91 ∨ hd (pw x2 20 σ) = 20 := by
          rcases hx2 with q | q
          · rw [q, pw_0]; omega
          · rw [q, pw_1]; exact Or.inr (Or.inr rfl)
        refine bX7_readTest_39 ho hr (c9_isWord (n := 3 * D + n + 6) (by decide) R3.1 (fun w => ⟨fun _ => ?_, fun z => absurd z (by decide)⟩) (fun w => ⟨fun z => absurd rfl z, fun _ => ?_⟩))
        · have hlt := (kd_1.mp w.1).1
          have hn3 := hn2.2.2 hlt
          have st : stp b L (3, f2, m2, l3, u3, pw x2 20 σ, 0) = (0, nx b L f2, m2, l3, u3, pw 1 19 (pw x2 20 σ), 0) := by
            rw [stp_3, pw_1]; unfold s3
            rw [if_neg (by omega), cI_t w]
          refine bX7_readTest_77 ho ⟨fun _ => R3.1.adv (n := 3 * D + n + 9) (fun M4 e4 T4 => ?_), fun z => absurd z (by decide)⟩
          rw [wr_nat (j := k) (by omega)]
          exact ih (k + 1) (nx b L f2) m2 l3 u3 x2 1 M4 (by omega) (by omega) (by omega) hx2 (Or.inr rfl) (E3.trans (EqV.tk e4)) (R3.tk ho hr e4 T4) (rc3.then st)
        · -- behind the or that waited
          have fin : ∀ (M4 : Mem) (l4 : Nat) (u4 : Nat → Int), EqV o M M4 → RelC b L o M4 f2 m2 l4 u4 → Rc b L (0, f, m, l, u, σ, 0) (3, f2, m2, l4, u4, σ, 0) → OkI G (3 * D + n + 10) mX9_isWord [vO 2, vO (1000 + 10)] M4 (fun r_2 M5 => CW G Kx mX7_readTest (3 * D + n + 11) 77 [some (vO o), some (vI ((dep σ : Nat) : Int)), some (vI r_2), some (vI 0), some (vI (k : Int))] [] M5 (qI Q)) := by
            intro M4 l4 u4 E4 R4 rc4
            refine c9_isWord (n := 3 * D + n + 6) (by decide) R4.1 (fun w2 => bX7_readTest_77 ho ⟨fun z => absurd rfl z, fun _ => ⟨fun _ => R4.1.adv (n := 3 * D + n + 9) (fun M6 e6 T6 => ?_), fun z => absurd z (by decide)⟩⟩) (fun w2 => bX7_readTest_77 ho ⟨fun z => absurd rfl z, fun _ => ⟨fun z => absurd rfl z, fun _ => ht M4 f2 m2 l4 u4 E4 R4 rc4 (by omega) w w2⟩⟩)
            have hlt := (kd_1.mp w2.1).1
            have hn3 := hn2.2.2 hlt
            have st : stp b L (3, f2, m2, l4, u4, σ, 0) = (0, nx b L f2, m2, l4, u4, pw 0 19 (pw 1 20 σ), 0) := by
              rw [stp_3, pw_0, pw_1]; unfold s3
              rw [if_neg (by omega), cI_f w, if_neg (by omega), cI_t w2]
            rw [wr_nat (j := k) (by omega)]
            exact ih (k + 1) (nx b L f2) m2 l4 u4 1 0 M6 (by omega) (by omega) (by omega) (Or.inr rfl) (Or.inl rfl) (E4.trans (EqV.tk e6)) (R4.tk ho hr e6 T6) (rc4.then st)
          refine ⟨fun z => ?_, fun z => ?_⟩
          · rw [z, pw_0] at rc3
            exact fin M3 l3 u3 E3 R3 rc3
          · have z1 : x2 = 1 := hx2.elim (fun y => absurd y z) id
            rw [z1, pw_1] at rc3 I3
            have st : stp b L (3, f2, m2, l3, u3, 20 :: σ, 0) = (3, f2, m2, l3 + 1, upN u3 l3 20, σ, 0) := by
              rw [stp_3]; unfold s3
              have eh : hd (20 :: σ) = 20 := rfl
              rw [eh, if_neg (by decide), cI_f w, if_pos rfl]; rfl
            have hb : l3 + (σ.length + 1) ≤ f2 := I3.2.2.1
            exact c6_put ho hr R3 (by omega) (fun M4 e4 R4 => fin M4 _ _ (E3.trans (EqV.w e4)) R4 (rc3.then st))
      refine ⟨fun z => ?_, fun z => ?_⟩
      · rw [z, pw_0] at rc3
        exact at39 M2 l2 u2 E2 R2 rc3
      · have z1 : x3 = 1 := hx3.elim (fun y => absurd y z) id
        rw [z1, pw_1] at rc3 I2
        have st : stp b L (3, f2, m2, l2, u2, 19 :: pw x2 20 σ, 0) = (3, f2, m2, l2 + 1, upN u2 l2 19, pw x2 20 σ, 0) := by
          rw [stp_3]; unfold s3
          have eh : hd (19 :: pw x2 20 σ) = 19 := rfl
          rw [eh, if_pos (Or.inr rfl)]; rfl
        have hb : l2 + ((pw x2 20 σ).length + 1) ≤ f2 := I2.2.2.1
        exact c6_put ho hr R2 (by omega) (fun M3 e3 R3 => at39 M3 _ _ (E2.trans (EqV.w e3)) R3 (rc3.then st))
  exact loop (L - f + 1) 0 f m l u 0 0 M (Nat.lt_succ_self _) (Nat.le_refl _) (Nat.zero_le _) (Or.inl rfl) (Or.inl rfl) EqX.rf R (by rw [pw_0, pw_0]; exact Rc.rf)
theorem c_fact (ho : oc o = 7) (hr : oc (o - 6) = 6) {D : Nat} (H : 0 < D → CFact G b L o a (D - 1) ∧ CTest G b L o a (D - 1)) : CFact G b L o a D := by
  intro n M f m l u σ Q hD R I ht hf
  have hL := R.1.2.2.1
  have T := R.1
  have hσ : bse σ := I.2.2.2.2.2.2.2.1 (Or.inl rfl)
  have s0e : stp b L (0, f, m, l, u, σ, 0) = s0 b L f m l u σ := stp_0
  unfold s0 at s0e
  have hnx := nx_rng (b := b) I.1
  -- what opens
  have opn : ∀ (x2 : Int) (x : Int), (x = 21 ∨ x = 91) → (x2 = 0 ↔ x = 91) → f < L → stp b L (0, f, m, l, u, σ, 0) = (if dep σ = 10 then flt (1 + 8 * (f : Int) + 2) else (0, nx b L f, m, l, u, x :: σ, 0)) → ∀ Kx, CW G Kx mX7_readFact (3 * D + n + 9) 67 [some (vO o), some (vI ((dep σ : Nat) : Int)), some (vI x2)] [] M (qI Q) := by
    intro x2 x hx hx2 hfl st Kx
    by_cases d10 : dep σ = 10
    · rw [if_pos d10] at st
      refine bX7_readFact_67 ho hr ⟨fun z => absurd z (by omega), fun _ => c9_refuse T (by decide) (fun M1 e1 g1 => ⟨Or.inl rfl, hf M1 _ (EqV.f7 e1) g1 (Rc.st st Rc.rf)⟩)⟩
    · rw [if_neg d10] at st
      obtain ⟨D', rfl⟩ : ∃ D', D = D' + 1 := ⟨D - 1, by omega⟩
      obtain ⟨HF, HT⟩ := H (by omega)
      rw [Nat.add_sub_cancel] at HF HT
      have hn : 3 * (D' + 1) + n + 9 = 3 * D' + n + 11 + 1 := by omega
      rw [hn]
      have dd : dep (x :: σ) = dep σ + 1 := dep_y hx
      refine bX7_readFact_67 ho hr ?_
      rw [wr_nat (j := dep σ) (by omega)]
      refine ⟨fun _ => T.adv (n := 3 * D' + n + 10) (fun M1 e1 T1 => ?_), fun z => absurd (by omega) z⟩
      have R1 := R.tk ho hr e1 T1
      have I1 : MIv b L a 0 (nx b L f) m l u (x :: σ) := MIv_of (MIv_Rc (MIS_mk I) (Rc.st st Rc.rf)) (by decide)
      have rc1 : Rc b L (0, f, m, l, u, σ, 0) (0, nx b L f, m, l, u, x :: σ, 0) := Rc.st st Rc.rf
      have lt1 := hnx.2.2 hfl
      refine ⟨fun z => ?_, fun z => ?_⟩
      · have ex : x = 91 := hx2.mp z
        subst ex
        have hT := HT (n := n) M1 (nx b L f) m l u (91 :: σ) (fun r_1 M2 => (r_1 = 0 → Q 0 M2) ∧ (¬ (r_1 = 0) → OkI G (3 * D' + n + 11) mX9_passSign [vO 2, vI 93] M2 (fun r_2 M3 => (r_2 = 0 → Q 0 M3) ∧ (¬ (r_2 = 0) → Q 1 M3)))) (by rw [dd]; omega) (Or.inr rfl) R1 I1 (fun M2 f2 m2 l2 u2 e2 R2 rc2 lt2 na2 no2 => ⟨fun w => absurd w (by decide), fun _ => ?_⟩) (fun M2 φ e2 g2 rc2 => ⟨fun _ => hf M2 φ ((EqV.tk e1).trans e2) g2 (rc1.trans rc2), fun w => absurd rfl w⟩)
        · rw [dd] at hT; exact hT
        · have E2 := (EqV.tk (o := o) e1).trans e2
          have base : stp b L (3, f2, m2, l2, u2, 91 :: σ, 0) = if f2 < L ∧ b f2 = 93 then (3, nx b L f2, m2, l2, u2, σ, 0) else flt (1 + 8 * (f2 : Int) + 0) := by
            rw [stp_3]; unfold s3
            have eh : hd (91 :: σ) = 91 := rfl
            rw [eh, if_neg (by decide), cI_f na2, if_neg (by decide), cI_f no2, if_pos rfl]; rfl
          have h2 := nx_rng (b := b) R2.1.2.2.2.1
          refine c9_passSign (n := 3 * D' + n + 9) R2.1 (by decide) (fun x1 y1 M3 e3 T3 => ⟨fun w => absurd w (by decide), fun _ => ?_⟩) (fun x1 M3 e3 g3 => ⟨fun _ => ?_, fun w => absurd rfl w⟩)
          · rw [if_pos ⟨x1, y1⟩] at base
            exact ht M3 _ _ _ _ (E2.trans (EqV.tk e3)) (R2.tk ho hr e3 T3) ((rc1.trans rc2).then base) (by omega)
          · rw [if_neg x1] at base
            exact hf M3 _ (E2.trans (EqV.f7 e3)) g3 ((rc1.trans rc2).then base)
      · have ex : x = 21 := hx.elim id (fun w => absurd (hx2.mpr w) z)
        subst ex
        have hn2 : 3 * D' + n + 11 = 3 * D' + (n + 2) + 9 := by omega
        have hF := HF (n := n + 2) M1 (nx b L f) m l u (21 :: σ) (fun r_3 M4 => (r_3 = 0 → Q 0 M4) ∧ (¬ (r_3 = 0) → OkI G (3 * D' + n + 11) mX6_put [vO (o - 6), vI 21] M4 (fun r_4 M5 => (r_4 = 0 → Q 0 M5) ∧ (¬ (r_4 = 0) → Q 1 M5)))) (by rw [dd]; omega) R1 I1 (fun M2 f2 m2 l2 u2 e2 R2 rc2 lt2 => ⟨fun w => absurd w (by decide), fun _ => ?_⟩) (fun M2 φ e2 g2 rc2 => ⟨fun _ => hf M2 φ ((EqV.tk e1).trans e2) g2 (rc1.trans rc2), fun w => absurd rfl w⟩)
        · rw [dd, ← hn2] at hF; exact hF
        · have E2 := (EqV.tk (o := o) e1).trans e2
          have I2 : MIv b L a 3 f2 m2 l2 u2 (21 :: σ) := MIv_of (MIv_Rc (MIS_mk I1) rc2) (by decide)
          have st3 : stp b L (3, f2, m2, l2, u2, 21 :: σ, 0) = (3, f2, m2, l2 + 1, upN u2 l2 21, σ, 0) := by
            rw [stp_3]; unfold s3
            have eh : hd (21 :: σ) = 21 := rfl
            rw [eh, if_pos (Or.inl rfl)]; rfl
          have hb : l2 + (σ.length + 1) ≤ f2 := I2.2.2.1
          have hfL2 := I2.1
          exact c6_put ho hr R2 (by omega) (fun M3 e3 R3 => ⟨fun w => absurd w (by decide), fun _ => ht M3 _ _ _ _ (E2.trans (EqV.w e3)) R3 ((rc1.trans rc2).then st3) (by omega)⟩)
  refine eX7_readFact (fun Kx => ?_)
  have opn' := fun x2 x h1 h2 h3 h4 => opn x2 x h1 h2 h3 h4 Kx
  refine bX7_readFact_0 ho hr ?_
  refine c9_isWord (n := 3 * D + n + 4) (by decide) T (fun w => ⟨fun _ => ?_, fun z => absurd z (by decide)⟩) (fun w => ⟨fun z => absurd rfl z, fun _ => ?_⟩)
  · rw [cI_t w] at s0e
    exact opn' 1 21 (Or.inl rfl) ⟨fun z => absurd z (by decide), fun z => absurd z (by decide)⟩ (kd_1.mp w.1).1 s0e
  · rw [cI_f w] at s0e
    refine c9_isSign (n := 3 * D + n + 7) T (by decide) (fun x y => ⟨fun _ => ?_, fun z => absurd z (by decide)⟩) (fun x => ⟨fun z => absurd rfl z, fun _ => ?_⟩)
    · rw [if_pos ⟨x, y⟩] at s0e
      exact opn' 0 91 (Or.inr rfl) ⟨fun _ => rfl, fun _ => rfl⟩ x s0e
    · rw [if_neg x] at s0e
      have I1 : MIv b L a 1 f m l u σ := MIv_of (MIv_Rc (MIS_mk I) (Rc.st s0e Rc.rf)) (by decide)
      exact c7_cmp3 (n := 3 * D + n + 1) ho hr R I1 hσ (fun M1 f1 m1 l1 u1 e1 R1 rc1 lt1 => ht M1 f1 m1 l1 u1 e1 R1 (Rc.st s0e rc1) lt1) (fun M1 φ e1 g1 rc1 => hf M1 φ e1 g1 (Rc.st s0e rc1))
theorem c_all (ho : oc o = 7) (hr : oc (o - 6) = 6) : ∀ D : Nat, CFact G b L o a D ∧ CTest G b L o a D
  | 0 => ⟨c_fact ho hr (fun z => absurd z (by decide)), c_test ho hr (c_fact ho hr (fun z => absurd z (by decide)))⟩
  | D + 1 => by
    have ih := c_all ho hr D
    have hF : CFact G b L o a (D + 1) := c_fact ho hr (fun _ => ih)
    exact ⟨hF, c_test ho hr hF⟩
end CTG
