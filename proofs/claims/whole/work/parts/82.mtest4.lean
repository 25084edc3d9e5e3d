section MRX
variable {G : Gx} {n : Nat} {M M' : Mem} {b : Nat → Int} {L f m l k a : Nat} {u : Nat → Int} {σ τ : List Int}
/-- a joining sign waits -/
theorem RelM.push {x : Int} (R : RelM b L k M f m l u σ) (hx : ¬ (x = 21 ∨ x = 91)) (hl : σ.length < 400) : ∀ M1, M1 = mset M 0 21 σ.length (rc x) → ∀ M2, M2 = mset M1 0 22 0 ((σ.length + 1 : Nat) : Int) → RelM b L k M2 f m l u (x :: σ) ∧ EqX [(0, 21), (0, 22)] M M2 := by
  intro M1 m1 M2 m2
  obtain ⟨T, r1, r2, r3, r4, r5, r6, r7, r8, r9⟩ := R
  have X : EqX [(0, 21), (0, 22)] M M2 := by rw [m2, m1]; exact (EqX.mset (by decide)).trans (EqX.mset (by decide))
  have g21 : ∀ i, M2 0 21 i = if i = σ.length then rc x else M 0 21 i := fun i => by rw [m2, mset_ne (by simp), m1, mset_fn]
  have es : srf x = rc x := by unfold srf; rw [if_neg (fun z => hx (Or.inr z))]
  refine ⟨⟨T.eq X (by decide) (by decide) (by decide), by rw [X 0 15 0 (by decide)]; exact r1, by rw [X 0 17 0 (by decide)]; exact r2, r3, by rw [X 0 18 0 (by decide)]; exact r4, by rw [X 0 4 k (by decide)]; exact r5, by rw [X.fld (o := 0) (k := 3) (by decide)]; exact r6, by rw [m2, mset_self]; rfl, ⟨by rw [g21, if_pos rfl, es], stkR_cg σ (fun i hi => by rw [g21, if_neg (by omega)]) r8⟩, ?_⟩, X⟩
  rw [X 0 19 0 (by decide), r9, dep_c hx]
theorem c12_tested {Q : Int → Mem → Prop} (T : Tm b L M f) (r1 : M 0 15 0 = 0) (r2 : M 0 17 0 = (k : Int)) (r3 : k < 6) (r4 : M 0 18 0 = (m : Int)) (r5 : M 0 4 k = (l : Int)) (r6 : ∀ i, i < l → M 0 3 (400 * k + i) = rc (u i)) (I : MIv b L a 0 f m l u []) (ht : ∀ M' f' m' l' u', EqM k M M' → RelM b L k M' f' m' l' u' [] → Rc b L (0, f, m, l, u, [], 0) (4, f', m', l', u', [], 0) → f < f' → Q 1 M') (hf : ∀ M' φ, EqM k M M' → M' 0 15 0 = φ → Rc b L (0, f, m, l, u, [], 0) (flt φ) → Q 0 M') : OkI G (n + 8) mX12_tested [vO 0] M Q := by
  have hL := T.le.2.1
  refine eX12_tested (fun Kx => bX12_tested_0 (fun N1 n1 N2 n2 => ?_))
  have X2 : EqX [(0, 19), (0, 22)] M N2 := by rw [n2, n1]; exact (EqX.mset (by decide)).trans (EqX.mset (by decide))
  have R0 : RelM b L k N2 f m l u [] := ⟨T.eq X2 (by decide) (by decide) (by decide), by rw [X2 0 15 0 (by decide)]; exact r1, by rw [X2 0 17 0 (by decide)]; exact r2, r3, by rw [X2 0 18 0 (by decide)]; exact r4, by rw [X2 0 4 k (by decide)]; exact r5, by rw [X2.fld (o := 0) (k := 3) (by decide)]; exact r6, by rw [n2, mset_ne (by simp), n1, mset_self]; rfl, trivial, by rw [n2, mset_self]; rfl⟩
  have loop : ∀ (c f1 m1 l1 : Nat) (u1 : Nat → Int) (σ1 : List Int) (Mc : Mem), L - f1 ≤ c → f ≤ f1 → dep σ1 ≤ 10 → EqM k M Mc → RelM b L k Mc f1 m1 l1 u1 σ1 → MIv b L a 0 f1 m1 l1 u1 σ1 → Rc b L (0, f, m, l, u, [], 0) (0, f1, m1, l1, u1, σ1, 0) → CW G Kx mX12_tested (n + 8) 12 [some (vO 0), some (vI 1), none] [] Mc (qI Q) := by
    intro c
    induction c with
    | zero =>
      intro f1 m1 l1 u1 σ1 Mc hc hff hdp E R1 I1 rcx
      refine bX12_tested_12 ⟨fun z => absurd z (by decide), fun _ => c12_fact R1 I1 hdp (fun M2 f2 m2 l2 u2 σ2 e2 R2 rc2 d2 lt2 => ?_) (fun M2 φ e2 g2 rc2 => ⟨fun z => absurd rfl z, fun _ => hf M2 φ (E.trans e2) g2 (rcx.trans rc2)⟩)⟩
      have := R2.1.le.1
      omega
    | succ c ih =>
      intro f1 m1 l1 u1 σ1 Mc hc hff hdp E R1 I1 rcx
      refine bX12_tested_12 ⟨fun z => absurd z (by decide), fun _ => c12_fact R1 I1 hdp (fun M2 f2 m2 l2 u2 σ2 e2 R2 rc2 d2 lt2 => ⟨fun _ => ?_, fun z => absurd z (by decide)⟩) (fun M2 φ e2 g2 rc2 => ⟨fun z => absurd rfl z, fun _ => hf M2 φ (E.trans e2) g2 (rcx.trans rc2)⟩)⟩
      have I2 := MIv_of (MIv_Rc (MIS_mk I1) rc2) (by decide)
      refine c12_closes R2 I2 (fun M3 f3 l3 u3 σ3 e3 R3 rc3 d3 le3 out3 => ?_)
      have I3 := MIv_of (MIv_Rc (MIS_mk I2) rc3) (by decide)
      have hb3 := I3.2.2.2.2.2.2.2.1 (Or.inr rfl)
      have hlen : l3 + σ3.length ≤ f3 := I3.2.2.1
      have hf3 := I3.1
      have E3 := (E.trans e2).trans e3
      have rcy := (rcx.trans rc2).trans rc3
      have hnx := nx_rng (b := b) hf3
      have fl3 : f < f3 := by omega
      refine c12_isWord (j := 11) (by decide) (by decide) R3.1 (fun w M4 e4 T4 => ⟨fun _ => ?_, fun z => absurd z (by decide)⟩) (fun w M4 e4 T4 => ⟨fun z => absurd rfl z, fun _ => ?_⟩)
      · refine bX12_tested_49 (c12_isWord (j := 11) (by decide) (by decide) T4.tm (fun _ M5 e5 T5 => ⟨fun z => absurd z (by decide), fun _ => ?_⟩) (fun w' => absurd w w'))
        have R5 := R3.m14 (e4.trans e5) T5.tm
        have E5 := E3.trans (EqM.of (k := k) (e4.trans e5) (by decide) (by decide))
        refine bX12_tested_76 (c12_passWord T5 w.1 (fun M6 e6 T6 => ?_))
        have R6 := R5.m14 e6 T6
        have E6 := E5.trans (EqM.of (k := k) e6 (by decide) (by decide))
        have es : (12 : Int) = srf 19 := by decide
        refine es ▸ str_r (y := 19) (Or.inl rfl) ?_
        refine c12_settles (x := str 19) (by decide) R6 hb3 (by omega) (fun M7 x7 e7 R7 => ?_)
        have e19 : str 19 = 2 := by decide
        rw [e19] at R7
        have rc7 : Rc b L (3, f3, m2, l3, u3, σ3, 0) _ := stl_rc (x := 2) (m := m2) (Or.inr (Or.inl rfl)) σ3 l3 u3 hb3
        have I7 := MIv_of (MIv_Rc (MIS_mk I3) rc7) (by decide)
        have hb7 := stl_bse (x := 2) σ3 l3 u3 hb3
        have hd7 := stl_dep (x := 2) σ3 l3 u3
        have hh7 := hd_mid hb7 (stl_hd (x := 2) σ3 l3 u3)
        generalize (stl 2 σ3 l3 u3).1 = σ7 at R7 rc7 I7 hb7 hd7 hh7
        generalize (stl 2 σ3 l3 u3).2.1 = l7 at R7 rc7 I7
        generalize (stl 2 σ3 l3 u3).2.2 = u7 at R7 rc7 I7
        have st : stp b L (3, f3, m2, l7, u7, σ7, 0) = (0, nx b L f3, m2, l7, u7, 19 :: σ7, 0) := by
          rw [stp_3]; unfold s3
          rw [if_neg (by omega), cI_t w]
        have I8 := MIv_of (MIv_Rc (MIS_mk I7) (Rc.st st Rc.rf)) (by decide)
        have hln : l7 + σ7.length ≤ f3 := I7.2.2.1
        have hlt3 : f3 < L := (kd_1.mp w.1).1
        have r7 : M7 0 22 0 = ((σ7.length : Nat) : Int) := R7.2.2.2.2.2.2.2.1
        rw [r7, Int.toNat_natCast]
        refine ⟨⟨by omega, by omega⟩, fun M8 m8 M9 m9 => ?_⟩
        have g22 : M8 0 22 0 = ((σ7.length : Nat) : Int) := by rw [m8, mset_ne (by simp)]; exact r7
        rw [g22, wr_nat (j := σ7.length) (by omega)] at m9
        have e12 : srf 19 = rc 19 := by decide
        rw [e12] at m8
        obtain ⟨R9, X9⟩ := R7.push (x := 19) (by decide) (by omega) M8 m8 M9 m9
        have dd : dep (19 :: σ7) = dep σ7 := dep_c (by decide)
        have := hnx.2.2 (kd_1.mp w.1).1
        exact ih _ _ _ _ _ M9 (by omega) (by omega) (by omega) ((E6.trans e7).trans (EqM.of (k := k) X9 (by decide) (by decide))) R9 I8 ((rcy.trans rc7).then st)
      · refine c12_isWord (j := 10) (by decide) (by decide) T4.tm (fun v M5 e5 T5 => ⟨fun z => absurd z (by decide), fun _ => ?_⟩) (fun v M5 e5 T5 => ⟨fun _ => ?_, fun z => absurd rfl z⟩)
        · refine bX12_tested_49 (c12_isWord (j := 11) (by decide) (by decide) T5.tm (fun w' => absurd w' w) (fun _ M6 e6 T6 => ⟨fun _ => ?_, fun z => absurd rfl z⟩))
          have R6 := R3.m14 ((e4.trans e5).trans e6) T6.tm
          have E6 := E3.trans (EqM.of (k := k) ((e4.trans e5).trans e6) (by decide) (by decide))
          refine bX12_tested_76 (c12_passWord T6 v.1 (fun M7 e7 T7 => ?_))
          have R7 := R6.m14 e7 T7
          have E7 := E6.trans (EqM.of (k := k) e7 (by decide) (by decide))
          have es : (13 : Int) = srf 20 := by decide
          refine es ▸ str_r (y := 20) (Or.inr (Or.inl rfl)) ?_
          refine c12_settles (x := str 20) (by decide) R7 hb3 (by omega) (fun M8 x8 e8 R8 => ?_)
          have e20 : str 20 = 1 := by decide
          rw [e20] at R8
          have rc8 : Rc b L (3, f3, m2, l3, u3, σ3, 0) _ := stl_rc (x := 1) (m := m2) (Or.inr (Or.inr ⟨rfl, w⟩)) σ3 l3 u3 hb3
          have I8 := MIv_of (MIv_Rc (MIS_mk I3) rc8) (by decide)
          have hb8 := stl_bse (x := 1) σ3 l3 u3 hb3
          have hd8 := stl_dep (x := 1) σ3 l3 u3
          have hh8 := hd_low hb8 (stl_hd (x := 1) σ3 l3 u3)
          generalize (stl 1 σ3 l3 u3).1 = σ8 at R8 rc8 I8 hb8 hd8 hh8
          generalize (stl 1 σ3 l3 u3).2.1 = l8 at R8 rc8 I8
          generalize (stl 1 σ3 l3 u3).2.2 = u8 at R8 rc8 I8
          have hh : hd σ8 = 0 ∨ hd σ8 = 91 := by
            rcases hh8 with q | ⟨ω, q⟩
            · rw [q]; exact Or.inl rfl
            · rw [q]; exact Or.inr rfl
          have st : stp b L (3, f3, m2, l8, u8, σ8, 0) = (0, nx b L f3, m2, l8, u8, 20 :: σ8, 0) := by
            rw [stp_3]; unfold s3
            rw [if_neg (by omega), cI_f w, if_neg (by omega), cI_t v]
          have I9 := MIv_of (MIv_Rc (MIS_mk I8) (Rc.st st Rc.rf)) (by decide)
          have hln : l8 + σ8.length ≤ f3 := I8.2.2.1
          have hlt3 : f3 < L := (kd_1.mp v.1).1
          have r7 : M8 0 22 0 = ((σ8.length : Nat) : Int) := R8.2.2.2.2.2.2.2.1
          rw [r7, Int.toNat_natCast]
          refine ⟨⟨by omega, by omega⟩, fun M9 m9 M10 m10 => ?_⟩
          have g22 : M9 0 22 0 = ((σ8.length : Nat) : Int) := by rw [m9, mset_ne (by simp)]; exact r7
          rw [g22, wr_nat (j := σ8.length) (by omega)] at m10
          have e12 : srf 20 = rc 20 := by decide
          rw [e12] at m9
          obtain ⟨R10, X10⟩ := R8.push (x := 20) (by decide) (by omega) M9 m9 M10 m10
          have dd : dep (20 :: σ8) = dep σ8 := dep_c (by decide)
          have := hnx.2.2 (kd_1.mp v.1).1
          exact ih _ _ _ _ _ M10 (by omega) (by omega) (by omega) ((E7.trans e8).trans (EqM.of (k := k) X10 (by decide) (by decide))) R10 I9 ((rcy.trans rc8).then st)
        · have R5 := R3.m14 (e4.trans e5) T5.tm
          have E5 := E3.trans (EqM.of (k := k) (e4.trans e5) (by decide) (by decide))
          have rc8 : Rc b L (3, f3, m2, l3, u3, σ3, 0) _ := stl_rc (x := 1) (m := m2) (Or.inr (Or.inr ⟨rfl, w⟩)) σ3 l3 u3 hb3
          have hb8 := stl_bse (x := 1) σ3 l3 u3 hb3
          have hin8 := stl_in (x := 1) (by decide) σ3 l3 u3
          have hh8 := hd_low hb8 (stl_hd (x := 1) σ3 l3 u3)
          refine bX12_tested_12 ⟨fun _ => c12_isInside R5 hb3 (by omega) (fun hin => ⟨fun z => absurd z (by decide), fun _ => ?_⟩) (fun hin => ⟨fun _ => ?_, fun z => absurd rfl z⟩), fun z => absurd rfl z⟩
          · refine c12_see R5.1 (fun M6 e6 T6 => ?_)
            rw [T6.2.1]
            have st : stp b L (3, f3, m2, (stl 1 σ3 l3 u3).2.1, (stl 1 σ3 l3 u3).2.2, (stl 1 σ3 l3 u3).1, 0) = flt (1 + 8 * (f3 : Int) + 0) := by
              rcases hh8 with q | ⟨ω, q⟩
              · rw [q] at hin8; exact absurd (hin8.mpr hin) List.not_mem_nil
              · rw [q, stp_3]; unfold s3
                have eh : hd (91 :: ω) = 91 := rfl
                rw [eh, if_neg (by decide), cI_f w, if_neg (by decide), cI_f v, if_pos rfl, if_neg (fun z => out3 ⟨z.1, z.2, hin⟩)]
            refine c12_fails (by rw [e6 0 15 0 (by decide)]; exact R5.2.1) (by decide) (by omega) (fun M7 e7 g7 => ⟨Or.inl rfl, hf M7 _ ((E5.trans (EqM.of (k := k) e6 (by decide) (by decide))).trans (EqM.of (k := k) e7 (by decide) (by decide))) g7 ((rcy.trans rc8).then st)⟩)
          · refine c12_settles (x := 1) (by decide) R5 hb3 (by omega) (fun M6 x6 e6 R6 => ?_)
            rcases hh8 with q | ⟨ω, q⟩
            · rw [q] at R6 rc8
              have st : stp b L (3, f3, m2, (stl 1 σ3 l3 u3).2.1, (stl 1 σ3 l3 u3).2.2, [], 0) = (4, f3, m2, (stl 1 σ3 l3 u3).2.1, (stl 1 σ3 l3 u3).2.2, [], 0) := by
                rw [stp_3]; unfold s3
                have eh : hd ([] : List Int) = 0 := rfl
                rw [eh, if_neg (by decide), cI_f w, if_neg (by decide), cI_f v, if_neg (by decide)]
              exact ht M6 _ _ _ _ (E5.trans e6) R6 ((rcy.trans rc8).then st) fl3
            · rw [q] at hin8
              exact absurd (hin8.mp List.mem_cons_self) hin
  exact loop (L - f) f m l u [] N2 (Nat.le_refl _) (Nat.le_refl _) (Nat.zero_le _) (EqM.of X2 (by decide) (by decide)) R0 I Rc.rf
end MRX
