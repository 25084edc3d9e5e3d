section MRS
variable {G : Gx} {n : Nat} {M M' : Mem} {b : Nat → Int} {L f m l k c : Nat} {u : Nat → Int} {ρ : Nat → Nat → Int}
theorem rCl_no (h : dw b L f = -1) : rCl b L f c m l ρ = (1 + 8 * (f : Int) + 0, 0, 0, 0, ρ) := by
  have hD : rD b L f c = (1 + 8 * (f : Int) + 0, 0, 0, 0) := by unfold rD; rw [if_pos h]
  unfold rCl; rw [hD]; exact if_neg (show ¬ (1 + 8 * (f : Int) + 0 = 0) by omega)
theorem rCl_12 (h : dw b L f ≠ -1) (hc : c = 12) : rCl b L f c m l ρ = (1 + 8 * (f : Int) + 4, 0, 0, 0, ρ) := by
  have hD : rD b L f c = (1 + 8 * (f : Int) + 4, 0, 0, 0) := by unfold rD; rw [if_neg h, if_pos hc]
  unfold rCl; rw [hD]; exact if_neg (show ¬ (1 + 8 * (f : Int) + 4 = 0) by omega)
theorem c12_clauseHere_r {Q : Int → Mem → Prop} (R : RdR b L k M f m l c ρ) (hc : M 0 20 0 = (c : Int))
    (ht : (rCl b L f c m l ρ).1 = 0 → ∀ M', EqU k M M' → M' 0 20 0 = ((c + 1 : Nat) : Int) → RdR b L k M' (rCl b L f c m l ρ).2.1 (rCl b L f c m l ρ).2.2.1 (rCl b L f c m l ρ).2.2.2.1 (c + 1) (rCl b L f c m l ρ).2.2.2.2 → Q 1 M')
    (hf : (rCl b L f c m l ρ).1 ≠ 0 → ∀ M', EqU k M M' → M' 0 15 0 = (rCl b L f c m l ρ).1 → Q 0 M') : OkI G (n + 10) mX12_clauseHere [vO 0] M Q := by
  have hk6 := R.2.2.2.1
  have hL := R.1.le.2.1
  have hfL := R.1.le.1
  have hc12 : c ≤ 12 := R.2.2.2.2.2.2.2.2.2.2.2.2.2.1
  refine eX12_clauseHere (fun Kx => bX12_clauseHere_0 (c12_see R.1 (fun M1 e1 T1 => ?_)))
  have R1 : RdR b L k M1 f m l c ρ := R.mv e1 (by decide) T1.tm (Nat.le_refl _)
  rw [R1.2.2.1, T1.2.1]
  refine ⟨fun _ => bX12_clauseHere_24 ⟨fun _ => ?_, fun z => absurd rfl z⟩, fun z => by omega⟩
  have go : ∀ Mc, EqX [(0, 14)] M Mc → Te b L Mc f → dw b L f ≠ -1 → CW G Kx mX12_clauseHere (n + 10) 91 [some (vO 0), some (vI (f : Int)), some (vI 0)] [vI 12, vI (c : Int)] Mc (qI Q) := by
    intro Mc e T hw
    have Rc' : RdR b L k Mc f m l c ρ := R.mv e (by decide) T.tm (Nat.le_refl _)
    have U : EqU k M Mc := EqU.of e (by decide) (by decide) (by decide) (by decide)
    have g20 : Mc 0 20 0 = (c : Int) := by rw [e 0 20 0 (by decide)]; exact hc
    refine bX12_clauseHere_91 ⟨fun z M2 m2 => ⟨fun _ => ?_, fun w => absurd rfl w⟩, fun z => ?_⟩
    · rw [g20, wr_nat (j := c) (by omega)] at m2
      have e2 : EqX [(0, 20)] Mc M2 := by rw [m2]; exact EqX.mset (by decide)
      have T2 := T.eq e2 (by decide) (by decide) (by decide)
      have h20 : M2 0 20 0 = ((c + 1 : Nat) : Int) := by rw [m2, mset_self]
      have R2 : RdR b L k M2 f m l c ρ := Rc'.mv e2 (by decide) T2.tm (Nat.le_refl _)
      have U2 : EqU k M M2 := U.trans (EqU.of e2 (by decide) (by decide) (by decide) (by decide))
      have deed : ∀ (d : Int) (Md : Mem), EqX [(0, 14)] M2 Md → Te b L Md f → dw b L f = d → 0 ≤ d → d ≤ 2 → OkI G (n + 9) mX12_isDoingHere [vO 0, vI d] Md (fun r_3 M4 => (r_3 = 0 ∨ r_3 = 1) ∧ Q r_3 M4) := by
        intro d Md ed Td hd d0 d2
        have Ud := U2.trans (EqU.of (k := k) ed (by decide) (by decide) (by decide) (by decide))
        exact c12_isDoingHere (R2.mv ed (by decide) Td.tm (Nat.le_refl _)) Td hd ⟨d0, d2⟩ (by omega) (fun y M5 U5 _ w20 R5 => ⟨Or.inr rfl, ht y M5 (Ud.trans U5) (by rw [w20, ed 0 20 0 (by decide)]; exact h20) R5⟩) (fun y M5 U5 g5 => ⟨Or.inl rfl, hf y M5 (Ud.trans U5) g5⟩)
      refine c12_isWord (j := 7) (by decide) (by decide) T2.tm (fun w M3 e3 T3 => ⟨fun z => absurd z (by decide), fun _ => deed 0 M3 e3 T3 (by unfold dw; rw [cI_t w]) (by decide) (by decide)⟩) (fun w M3 e3 T3 => ⟨fun _ => ?_, fun z => absurd rfl z⟩)
      refine c12_isWord (j := 8) (by decide) (by decide) T3.tm (fun w1 M4 e4 T4 => ⟨fun z => absurd z (by decide), fun _ => deed 1 M4 (e3.trans e4) T4 (by unfold dw; rw [cI_f w, cI_t w1]) (by decide) (by decide)⟩) (fun w1 M4 e4 T4 => ⟨fun _ => deed 2 M4 (e3.trans e4) T4 ?_ (by decide) (by decide), fun z => absurd rfl z⟩)
      unfold dw at hw ⊢
      rw [cI_f w, cI_f w1] at hw ⊢
      by_cases w2 : wq b L f 9
      · rw [cI_t w2]
      · rw [cI_f w2] at hw; exact absurd rfl hw
    · have hq : c = 12 := by omega
      rw [rCl_12 hw hq] at hf
      exact c12_fails Rc'.2.1 (by decide) (by omega) (fun M4 e4 g => ⟨Or.inl rfl, hf (by show ¬ (1 + 8 * (f : Int) + 4 = 0); omega) M4 (U.trans (EqU.of e4 (by decide) (by decide) (by decide) (by decide))) g⟩)
  have g20 : ∀ Mc, EqX [(0, 14)] M Mc → Mc 0 20 0 = (c : Int) := fun Mc e => by rw [e 0 20 0 (by decide)]; exact hc
  refine c12_isWord (j := 7) (by decide) (by decide) T1.tm (fun w M2 e2 T2 => ⟨fun _ => ⟨fun _ => ?_, fun z => absurd rfl z⟩, fun z => absurd z (by decide)⟩) (fun w M2 e2 T2 => ⟨fun z => absurd rfl z, fun _ => ?_⟩)
  · rw [g20 M2 (e1.trans e2)]
    exact go M2 (e1.trans e2) T2 (by unfold dw; rw [cI_t w]; decide)
  refine c12_isWord (j := 8) (by decide) (by decide) T2.tm (fun w1 M3 e3 T3 => ⟨fun _ => ⟨fun _ => ?_, fun z => absurd rfl z⟩, fun z => absurd z (by decide)⟩) (fun w1 M3 e3 T3 => ⟨fun z => absurd rfl z, fun _ => ?_⟩)
  · rw [g20 M3 ((e1.trans e2).trans e3)]
    exact go M3 ((e1.trans e2).trans e3) T3 (by unfold dw; rw [cI_f w, cI_t w1]; decide)
  refine c12_isWord (j := 9) (by decide) (by decide) T3.tm (fun w2 M4 e4 T4 => ⟨fun _ => ⟨fun _ => ?_, fun z => absurd rfl z⟩, fun z => absurd z (by decide)⟩) (fun w2 M4 e4 T4 => ⟨fun z => absurd rfl z, fun _ => ?_⟩)
  · rw [g20 M4 (((e1.trans e2).trans e3).trans e4)]
    exact go M4 (((e1.trans e2).trans e3).trans e4) T4 (by unfold dw; rw [cI_f w, cI_f w1, cI_t w2]; decide)
  have E4 := ((e1.trans e2).trans e3).trans e4
  rw [rCl_no (by unfold dw; rw [cI_f w, cI_f w1, cI_f w2])] at hf
  exact c12_fails (by rw [E4 0 15 0 (by decide)]; exact R.2.1) (by decide) (by omega) (fun M5 e5 g => ⟨Or.inl rfl, hf (by show ¬ (1 + 8 * (f : Int) + 0 = 0); omega) M5 ((EqU.of E4 (by decide) (by decide) (by decide) (by decide)).trans (EqU.of e5 (by decide) (by decide) (by decide) (by decide))) g⟩)
theorem c12_readsAll_r {Q : Int → Mem → Prop} (T : Tq b L M) (h17 : M 0 17 0 = (k : Int)) (hk : k < 6) (h6 : M 0 6 k = 0)
    (ht : (rAll b L ρ).1 = 0 → ∀ M', EqU k M M' → M' 0 1 0 = 0 → RuM (rAll b L ρ).2 M' k → Q 1 M')
    (hf : (rAll b L ρ).1 ≠ 0 → ∀ M', EqU k M M' → M' 0 1 0 = 0 → M' 0 15 0 = (rAll b L ρ).1 → Q 0 M') : OkI G (n + 11) mX12_readsAll [vO 0] M Q := by
  refine eX12_readsAll (fun Kx => bX12_readsAll_0 ?_)
  rw [h17, Int.toNat_natCast]
  refine ⟨⟨by omega, by omega⟩, fun M1 m1 M2 m2 M3 m3 M4 m4 M5 m5 => ?_⟩
  have E5 : EqX [(0, 4), (0, 14), (0, 15), (0, 18), (0, 20)] M M5 := by rw [m5, m4, m3, m2, m1]; exact ((((EqX.mset (by decide)).trans (EqX.mset (by decide))).trans (EqX.mset (by decide))).trans (EqX.mset (by decide))).trans (EqX.mset (by decide))
  have U5 : EqU k M M5 := EqU.of E5 (by decide) (by decide) (by decide) (by decide)
  have T5 : Tm b L M5 (run pB b L 0) := ⟨Tq_cg T (E5.fld (by decide)) (E5.fld (by decide)), 0, by rw [m5, mset_ne (by simp), m4, mset_ne (by simp), m3, mset_self]; rfl, Nat.zero_le _, rfl⟩
  have R5 : RdR b L k M5 (run pB b L 0) 0 0 0 (fun k i => if k = 0 ∧ i = 0 then 0 else ρ k i) := by
    refine ⟨T5, by rw [m5, mset_ne (by simp), m4, mset_self], by rw [E5 0 17 0 (by decide)]; exact h17, hk, by rw [m5, mset_self]; rfl, by rw [m5, mset_ne (by simp), m4, mset_ne (by simp), m3, mset_ne (by simp), m2, mset_ne (by simp), m1, mset_self]; rfl, fun i hi => absurd hi (Nat.not_lt_zero i), by rw [E5 0 6 k (by decide)]; exact h6, fun j hj => absurd hj (Nat.not_lt_zero j), ?_⟩
    exact ⟨run_le (Nat.zero_le _), run_run (Nat.zero_le _), Nat.zero_le _, by decide, by decide, T.2.1, rfl, fun j hj => absurd hj (Nat.not_lt_zero j)⟩
  have g20 : M5 0 20 0 = ((0 : Nat) : Int) := by rw [m5, mset_ne (by simp), m4, mset_ne (by simp), m3, mset_ne (by simp), m2, mset_self]; rfl
  -- a fault ends it
  have bad : ∀ Mc, EqU k M Mc → Mc 0 15 0 = (rAll b L ρ).1 → (rAll b L ρ).1 ≠ 0 → CW G Kx mX12_readsAll (n + 11) 88 [some (vO 0), some (vI 0)] [] Mc (qI Q) := by
    intro Mc e g z
    refine bX12_readsAll_88 ⟨fun _ Md md => ?_, fun w => absurd rfl w⟩
    have gd : Md 0 15 0 = (rAll b L ρ).1 := by rw [md, mset_ne (by simp)]; exact g
    have ed : EqX [(0, 1)] Mc Md := by rw [md]; exact EqX.mset (by decide)
    rw [gd]
    exact ⟨fun w => hf w Md (e.trans (EqU.of ed (by decide) (by decide) (by decide) (by decide))) (by rw [md, mset_self]) gd, fun w => absurd w z⟩
  have bad35 : ∀ Mc, EqU k M Mc → Mc 0 15 0 = (rAll b L ρ).1 → (rAll b L ρ).1 ≠ 0 → CW G Kx mX12_readsAll (n + 11) 35 [some (vO 0), some (vI 0)] [] Mc (qI Q) := fun Mc e g z => bX12_readsAll_35 ⟨fun _ => bX12_readsAll_66 ⟨fun _ => bad Mc e g z, fun w => absurd rfl w⟩, fun w => absurd rfl w⟩
  have loop : ∀ (q c f m l : Nat) (r : Nat → Nat → Int) (Mc : Mem), c + q = 13 → EqU k M Mc → RdR b L k Mc f m l c r → Mc 0 20 0 = (c : Int) → rLp b L q c f m l r = rAll b L ρ → OkI G (n + 10) mX12_clauseHere [vO 0] Mc (fun r_1 M6 => CW G Kx mX12_readsAll (n + 11) 35 [some (vO 0), some (vI r_1)] [] M6 (qI Q)) := by
    intro q
    induction q with
    | zero =>
      intro c f m l r Mc hq U R
      have : c ≤ 12 := R.2.2.2.2.2.2.2.2.2.2.2.2.2.1
      omega
    | succ q ih =>
      intro c f m l r Mc hq U R q20 he
      obtain ⟨fL, L4, -⟩ := R.1.le
      rw [rLp_s] at he
      refine c12_clauseHere_r R q20 (fun z M6 e6 p20 R6 => ?_) (fun z M6 e6 p15 => ?_)
      · rw [if_pos z] at he
        generalize (rCl b L f c m l r).2.1 = f' at he R6
        generalize (rCl b L f c m l r).2.2.1 = m' at he R6
        generalize (rCl b L f c m l r).2.2.2.1 = l' at he R6
        generalize (rCl b L f c m l r).2.2.2.2 = r' at he R6
        have U6 := U.trans e6
        obtain ⟨fL', -, fr'⟩ := R6.1.le
        have hc13 : c + 1 ≤ 12 := R6.2.2.2.2.2.2.2.2.2.2.2.2.2.1
        refine bX12_readsAll_35 ⟨fun w => absurd w (by decide), fun _ => c12_see R6.1 (fun M7 e7 T7 => ?_)⟩
        have R7 : RdR b L k M7 f' m' l' (c + 1) r' := R6.mv e7 (by decide) T7.tm (Nat.le_refl _)
        have U7 := U6.trans (EqU.of (k := k) e7 (by decide) (by decide) (by decide) (by decide))
        by_cases y : L ≤ f'
        · rw [if_pos y] at he
          have hb : byA b L f' = -1 := by unfold byA; rw [if_neg (by omega)]
          rw [hb]
          refine ⟨fun _ => bX12_readsAll_66 ⟨fun w => absurd w (by decide), fun _ => c12_see R7.1 (fun M8 e8 T8 => ?_)⟩, fun w => absurd w (by decide)⟩
          rw [hb]
          have R8 : RdR b L k M8 f' m' l' (c + 1) r' := R7.mv e8 (by decide) T8.tm (Nat.le_refl _)
          have U8 := U7.trans (EqU.of (k := k) e8 (by decide) (by decide) (by decide) (by decide))
          refine ⟨fun _ => bX12_readsAll_88 ⟨fun w => absurd w (by decide), fun _ => ?_⟩, fun w => absurd rfl w⟩
          rw [R8.2.2.1]
          refine ⟨fun _ M9 m9 => ?_, fun w => by omega⟩
          have g9 : M9 0 15 0 = 0 := by rw [m9, mset_ne (by simp)]; exact R8.2.1
          have e9 : EqX [(0, 1)] M8 M9 := by rw [m9]; exact EqX.mset (by decide)
          rw [g9]
          refine ⟨fun u => absurd rfl u, fun _ => ht (by rw [← he]) M9 (U8.trans (EqU.of e9 (by decide) (by decide) (by decide) (by decide))) (by rw [m9, mset_self]) ?_⟩
          rw [← he]
          have hm := R8.ruM
          unfold RuM
          rw [e9.fld (o := 0) (k := 6) (by decide), e9.fld (o := 0) (k := 5) (by decide), e9.fld (o := 0) (k := 3) (by decide)]
          exact hm
        · rw [if_neg y] at he
          have hlt : f' < L := by omega
          have hb : byA b L f' = b f' := by unfold byA; rw [if_pos hlt]
          rw [hb]
          refine ⟨fun x => ?_, fun x M8 m8 => ?_⟩
          · rw [if_neg x] at he
            have hz : (rAll b L ρ).1 ≠ 0 := by rw [← he]; show ¬ (1 + 8 * (f' : Int) + 0 = 0); omega
            refine bX12_readsAll_66 ⟨fun w => absurd w (by decide), fun _ => c12_see R7.1 (fun M8 e8 T8 => ?_)⟩
            rw [hb]
            have hnn : 0 ≤ b f' := (T7.1.2.2 _ (by omega)).1
            refine ⟨fun w => absurd w (by omega), fun _ => ?_⟩
            rw [T8.2.1]
            refine c12_fails (by rw [e8 0 15 0 (by decide)]; exact R7.2.1) (by decide) (by omega) (fun M9 e9 g9 => bad M9 ((U7.trans (EqU.of e8 (by decide) (by decide) (by decide) (by decide))).trans (EqU.of e9 (by decide) (by decide) (by decide) (by decide))) (by rw [g9, ← he]) hz)
          · rw [if_pos x] at he
            rw [T7.2.1, wr_nat (j := f') (by omega)] at m8
            have e8 : EqX [(0, 14)] M7 M8 := by rw [m8]; exact EqX.mset (by decide)
            have T8 : Tm b L M8 (nx b L f') := ⟨Tq_cg T7.1 (e8.fld (by decide)) (e8.fld (by decide)), f' + 1, by rw [m8, mset_self], by omega, by unfold nx; rw [bh_sg (by decide) hlt x]⟩
            refine ih (c + 1) (nx b L f') m' l' r' M8 (by omega) (U7.trans (EqU.of e8 (by decide) (by decide) (by decide) (by decide))) (R7.mv e8 (by decide) T8 (nx_rng (b := b) fL').1) ?_ he
            rw [e8 0 20 0 (by decide), e7 0 20 0 (by decide)]; exact p20
      · rw [if_neg z] at he
        exact bad35 M6 (U.trans e6) (by rw [p15, ← he]) (by rw [← he]; exact z)
  exact loop 13 0 (run pB b L 0) 0 0 (fun k i => if k = 0 ∧ i = 0 then 0 else ρ k i) M5 rfl U5 R5 g20 rfl
theorem c12_rule {Q : Int → Mem → Prop} (T : Tq b L M) (h2 : M 0 2 0 = (k : Int)) (hk : k ≤ 6) (h6 : k = 6 → Q (-1) M)
    (ht : k < 6 → (rAll b L ρ).1 = 0 → ∀ M1 M2 M3, EqX [(0, 6), (0, 17)] M M1 → (∀ i, i ≠ k → M1 0 6 i = M 0 6 i) → EqU k M1 M2 → M2 0 1 0 = 0 → RuM (rAll b L ρ).2 M2 k → M3 = mset M2 0 2 0 ((k + 1 : Nat) : Int) → Q (k : Int) M3)
    (hf : k < 6 → (rAll b L ρ).1 ≠ 0 → ∀ M1 M2, EqX [(0, 6), (0, 17)] M M1 → (∀ i, i ≠ k → M1 0 6 i = M 0 6 i) → EqU k M1 M2 → M2 0 1 0 = 0 → Q (wr ((-2) - (rAll b L ρ).1)) M2) : OkI G (n + 12) mX12_rule [vO 0] M Q := by
  refine eX12_rule (fun Kx => bX12_rule_0 ?_)
  rw [h2]
  refine ⟨fun z M1 m1 => ?_, fun z => h6 (by omega)⟩
  have hk6 : k < 6 := by omega
  have g17 : M1 0 17 0 = (k : Int) := by rw [m1, mset_self]
  rw [g17, Int.toNat_natCast]
  refine ⟨⟨by omega, by omega⟩, fun M2 m2 => ?_⟩
  have e2 : EqX [(0, 6), (0, 17)] M M2 := by rw [m2, m1]; exact (EqX.mset (by decide)).trans (EqX.mset (by decide))
  have e6 : ∀ i, i ≠ k → M2 0 6 i = M 0 6 i := fun i hi => by rw [m2, mset_ne (fun z => hi z.2.2), m1, mset_ne (by simp)]
  refine c12_readsAll_r (k := k) (ρ := ρ) (Tq_cg T (e2.fld (by decide)) (e2.fld (by decide))) (by rw [m2, mset_ne (by simp)]; exact g17) hk6 (by rw [m2, mset_self]) (fun y M3 U3 g1 R3 => ⟨fun _ M4 m4 => ?_, fun w => absurd w (by decide)⟩) (fun y M3 U3 g1 g15 => ⟨fun w => absurd rfl w, fun _ => ?_⟩)
  · have w2 : M3 0 2 0 = (k : Int) := by rw [U3.1 0 2 0 (by decide), e2 0 2 0 (by decide)]; exact h2
    rw [w2, wr_nat (j := k) (by omega)] at m4
    have w4 : M4 0 2 0 = ((k + 1 : Nat) : Int) := by rw [m4, mset_self]
    rw [w4, wrs (x := ((k + 1 : Nat) : Int) - 1) (by omega) (by omega), show ((k + 1 : Nat) : Int) - 1 = (k : Int) by omega]
    exact ht hk6 y M2 M3 M4 e2 e6 U3 g1 R3 m4
  · rw [g15]
    exact hf hk6 y M2 M3 e2 e6 U3 g1
end MRS
