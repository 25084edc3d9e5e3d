/-! ===== the reference reads a test: facts, what waits, all ===== -/
section MRF
variable {G : Gx} {n : Nat} {M M' : Mem} {b : Nat → Int} {L f m l k a : Nat} {u : Nat → Int} {σ τ : List Int}
theorem c12_compare {Q : Int → Mem → Prop} (R : RelM b L k M f m l u σ) (I : MIv b L a 1 f m l u σ) (hσ : bse σ) (ht : ∀ M' f' m' l' u', EqM k M M' → RelM b L k M' f' m' l' u' σ → Rc b L (1, f, m, l, u, σ, 0) (3, f', m', l', u', σ, 0) → f < f' → Q 1 M') (hf : ∀ M' φ, EqM k M M' → M' 0 15 0 = φ → Rc b L (1, f, m, l, u, σ, 0) (flt φ) → Q 0 M') : OkI G (n + 6) mX12_compare [vO 0] M Q := by
  have hL := R.1.le.2.1
  have hbh := bse_hd hσ
  refine eX12_compare (fun Kx => bX12_compare_0 (c12_sum R I (Or.inl hσ) (fun M1 f1 m1 l1 u1 e1 R1 rc1 hk1 lt1 => ⟨fun _ => c12_see R1.1 (fun M2 e2 T2 => ?_), fun w => absurd w (by decide)⟩) (fun M1 φ e1 g1 rc1 => ⟨fun w => absurd rfl w, fun _ => hf M1 φ e1 g1 rc1⟩)))
  have I1 : MIv b L a 2 f1 m1 l1 u1 σ := MIv_of (MIv_Rc (MIS_mk I) rc1) (by decide)
  have base : stp b L (2, f1, m1, l1, u1, σ, 0) = if cp b L f1 = -1 then flt (1 + 8 * (f1 : Int) + 0) else if m1 = 60 then flt (1 + 8 * (f1 : Int) + 3) else (1, nx b L f1, m1 + 1, l1, u1, cp b L f1 :: σ, 0) := by
    rw [stp_2]; unfold s2
    rw [if_neg (by omega), if_neg (by omega), if_neg (by omega), if_neg (by omega), if_neg (by omega)]
  have hfL := R1.1.le.1
  have E2 : EqM k M M2 := e1.trans (EqM.of e2 (by decide) (by decide))
  have R2 := R1.m14 e2 T2.tm
  rw [T2.2.1]
  -- behind the sign
  have fin : ∀ (c x3 : Int) (M3 : Mem), byA b L f1 = c → (c = 60 ∨ c = 61 ∨ c = 62) → (c = 61 → x3 = 0) → (c ≠ 61 → (x3 = 0 ↔ ¬ bh b L f1 = f1 + 2)) → EqX [(0, 14)] M2 M3 → Tm b L M3 (nx b L f1) → CW G Kx mX12_compare (n + 6) 105 [some (vO 0), some (vI c), some (vI (f1 : Int)), some (vI x3), none] [] M3 (qI Q) := by
    intro c x3 M3 hc hc3 h61 h62 e3 T3
    obtain ⟨hl, hbc⟩ := (byA_eq (by omega)).mp hc
    have hcp : cp b L f1 = if c = 60 then (if x3 = 0 then 14 else 15) else if c = 61 then 16 else (if x3 = 0 then 18 else 17) := by
      unfold cp
      rw [if_pos hl, hbc]
      rcases hc3 with q | q | q
      · rw [if_pos q, if_pos q]
        by_cases z : x3 = 0
        · rw [if_pos z, if_neg ((h62 (by omega)).mp z)]
        · rw [if_neg z, if_pos (Classical.byContradiction (fun y => z ((h62 (by omega)).mpr y)))]
      · rw [if_neg (by omega), if_pos q, if_neg (by omega), if_pos q]
      · have n0 : ¬ c = 60 := by omega
        have n1 : ¬ c = 61 := by omega
        by_cases z : x3 = 0
        · have w := (h62 (by omega)).mp z
          simp only [if_neg n0, if_neg n1, if_pos q, if_pos z, if_neg w]
        · have w : bh b L f1 = f1 + 2 := Classical.byContradiction (fun y => z ((h62 (by omega)).mpr y))
          simp only [if_neg n0, if_neg n1, if_pos q, if_neg z, if_pos w]
    have hcn : cp b L f1 ≠ -1 := by rw [hcp]; split <;> (try split) <;> (try split) <;> omega
    obtain ⟨p1, p2, p3⟩ := cp_lt hcn
    rw [if_neg hcn] at base
    have R3 := R2.m14 e3 T3
    have E3 := E2.trans (EqM.of (k := k) e3 (by decide) (by decide))
    refine bX12_compare_105 (c12_makes R3 (by omega) I1.2.2.2.2.2.2.1 (fun y M4 e4 R4 => ⟨fun _ => ?_, fun w => absurd w (by decide)⟩) (fun y M4 e4 g4 => ⟨fun w => absurd rfl w, fun _ => ?_⟩))
    · rw [if_neg y] at base
      have E4 := E3.trans (EqM.of (k := k) e4 (by decide) (by decide))
      have I3 : MIv b L a 1 (nx b L f1) (m1 + 1) l1 u1 (cp b L f1 :: σ) := MIv_of (MIv_Rc (MIS_mk I1) (Rc.st base Rc.rf)) (by decide)
      have rc3 := rc1.then base
      have hnx := (nx_rng (b := b) I1.1).2.2 p1
      have two : ∀ s : Int, rc (cp b L f1) = s → OkI G (n + 5) mX12_sum [vO 0] M4 (fun r_2 M5 => (¬ r_2 = 0 → OkV G (n + 5) mX12_puts [vO 0, vI s, vI 0] M5 (fun M6 => Q 1 M6)) ∧ (r_2 = 0 → Q 0 M5)) := by
        intro s hs
        refine c12_sum R4 I3 (Or.inr ⟨p2, p3, hσ⟩) (fun M5 f5 m5 l5 u5 e5 R5 rc5 hk5 lt5 => ⟨fun _ => ?_, fun w => absurd w (by decide)⟩) (fun M5 φ e5 g5 rc5 => ⟨fun w => absurd rfl w, fun _ => hf M5 φ (E4.trans e5) g5 (rc3.trans rc5)⟩)
        have I5 : MIv b L a 2 f5 m5 l5 u5 (cp b L f1 :: σ) := MIv_of (MIv_Rc (MIS_mk I3) rc5) (by decide)
        have st : stp b L (2, f5, m5, l5, u5, cp b L f1 :: σ, 0) = (3, f5, m5, l5 + 1, upN u5 l5 (cp b L f1), σ, 0) := by
          rw [stp_2]; unfold s2
          have eh : hd (cp b L f1 :: σ) = cp b L f1 := rfl
          rw [eh, if_neg (by omega), if_neg (by omega), if_neg (by omega), if_neg (by omega), if_pos ⟨p2, p3⟩]; rfl
        have hb : l5 + (σ.length + 1) ≤ f5 := I5.2.2.1
        have hfL5 := I5.1
        rw [← hs]
        exact c12_puts R5 (by omega) (rc_b (by omega)) (fun M6 _ e6 R6 => ht M6 _ _ _ _ ((E4.trans e5).trans e6) R6 ((rc3.trans rc5).then st) (by omega))
      refine ⟨fun z => ⟨fun y => ⟨fun x => two _ ?_, fun x => two _ ?_⟩, fun y => two _ ?_⟩, fun z => ⟨fun x => two _ ?_, fun x => two _ ?_⟩⟩
      · rw [hcp, if_neg z, if_neg y, if_pos x]; decide
      · rw [hcp, if_neg z, if_neg y, if_neg x]; decide
      · rw [hcp, if_neg z, if_pos y]; decide
      · rw [hcp, if_pos z, if_pos x]; decide
      · rw [hcp, if_pos z, if_neg x]; decide
    · rw [if_pos y] at base
      exact hf M4 _ (E3.trans (EqM.of (k := k) e4 (by decide) (by decide))) g4 (rc1.then base)
  have mid : ∀ c : Int, byA b L f1 = c → (c = 60 ∨ c = 61 ∨ c = 62) → CW G Kx mX12_compare (n + 6) 44 [some (vO 0), some (vI c), some (vI (f1 : Int)), none, none] [] M2 (qI Q) := by
    intro c hc hc3
    obtain ⟨hl, hbc⟩ := (byA_eq (by omega)).mp hc
    refine bX12_compare_44 (fun M3 m3 => ?_)
    rw [T2.2.1, wr_nat (j := f1) (by omega)] at m3
    have e3 : EqX [(0, 14)] M2 M3 := by rw [m3]; exact EqX.mset (by decide)
    have g14 : M3 0 14 0 = ((f1 + 1 : Nat) : Int) := by rw [m3, mset_self]
    have g1 : M3 0 1 0 = (L : Int) := by rw [e3 0 1 0 (by decide)]; exact T2.1.1
    have tq3 : Tq b L M3 := Tq_cg T2.1 (e3.fld (by decide)) (e3.fld (by decide))
    have pl : ¬ pL (b f1) = true := by rw [hbc, pL_iff]; omega
    have pd : ¬ pD (b f1) = true := by rw [hbc, pD_iff]; omega
    have hb : bh b L f1 = if (b f1 = 60 ∨ b f1 = 62) ∧ f1 + 1 < L ∧ b (f1 + 1) = 61 then f1 + 2 else f1 + 1 := by unfold bh; rw [if_neg (by omega), if_neg pl, if_neg pd]
    have T31 : bh b L f1 = f1 + 1 → Tm b L M3 (nx b L f1) := fun q => ⟨tq3, f1 + 1, g14, by omega, by unfold nx; rw [q]⟩
    rw [g1, g14, Int.toNat_natCast]
    refine ⟨fun z => ?_, fun z => ⟨fun y => ?_, fun y => ?_⟩⟩
    · have q : bh b L f1 = f1 + 1 := by rw [hb, if_neg (by omega)]
      exact fin c 0 M3 hc hc3 (fun _ => rfl) (fun w => absurd z w) e3 (T31 q)
    · have q : bh b L f1 = f1 + 1 := by rw [hb, if_neg (by omega)]
      exact fin c 0 M3 hc hc3 (fun _ => rfl) (fun w => ⟨fun _ => by omega, fun _ => rfl⟩) e3 (T31 q)
    · refine ⟨⟨by omega, by omega⟩, ?_⟩
      rw [tq3.byt (by omega) (by decide) (by decide)]
      refine ⟨fun x => ?_, fun x M4 m4 => ?_⟩
      · have q : bh b L f1 = f1 + 1 := by rw [hb, if_neg (fun w => x w.2.2)]
        exact fin c 0 M3 hc hc3 (fun _ => rfl) (fun w => ⟨fun _ => by omega, fun _ => rfl⟩) e3 (T31 q)
      · have q : bh b L f1 = f1 + 2 := by rw [hb, if_pos ⟨by omega, by omega, x⟩]
        rw [wr_nat (j := f1 + 1) (by omega)] at m4
        have e4 : EqX [(0, 14)] M2 M4 := by rw [m4]; exact e3.trans (EqX.mset (by decide))
        exact fin c 1 M4 hc hc3 (fun w => absurd w z) (fun w => ⟨fun v => absurd v (by decide), fun v => absurd q v⟩) e4 ⟨Tq_cg T2.1 (e4.fld (by decide)) (e4.fld (by decide)), f1 + 2, by rw [m4, mset_self], by omega, by unfold nx; rw [q]⟩
  refine ⟨fun z => mid _ rfl (Or.inl z), fun z => ⟨fun y => mid _ rfl (Or.inr (Or.inl y)), fun y => ⟨fun x => mid _ rfl (Or.inr (Or.inr x)), fun x => ?_⟩⟩⟩
  have hcn : cp b L f1 = -1 := by
    unfold cp
    by_cases q : f1 < L
    · have eb : byA b L f1 = b f1 := by unfold byA; rw [if_pos q]
      rw [eb] at z y x
      rw [if_pos q, if_neg z, if_neg y, if_neg x]
    · rw [if_neg q]
  rw [if_pos hcn] at base
  exact c12_fails R2.2.1 (by decide) (by omega) (fun M3 e3 g3 => ⟨Or.inl rfl, hf M3 _ (E2.trans (EqM.of (k := k) e3 (by decide) (by decide))) g3 (rc1.then base)⟩)
theorem c12_opn {Q : Int → Mem → Prop} {x : Int} (R : RelM b L k M f m l u σ) (T : Te b L M f) (hx : x = 21 ∨ x = 91) (hl : σ.length < 400) (hd10 : dep σ ≤ 10) (ht : dep σ ≠ 10 → ∀ M', EqX [(0, 19), (0, 21), (0, 22)] M M' → RelM b L k M' f m l u (x :: σ) → Te b L M' f → Q 1 M') (hf : dep σ = 10 → ∀ M', EqX [(0, 15)] M M' → M' 0 15 0 = 1 + 8 * (f : Int) + 2 → Q 0 M') : OkI G (n + 1) mX12_opens [vO 0, vI (srf x)] M Q := by
  obtain ⟨T0, r1, r2, r3, r4, r5, r6, r7, r8, r9⟩ := R
  have f400 : f ≤ 400 := by have := T.2.2.1; have := T.1.2.1; omega
  refine eX12_opens (fun Kx => bX12_opens_0 ?_)
  rw [r9, T.2.1, wr_nat (j := dep σ) (by omega)]
  refine ⟨fun z M1 m1 => ?_, fun z => c12_fails r1 (by decide) f400 (fun M1 e1 g1 => ⟨Or.inl rfl, hf (by omega) M1 e1 g1⟩)⟩
  have g22 : M1 0 22 0 = ((σ.length : Nat) : Int) := by rw [m1, mset_ne (by simp)]; exact r7
  rw [g22, Int.toNat_natCast]
  refine ⟨⟨by omega, by omega⟩, fun M2 m2 M3 m3 => ?_⟩
  have g222 : M2 0 22 0 = ((σ.length : Nat) : Int) := by rw [m2, mset_ne (by simp)]; exact g22
  rw [g222, wr_nat (j := σ.length) (by omega)] at m3
  have E : EqX [(0, 19), (0, 21), (0, 22)] M M3 := by rw [m3, m2, m1]; exact ((EqX.mset (by decide)).trans (EqX.mset (by decide))).trans (EqX.mset (by decide))
  have e3 : M3 0 3 = M 0 3 := E.fld (by decide)
  have g21 : ∀ i, M3 0 21 i = if i = σ.length then srf x else M 0 21 i := fun i => by rw [m3, mset_ne (by simp), m2, mset_fn, m1, mset_ne (by simp)]
  refine ht (by omega) M3 E ⟨T0.eq E (by decide) (by decide) (by decide), by rw [E 0 15 0 (by decide)]; exact r1, by rw [E 0 17 0 (by decide)]; exact r2, r3, by rw [E 0 18 0 (by decide)]; exact r4, by rw [E 0 4 k (by decide)]; exact r5, by rw [e3]; exact r6, by rw [m3, mset_self]; rfl, ⟨by rw [g21, if_pos rfl], stkR_cg σ (fun i hi => by rw [g21, if_neg (by omega)]) r8⟩, ?_⟩ (T.eq E (by decide) (by decide) (by decide))
  rw [m3, mset_ne (by simp), m2, mset_ne (by simp), m1, mset_self, dep_y hx]
theorem c12_fact {Q : Int → Mem → Prop} (R : RelM b L k M f m l u σ) (I : MIv b L a 0 f m l u σ) (hd10 : dep σ ≤ 10) (ht : ∀ M' f' m' l' u' σ', EqM k M M' → RelM b L k M' f' m' l' u' σ' → Rc b L (0, f, m, l, u, σ, 0) (3, f', m', l', u', σ', 0) → dep σ' ≤ 10 → f < f' → Q 1 M') (hf : ∀ M' φ, EqM k M M' → M' 0 15 0 = φ → Rc b L (0, f, m, l, u, σ, 0) (flt φ) → Q 0 M') : OkI G (n + 7) mX12_fact [vO 0] M Q := by
  have hL := R.1.le.2.1
  refine eX12_fact (fun Kx => bX12_fact_0 ?_)
  have loop : ∀ (c f1 : Nat) (σ1 : List Int) (Mc : Mem), L - f1 ≤ c → f ≤ f1 → dep σ1 ≤ 10 → EqM k M Mc → RelM b L k Mc f1 m l u σ1 → MIv b L a 0 f1 m l u σ1 → Rc b L (0, f, m, l, u, σ, 0) (0, f1, m, l, u, σ1, 0) → CW G Kx mX12_fact (n + 7) 2 [some (vO 0), some (vI 1), none] [] Mc (qI Q) := by
    intro c
    induction c with
    | zero =>
      intro f1 σ1 Mc hc hff hdp E R1 I1 rcx
      have hfL := R1.1.le.1
      have nw : ∀ j, ¬ wq b L f1 j := fun j w => by have := (kd_1.mp w.1).1; omega
      have st : stp b L (0, f1, m, l, u, σ1, 0) = (1, f1, m, l, u, σ1, 0) := by
        rw [stp_0]; unfold s0; rw [cI_f (nw 12), if_neg (by omega)]
      have I2 : MIv b L a 1 f1 m l u σ1 := MIv_of (MIv_Rc (MIS_mk I1) (Rc.st st Rc.rf)) (by decide)
      refine bX12_fact_2 ⟨fun z => absurd z (by decide), fun _ => c12_see R1.1 (fun M2 e2 T2 => c12_isWord (j := 12) (by decide) (by decide) T2.tm (fun w => absurd w (nw 12)) (fun w M3 e3 T3 => ⟨fun _ => ⟨fun _ => ?_, fun z => ?_⟩, fun z => absurd rfl z⟩))⟩
      · have E3 := E.trans (EqM.of (k := k) (e2.trans e3) (by decide) (by decide))
        exact bX12_fact_2 ⟨fun _ => c12_compare (R1.m14 (e2.trans e3) T3.tm) I2 (I1.2.2.2.2.2.2.2.1 (Or.inl rfl)) (fun M4 f4 m4 l4 u4 e4 R4 rc4 lt4 => ⟨Or.inr rfl, ht M4 f4 m4 l4 u4 σ1 (E3.trans e4) R4 ((rcx.then st).trans rc4) hdp (by omega)⟩) (fun M4 φ e4 g4 rc4 => ⟨Or.inl rfl, hf M4 φ (E3.trans e4) g4 ((rcx.then st).trans rc4)⟩), fun z => absurd rfl z⟩
      · have := ((byA_eq (by decide)).mp z).1; omega
    | succ c ih =>
      intro f1 σ1 Mc hc hff hdp E R1 I1 rcx
      have hfL := R1.1.le.1
      have hnx := nx_rng (b := b) hfL
      have hlen : l + σ1.length ≤ f1 := I1.2.2.1
      have s0e : stp b L (0, f1, m, l, u, σ1, 0) = s0 b L f1 m l u σ1 := stp_0
      unfold s0 at s0e
      refine bX12_fact_2 ⟨fun z => absurd z (by decide), fun _ => c12_see R1.1 (fun M2 e2 T2 => c12_isWord (j := 12) (by decide) (by decide) T2.tm (fun w M3 e3 T3 => ⟨fun z => absurd z (by decide), fun _ => ?_⟩) (fun w M3 e3 T3 => ⟨fun _ => ⟨fun z => ?_, fun z => ?_⟩, fun z => absurd rfl z⟩))⟩
      · rw [cI_t w] at s0e
        have hlt := (kd_1.mp w.1).1
        have E3 := E.trans (EqM.of (k := k) (e2.trans e3) (by decide) (by decide))
        refine c12_opn (x := 21) (R1.m14 (e2.trans e3) T3.tm) T3 (Or.inl rfl) (by omega) hdp (fun y M4 e4 R4 T4 => ⟨fun _ => ?_, fun z => absurd z (by decide)⟩) (fun y M4 e4 g4 => ⟨fun z => absurd rfl z, fun _ => ?_⟩)
        · rw [if_neg y] at s0e
          refine c12_passWord T4 w.1 (fun M5 e5 T5 => ?_)
          have dd : dep (21 :: σ1) = dep σ1 + 1 := dep_y (Or.inl rfl)
          exact ih (nx b L f1) (21 :: σ1) M5 (by have := hnx.2.2 hlt; omega) (by omega) (by rw [dd]; omega) ((E3.trans (EqM.of (k := k) e4 (by decide) (by decide))).trans (EqM.of (k := k) e5 (by decide) (by decide))) (R4.m14 e5 T5) (MIv_of (MIv_Rc (MIS_mk I1) (Rc.st s0e Rc.rf)) (by decide)) (rcx.then s0e)
        · rw [if_pos y] at s0e
          exact hf M4 _ (E3.trans (EqM.of (k := k) e4 (by decide) (by decide))) g4 (rcx.then s0e)
      · rw [cI_f w, if_neg (fun q => z ((byA_eq (by decide)).mpr q))] at s0e
        have I2 : MIv b L a 1 f1 m l u σ1 := MIv_of (MIv_Rc (MIS_mk I1) (Rc.st s0e Rc.rf)) (by decide)
        have E3 := E.trans (EqM.of (k := k) (e2.trans e3) (by decide) (by decide))
        exact bX12_fact_2 ⟨fun _ => c12_compare (R1.m14 (e2.trans e3) T3.tm) I2 (I1.2.2.2.2.2.2.2.1 (Or.inl rfl)) (fun M4 f4 m4 l4 u4 e4 R4 rc4 lt4 => ⟨Or.inr rfl, ht M4 f4 m4 l4 u4 σ1 (E3.trans e4) R4 ((rcx.then s0e).trans rc4) hdp (by omega)⟩) (fun M4 φ e4 g4 rc4 => ⟨Or.inl rfl, hf M4 φ (E3.trans e4) g4 ((rcx.then s0e).trans rc4)⟩), fun z => absurd rfl z⟩
      · obtain ⟨hl, hbd⟩ := (byA_eq (by decide)).mp z
        rw [cI_f w, if_pos ⟨hl, hbd⟩] at s0e
        have E3 := E.trans (EqM.of (k := k) (e2.trans e3) (by decide) (by decide))
        refine c12_opn (x := 91) (R1.m14 (e2.trans e3) T3.tm) T3 (Or.inr rfl) (by omega) hdp (fun y M4 e4 R4 T4 => ⟨fun _ M5 m5 => ?_, fun z => absurd z (by decide)⟩) (fun y M4 e4 g4 => ⟨fun z => absurd rfl z, fun _ => ?_⟩)
        · rw [if_neg y] at s0e
          rw [T4.2.1, wr_nat (j := f1) (by omega)] at m5
          have e5 : EqX [(0, 14)] M4 M5 := by rw [m5]; exact EqX.mset (by decide)
          have T5 : Tm b L M5 (nx b L f1) := Tm_step T4 (by decide) hl hbd e5 (by rw [m5, mset_self])
          have dd : dep (91 :: σ1) = dep σ1 + 1 := dep_y (Or.inr rfl)
          exact ih (nx b L f1) (91 :: σ1) M5 (by have := hnx.2.2 hl; omega) (by omega) (by rw [dd]; omega) ((E3.trans (EqM.of (k := k) e4 (by decide) (by decide))).trans (EqM.of (k := k) e5 (by decide) (by decide))) (R4.m14 e5 T5) (MIv_of (MIv_Rc (MIS_mk I1) (Rc.st s0e Rc.rf)) (by decide)) (rcx.then s0e)
        · rw [if_pos y] at s0e
          exact hf M4 _ (E3.trans (EqM.of (k := k) e4 (by decide) (by decide))) g4 (rcx.then s0e)
  exact loop (L - f) f σ M (Nat.le_refl _) (Nat.le_refl _) hd10 EqM.rf R I Rc.rf
/-! what waits comes out -/
def str (y : Int) : Int := if y = 20 then 1 else if y = 19 then 2 else if y = 21 then 3 else 0
def stl (x : Int) : List Int → Nat → (Nat → Int) → List Int × Nat × (Nat → Int)
  | [], l, u => ([], l, u)
  | y :: τ, l, u => if x ≤ str y then stl x τ (l + 1) (upN u l y) else (y :: τ, l, u)
theorem stl_hd {x : Int} : ∀ (σ : List Int) (l : Nat) (u : Nat → Int), (stl x σ l u).1 = [] ∨ str (hd (stl x σ l u).1) < x
  | [], _, _ => Or.inl rfl
  | y :: τ, l, u => by
    unfold stl
    by_cases h : x ≤ str y
    · rw [if_pos h]; exact stl_hd τ (l + 1) (upN u l y)
    · rw [if_neg h]; right; show str y < x; omega
theorem stl_in {x : Int} (hx : 1 ≤ x) : ∀ (σ : List Int) (l : Nat) (u : Nat → Int), (91 ∈ (stl x σ l u).1 ↔ 91 ∈ σ)
  | [], _, _ => Iff.rfl
  | y :: τ, l, u => by
    unfold stl
    by_cases h : x ≤ str y
    · rw [if_pos h, stl_in hx τ (l + 1) (upN u l y)]
      have : y ≠ 91 := fun e => by rw [e] at h; have : str 91 = 0 := rfl; omega
      constructor
      · intro z; exact List.mem_cons_of_mem _ z
      · intro z
        rcases List.mem_cons.mp z with e | e
        · exact absurd e.symm this
        · exact e
    · rw [if_neg h]
theorem stl_dep {x : Int} : ∀ (σ : List Int) (l : Nat) (u : Nat → Int), dep (stl x σ l u).1 ≤ dep σ
  | [], _, _ => Nat.le_refl _
  | y :: τ, l, u => by
    unfold stl
    by_cases h : x ≤ str y
    · rw [if_pos h]
      have := stl_dep (x := x) τ (l + 1) (upN u l y)
      have e : dep (y :: τ) = dep τ + if y = 21 ∨ y = 91 then 1 else 0 := rfl
      omega
    · rw [if_neg h]; exact Nat.le_refl _
theorem stl_bse {x : Int} : ∀ (σ : List Int) (l : Nat) (u : Nat → Int), bse σ → bse (stl x σ l u).1
  | [], _, _, h => h
  | y :: τ, l, u, hb => by
    unfold stl
    by_cases h : x ≤ str y
    · rw [if_pos h]; exact stl_bse τ _ _ (fun z hz => hb z (List.mem_cons_of_mem _ hz))
    · rw [if_neg h]; exact hb
theorem stl_rc {x : Int} (hx : x = 3 ∨ x = 2 ∨ (x = 1 ∧ ¬ wq b L f 11)) : ∀ (σ : List Int) (l : Nat) (u : Nat → Int), bse σ → Rc b L (3, f, m, l, u, σ, 0) (3, f, m, (stl x σ l u).2.1, (stl x σ l u).2.2, (stl x σ l u).1, 0)
  | [], _, _, _ => Rc.rf
  | y :: τ, l, u, hb => by
    unfold stl
    by_cases h : x ≤ str y
    · rw [if_pos h]
      have hy := hb y List.mem_cons_self
      have eh : hd (y :: τ) = y := rfl
      have st : stp b L (3, f, m, l, u, y :: τ, 0) = (3, f, m, l + 1, upN u l y, τ, 0) := by
        rw [stp_3]; unfold s3
        rw [eh]
        rcases hy with q | q | q | q
        · rw [if_pos (Or.inr q)]; rfl
        · have : str y = 1 := by rw [q]; rfl
          have nw : ¬ wq b L f 11 := by
            rcases hx with z | z | z
            · omega
            · omega
            · exact z.2
          rw [if_neg (by omega), cI_f nw, if_pos q, q]; rfl
        · rw [if_pos (Or.inl q)]; rfl
        · have : str y = 0 := by rw [q]; rfl
          omega
      exact Rc.st st (stl_rc hx τ (l + 1) (upN u l y) (fun z hz => hb z (List.mem_cons_of_mem _ hz)))
    · rw [if_neg h]; exact Rc.rf
theorem str_r {y : Int} (hy : y = 19 ∨ y = 20 ∨ y = 21 ∨ y = 91) {Q : Int → Mem → Prop} (h : Q (str y) M) : OkI G n mX12_strength [vI (srf y)] M Q := by
  refine eX12_strength (fun Kx => bX12_strength_0 ?_)
  rcases hy with q | q | q | q <;> subst q
  · have e : srf 19 = 12 := by decide
    rw [e]
    exact ⟨fun _ => ⟨fun z => absurd rfl z, fun _ => h⟩, fun z => absurd z (by decide)⟩
  · have e : srf 20 = 13 := by decide
    rw [e]
    exact ⟨fun z => absurd rfl z, fun _ => h⟩
  · have e : srf 21 = 11 := by decide
    rw [e]
    exact ⟨fun _ => ⟨fun _ => ⟨fun z => absurd rfl z, fun _ => h⟩, fun z => absurd z (by decide)⟩, fun z => absurd z (by decide)⟩
  · have e : srf 91 = 91 := by decide
    rw [e]
    exact ⟨fun _ => ⟨fun _ => ⟨fun _ => h, fun z => absurd z (by decide)⟩, fun z => absurd z (by decide)⟩, fun z => absurd z (by decide)⟩
theorem dep_len : ∀ σ : List Int, dep σ ≤ σ.length
  | [] => Nat.le_refl _
  | w :: ω => by
    have e : dep (w :: ω) = dep ω + if w = 21 ∨ w = 91 then 1 else 0 := rfl
    have e2 : (w :: ω).length = ω.length + 1 := rfl
    have := dep_len ω
    rw [e, e2]
    split <;> omega
theorem c12_settles {Q : Mem → Prop} {x : Int} (hx : 1 ≤ x) (R : RelM b L k M f m l u σ) (hb : bse σ) (hlen : l + σ.length ≤ 400) (h : ∀ M', EqX [(0, 3), (0, 4), (0, 19), (0, 22)] M M' → EqM k M M' → RelM b L k M' f m (stl x σ l u).2.1 (stl x σ l u).2.2 (stl x σ l u).1 → Q M') : OkV G (n + 1) mX12_settles [vO 0, vI x] M Q := by
  refine eX12_settles (fun Kx => ?_)
  have loop : ∀ (σ1 : List Int) (l1 : Nat) (u1 : Nat → Int) (Mc : Mem), EqX [(0, 3), (0, 4), (0, 19), (0, 22)] M Mc → EqM k M Mc → RelM b L k Mc f m l1 u1 σ1 → bse σ1 → l1 + σ1.length ≤ 400 → stl x σ1 l1 u1 = stl x σ l u → CW G Kx mX12_settles (n + 1) 0 [some (vO 0), some (vI x)] [] Mc (qV Q) := by
    intro σ1
    induction σ1 with
    | nil =>
      intro l1 u1 Mc X E R1 hb1 hl1 he
      have r7 : Mc 0 22 0 = 0 := R1.2.2.2.2.2.2.2.1
      refine bX12_settles_0 ?_
      rw [r7]
      refine ⟨fun _ => h Mc X E ?_, fun z => absurd (Int.le_refl _) z⟩
      rw [← he]; exact R1
    | cons y τ ih =>
      intro l1 u1 Mc X E R1 hb1 hl1 he
      obtain ⟨T, r1, r2, r3, r4, r5, r6, r7, r8, r9⟩ := id R1
      have hl1' : l1 + (τ.length + 1) ≤ 400 := hl1
      have r7' : Mc 0 22 0 = ((τ.length + 1 : Nat) : Int) := r7
      have hy := hb1 y List.mem_cons_self
      have g21 : Mc 0 21 τ.length = srf y := r8.1
      refine bX12_settles_0 ?_
      rw [r7', wrs (x := ((τ.length + 1 : Nat) : Int) - 1) (by omega) (by omega), show ((τ.length + 1 : Nat) : Int) - 1 = ((τ.length : Nat) : Int) by omega, Int.toNat_natCast, g21]
      refine ⟨fun z => absurd z (by omega), fun _ => ⟨⟨by omega, by omega⟩, str_r hy ⟨fun z => ?_, fun z M2 m2 => ?_⟩⟩⟩
      · refine h Mc X E ?_
        rw [← he]
        unfold stl
        rw [if_neg (by omega)]
        exact R1
      · rw [r7', wrs (x := ((τ.length + 1 : Nat) : Int) - 1) (by omega) (by omega), show ((τ.length + 1 : Nat) : Int) - 1 = ((τ.length : Nat) : Int) by omega] at m2
        have X2 : EqX [(0, 22)] Mc M2 := by rw [m2]; exact EqX.mset (by decide)
        have g22 : M2 0 22 0 = ((τ.length : Nat) : Int) := by rw [m2, mset_self]
        have g21' : M2 0 21 τ.length = srf y := by rw [X2 0 21 _ (by decide)]; exact g21
        have hne : y ≠ 91 := fun e => by rw [e] at z; have : str 91 = 0 := rfl; omega
        have esr : srf y = rc y := by unfold srf; rw [if_neg hne]
        rw [g22, Int.toNat_natCast, g21', esr]
        -- a picture with the sign taken off; its depth is mended behind
        have he' : stl x τ (l1 + 1) (upN u1 l1 y) = stl x σ l u := by rw [← he]; show _ = (if x ≤ str y then _ else _); rw [if_pos (by omega)]
        have R2 : RelM b L k (mset M2 0 19 0 ((dep τ : Nat) : Int)) f m l1 u1 τ := by
          have X3 : EqX [(0, 19), (0, 22)] Mc (mset M2 0 19 0 ((dep τ : Nat) : Int)) := (X2.sub (by decide)).trans (EqX.mset (by decide))
          exact ⟨T.eq X3 (by decide) (by decide) (by decide), by rw [X3 0 15 0 (by decide)]; exact r1, by rw [X3 0 17 0 (by decide)]; exact r2, r3, by rw [X3 0 18 0 (by decide)]; exact r4, by rw [X3 0 4 k (by decide)]; exact r5, by rw [X3.fld (o := 0) (k := 3) (by decide)]; exact r6, by rw [mset_ne (by simp)]; exact g22, by rw [X3.fld (o := 0) (k := 21) (by decide)]; exact r8.2, by rw [mset_self]⟩
        refine ⟨⟨by omega, by omega⟩, ?_⟩
        -- puts does not look at the depth
        have g19 : M2 0 19 0 = ((dep (y :: τ) : Nat) : Int) := by rw [X2 0 19 0 (by decide)]; exact r9
        obtain ⟨S, s1, s2, s3, s4, s5, s6, s7, s8, s9⟩ := id R2
        have P : ∀ (F : Mem → Prop), (∀ M', EqX [(0, 3), (0, 4)] M2 M' → (∀ i, (i < 400 * k ∨ 400 * k + 400 ≤ i) → M' 0 3 i = M2 0 3 i) → M' 0 4 k = ((l1 + 1 : Nat) : Int) → (∀ i, i < l1 + 1 → M' 0 3 (400 * k + i) = rc (upN u1 l1 y i)) → F M') → OkV G n mX12_puts [vO 0, vI (rc y), vI 0] M2 F := by
          intro F hF
          have t2 : M2 0 17 0 = (k : Int) := by rw [X2 0 17 0 (by decide)]; exact r2
          have t5 : M2 0 4 k = (l1 : Int) := by rw [X2 0 4 k (by decide)]; exact r5
          have ew : wr (rc y + wr (16 * 0)) = rc y := rc_b (by omega)
          refine eX12_puts (fun Kx => bX12_puts_0 ?_)
          rw [t2, Int.toNat_natCast, t5, ix400 r3 (by omega), Int.toNat_natCast, ew]
          refine ⟨⟨by omega, by omega⟩, ⟨by omega, by omega⟩, fun N1 n1 => ?_⟩
          have h17 : N1 0 17 0 = (k : Int) := by rw [n1, mset_ne (by simp)]; exact t2
          have h4 : N1 0 4 k = (l1 : Int) := by rw [n1, mset_ne (by simp)]; exact t5
          rw [h17, Int.toNat_natCast, h4, wr_nat (j := l1) (by omega)]
          refine ⟨⟨by omega, by omega⟩, ⟨by omega, by omega⟩, fun N2 n2 => ?_⟩
          have g3 : ∀ i, N2 0 3 i = if i = 400 * k + l1 then rc y else M2 0 3 i := fun i => by rw [n2, mset_ne (by simp), n1, mset_fn]
          refine hF N2 (by rw [n2, n1]; exact (EqX.mset (by decide)).trans (EqX.mset (by decide))) (fun i hi => by rw [g3, if_neg (by omega)]) (by rw [n2, mset_self]) (fun i hi => ?_)
          rw [g3]
          unfold upN
          by_cases q : i = l1
          · rw [if_pos (by omega), if_pos q]
          · rw [if_neg (by omega), if_neg q, X2 0 3 _ (by decide)]; exact r6 i (by omega)
        refine P _ (fun M3 e3 w3 w4 w5 => ?_)
        have h22 : M3 0 22 0 = ((τ.length : Nat) : Int) := by rw [e3 0 22 0 (by decide)]; exact g22
        have h21 : M3 0 21 τ.length = srf y := by rw [e3 0 21 _ (by decide)]; exact g21'
        have X3 : EqX [(0, 3), (0, 4), (0, 22)] Mc M3 := (X2.sub (by decide)).trans (e3.sub (by decide))
        have EM3 : EqM k Mc M3 := ⟨X3.sub (by decide), fun i hi => by rw [w3 i hi, X2 0 3 i (by decide)]⟩
        have rel : ∀ M4 : Mem, EqX [(0, 19)] M3 M4 → M4 0 19 0 = ((dep τ : Nat) : Int) → RelM b L k M4 f m (l1 + 1) (upN u1 l1 y) τ := by
          intro M4 e4 h19
          have X4 : EqX [(0, 3), (0, 4), (0, 19), (0, 22)] Mc M4 := (X3.sub (by decide)).trans (e4.sub (by decide))
          exact ⟨T.eq X4 (by decide) (by decide) (by decide), by rw [X4 0 15 0 (by decide)]; exact r1, by rw [X4 0 17 0 (by decide)]; exact r2, r3, by rw [X4 0 18 0 (by decide)]; exact r4, by rw [e4 0 4 k (by decide)]; exact w4, fun i hi => by rw [e4 0 3 _ (by decide)]; exact w5 i hi, by rw [e4 0 22 0 (by decide)]; exact h22, by rw [X4.fld (o := 0) (k := 21) (by decide)]; exact r8.2, h19⟩
        have hbτ : bse τ := fun z hz => hb1 z (List.mem_cons_of_mem _ hz)
        rw [h22, Int.toNat_natCast, h21, esr]
        have hr11 : rc y = 11 ↔ y = 21 := by
          rcases hy with q | q | q | q <;> subst q <;> decide
        rw [hr11]
        refine ⟨⟨by omega, by omega⟩, fun q => ?_, fun q M4 m4 => ?_⟩
        · have dd : dep (y :: τ) = dep τ := dep_c (fun w => w.elim q hne)
          exact ih (l1 + 1) _ M3 (X.trans (X3.sub (by decide))) (E.trans EM3) (rel M3 EqX.rf (by rw [e3 0 19 0 (by decide), g19, dd])) hbτ (by omega) he'
        · have dd : dep (y :: τ) = dep τ + 1 := dep_y (Or.inl q)
          have h19 : M3 0 19 0 = ((dep τ + 1 : Nat) : Int) := by rw [e3 0 19 0 (by decide), g19, dd]
          have hdl : dep τ ≤ τ.length := dep_len τ
          rw [h19, wrs (x := ((dep τ + 1 : Nat) : Int) - 1) (by omega) (by omega), show ((dep τ + 1 : Nat) : Int) - 1 = ((dep τ : Nat) : Int) by omega] at m4
          have e4 : EqX [(0, 19)] M3 M4 := by rw [m4]; exact EqX.mset (by decide)
          exact ih (l1 + 1) _ M4 ((X.trans (X3.sub (by decide))).trans (e4.sub (by decide))) ((E.trans EM3).trans (EqM.of (k := k) e4 (by decide) (by decide))) (rel M4 e4 (by rw [m4, mset_self])) hbτ (by omega) he'
  exact loop σ l u M EqX.rf EqM.rf R hb hlen rfl
end MRF
