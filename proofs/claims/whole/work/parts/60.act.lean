/-! ===== what one does in a minute ===== -/
section ACT
variable {G : Gx} {n : Nat} {M : Mem} {s : Int → Int} {d o : Nat} {ρ : Nat → Nat → Int}
def fires (ρ : Nat → Nat → Int) (s : Int → Int) (p x : Int) : Prop := tst ρ (wd s p) x.toNat ∧ (ρ 1 x.toNat = 2 ∨ (ρ 1 x.toNat = 1 ∧ canR s p) ∨ (ρ 1 x.toNat = 0 ∧ canT s p (ρ 2 x.toNat)))
noncomputable def fF (ρ : Nat → Nat → Int) (s : Int → Int) (p : Int) : Int := Classical.choose (isFst_ex (c := fires ρ s p) (b := ρ 0 0) (d := -1))
theorem fF_is {p : Int} : isFst (fires ρ s p) (ρ 0 0) (-1) (fF ρ s p) := Classical.choose_spec _
noncomputable def doS (ρ : Nat → Nat → Int) (s : Int → Int) (p : Int) : Int → Int := if fF ρ s p = -1 then s else if ρ 1 (fF ρ s p).toNat = 2 then s else if ρ 1 (fF ρ s p).toNat = 1 then rdS s p else tkS s p (ρ 2 (fF ρ s p).toNat)
theorem doS_none {p : Int} (h : ∀ j, 0 ≤ j → j < ρ 0 0 → ¬ fires ρ s p j) : doS ρ s p = s := by
  have : fF ρ s p = -1 := isFst_one fF_is (Or.inr ⟨rfl, h⟩)
  unfold doS; rw [if_pos this]
theorem doS_at {p : Int} {c : Nat} (hc : (c : Int) < ρ 0 0) (hf : fires ρ s p (c : Int)) (h : ∀ j, 0 ≤ j → j < (c : Int) → ¬ fires ρ s p j) : doS ρ s p = if ρ 1 c = 2 then s else if ρ 1 c = 1 then rdS s p else tkS s p (ρ 2 c) := by
  have e : fF ρ s p = (c : Int) := isFst_one fF_is (Or.inl ⟨by omega, hc, hf, h⟩)
  unfold doS
  rw [e, if_neg (by omega), Int.toNat_natCast]
/-- what the deeds keep -/
theorem doS_ok (K : HOK s) (D : DOK2 s) (h14 : s 3 ≤ 1439) {p t : Int} (ht : isTop s t) (h0 : 0 ≤ p) (h1 : p < s 2) : DOK2 (doS ρ s p) ∧ DX s (doS ρ s p) ∧ doS ρ s p 3 = s 3 := by
  have k8 := K.2.2.2.2.2.1
  rcases fF_is (ρ := ρ) (s := s) (p := p) with ⟨a, b, c, e⟩ | ⟨a, -⟩
  · have hd := doS_at (ρ := ρ) (s := s) (p := p) (c := (fF ρ s p).toNat) (by omega) (by rw [Int.toNat_of_nonneg a]; exact c) (by rw [Int.toNat_of_nonneg a]; exact e)
    rw [hd]
    have c2 := c.2
    generalize (fF ρ s p).toNat = f at *
    split
    · exact ⟨D, DX.rf, rfl⟩
    · split
      · rename_i z1 z2
        have hc : canR s p := by
          rcases c2 with q | q | q
          · exact absurd q z1
          · exact q.2
          · omega
        refine ⟨(rdS_ok K D h14 ht h0 h1 hc).1, rdS_DX h0 (by omega), ?_⟩
        show us _ _ _ 3 = s 3
        rw [us_ne (by omega)]; exact sOff_i (by omega) (by omega) (by omega)
      · rename_i z1 z2
        have hc : canT s p (ρ 2 f) := by
          rcases c2 with q | q | q
          · exact absurd q z1
          · exact absurd q.1 z2
          · exact q.2
        exact ⟨tkS_ok K D h14 h0 h1 hc, sOff_DX h0 (by omega), sOff_i (by omega) (by omega) (by omega)⟩
  · have : doS ρ s p = s := by unfold doS; rw [if_pos a]
    rw [this]; exact ⟨D, DX.rf, rfl⟩
def EqO2 (d o : Nat) (M M' : Mem) : Prop := ∀ a, a ≠ d → a ≠ o → M' a = M a
theorem EqO2.rf : EqO2 d o M M := fun _ _ _ => rfl
theorem EqO2.trans {M1 M2 : Mem} (h : EqO2 d o M M1) (h' : EqO2 d o M1 M2) : EqO2 d o M M2 := fun a b c => (h' a b c).trans (h a b c)
theorem EqO.two {M' : Mem} (h : EqO d M M') : EqO2 d o M M' := fun a b _ => h a b
theorem EqX.two {M' : Mem} {k : Nat} (h : EqX [(o, k)] M M') : EqO2 d o M M' := fun a _ c => h.obj (by simp; exact fun z => c z.symm)
theorem c0_act {Q : Mem → Prop} {p t : Int} (ho : oc o = 6) (hd : oc d = 0) (H : HR (M 4) s) (K : HOK s) (D : DR (M d) s) (D2 : DOK2 s) (h14 : s 3 ≤ 1439) (ht : isTop s t) (h1 : 0 ≤ p) (h2 : p < s 2) (hr : 0 ≤ s (172 + 5 * p + 0)) (hR : RuC ρ (M o)) (hO : RuOK ρ)
    (h : ∀ M', EqO2 d o M M' → RuC ρ (M' o) → DR (M' d) (doS ρ s p) → Q M') : OkV G (n + 4) mX0_act [vO d, vO 4, vO o, vI p] M Q := by
  have hr' : 0 ≤ s (172 + 5 * p + 0) ∧ s (172 + 5 * p + 0) < s 0 := ⟨hr, (D2.1.2.2 p h1 h2).2.1⟩
  have n4 : (4 : Nat) ≠ o := fun e => by rw [← e] at ho; exact absurd ho (by decide)
  have nd : d ≠ o := fun e => by rw [← e, hd] at ho; exact absurd ho (by decide)
  have nd4 := d4 hd
  have D0 := D2.1.1
  obtain ⟨o1, o2, o3⟩ := id hO
  refine eX0_act (fun Kx => bX0_act_0 ?_)
  have loop : ∀ (c : Nat) (Mc : Mem), c ≤ (ρ 0 0).toNat → (EqX [(o, 7)] M Mc ∧ ∀ j, 0 ≤ j → j < (c : Int) → ¬ fires ρ s p j) → CW G Kx mX0_act (n + 4) 3 [some (vO d), some (vO 4), some (vO o), some (vI p), some (vI (c : Int)), none, none, none] [] Mc (qV Q) := by
    refine up_ind (fun Mc i => ?_) (fun c Mc hc i ih => ?_)
    · obtain ⟨i1, i2⟩ := i
      have g0 : Mc o 0 0 = ρ 0 0 := by rw [i1 o 0 0 (by simp), hR 0 (by decide)]
      have hnone := doS_none (ρ := ρ) (s := s) (p := p) (fun j j1 j2 => i2 j j1 (by omega))
      refine bX0_act_3 ho hd ?_
      rw [g0]
      refine ⟨fun _ => h Mc i1.two (fun k hk => ?_) ?_, fun z => absurd (by omega) z⟩
      · rw [i1.fld (by simp; omega)]; exact hR k hk
      · rw [hnone, i1.obj (by simp; exact fun z => nd z.symm)]; exact D
    · obtain ⟨i1, i2⟩ := i
      have hcc : (c : Int) < ρ 0 0 := by omega
      obtain ⟨dd, a0, hw, b0, b4⟩ := o3 c hcc
      have g0 : Mc o 0 0 = ρ 0 0 := by rw [i1 o 0 0 (by simp), hR 0 (by decide)]
      have g1 : Mc o 1 c = ρ 1 c := by rw [i1 o 1 c (by simp), hR 1 (by decide)]
      have g2 : Mc o 2 c = ρ 2 c := by rw [i1 o 2 c (by simp), hR 2 (by decide)]
      have m4 : Mc 4 = M 4 := i1.obj (by simp; exact fun z => n4 z.symm)
      have md : Mc d = M d := i1.obj (by simp; exact fun z => nd z.symm)
      have hRc : RuC ρ (Mc o) := fun k hk => by rw [i1.fld (by simp; omega)]; exact hR k hk
      have cb : (0 : Int) ≤ (c : Int) ∧ (c : Int) < 12 := ⟨by omega, by omega⟩
      have skip : ∀ M2, EqX [(o, 7)] M M2 → ¬ fires ρ s p (c : Int) → CW G Kx mX0_act (n + 4) 3 [some (vO d), some (vO 4), some (vO o), some (vI p), some (vI ((c + 1 : Nat) : Int)), none, none, none] [] M2 (qV Q) := fun M2 e z => ih M2 ⟨e, fun j j1 j2 => by
        by_cases q : j = (c : Int)
        · rw [q]; exact z
        · exact i2 j j1 (by omega)⟩
      have go : ∀ (z0 : Int), (z0 = 0 → ¬ (ρ 1 c = 2 ∨ (ρ 1 c = 1 ∧ canR s p) ∨ (ρ 1 c = 0 ∧ canT s p (ρ 2 c)))) → (¬ z0 = 0 → (ρ 1 c = 2 ∨ (ρ 1 c = 1 ∧ canR s p) ∨ (ρ 1 c = 0 ∧ canT s p (ρ 2 c)))) → CW G Kx mX0_act (n + 4) 73 [some (vO d), some (vO 4), some (vO o), some (vI p), some (vI (c : Int)), some (vI (ρ 1 c)), some (vI (ρ 2 c)), none] [vI z0] Mc (qV Q) := by
        intro z0 q0 q1
        refine bX0_act_73 ho hd ?_
        rw [wr_n (b := 13) (k := c) (by omega) (by omega)]
        refine ⟨fun z => skip Mc i1 (fun y => q0 z (by have := y.2; rw [Int.toNat_natCast] at this; exact this)), fun z => ?_⟩
        refine c6_holds ho hd (by rw [m4]; exact H) K (by rw [md]; exact D) ht h1 h2 hr' hRc hO hcc (fun y M2 j1 => ⟨fun x => absurd x (by decide), fun _ => ?_⟩) (fun y M2 j1 => ⟨fun _ => skip M2 (i1.trans j1) (fun x => y (by have := x.1; rw [Int.toNat_natCast] at this; exact this)), fun x => absurd rfl x⟩)
        have hf : fires ρ s p (c : Int) := by
          refine ⟨?_, ?_⟩
          · rw [Int.toNat_natCast]; exact y
          · rw [Int.toNat_natCast]; exact q1 z
        have hd0 := doS_at hcc hf i2
        have hE := i1.trans j1
        have n4' : M2 4 = M 4 := hE.obj (by simp; exact fun z => n4 z.symm)
        have nd' : M2 d = M d := hE.obj (by simp; exact fun z => nd z.symm)
        have hR2 : RuC ρ (M2 o) := fun k hk => by rw [hE.fld (by simp; omega)]; exact hR k hk
        have fin : ∀ M3, EqO d M2 M3 → DR (M3 d) (doS ρ s p) → Q M3 := fun M3 e1 e2 => h M3 (hE.two.trans e1.two) (fun k hk => by rw [e1 o (fun z => nd z.symm)]; exact hR2 k hk) e2
        refine ⟨fun x => ⟨fun w => fin M2 EqO.rf ?_, fun w => ?_⟩, fun x => ?_⟩
        · rw [hd0, if_pos (by omega), nd']; exact D
        · have hcr : canR s p := by
            rcases q1 z with u | u | u
            · omega
            · exact u.2
            · omega
          rw [if_neg (by omega), if_pos w] at hd0
          rw [hd0] at fin
          exact c0_takeHoist hd (by rw [n4']; exact H) K (by rw [nd']; exact D) D2 h14 h1 h2 (fun _ M3 e1 e2 => fin M3 e1 e2) (fun w => absurd hcr w)
        · have hct : canT s p (ρ 2 c) := by
            rcases q1 z with u | u | u
            · omega
            · omega
            · exact u.2
          rw [if_neg (by omega), if_neg (by omega)] at hd0
          rw [hd0] at fin
          exact c0_takeWay hd (by rw [n4']; exact H) K (by rw [nd']; exact D) D0 h14 h1 h2 (fun _ M3 e1 e2 => fin M3 e1 e2) (fun w => absurd hct w)
      refine bX0_act_3 ho hd ?_
      rw [g0, Int.toNat_natCast, g1, g2]
      refine ⟨fun z => absurd z (by omega), fun _ => ⟨fun z => absurd z (by omega), fun _ => ⟨cb, cb, fun z => ⟨fun y => go 1 (fun x => absurd x (by decide)) (fun _ => Or.inl y), fun y => ?_⟩, fun z => ?_⟩⟩⟩
      · refine c0_canRide hd (by rw [m4]; exact H) K (by rw [md]; exact D) D2 h14 h1 h2 (fun q => ⟨fun x => absurd x (by decide), fun _ => go 1 (fun x => absurd x (by decide)) (fun _ => Or.inr (Or.inl ⟨by omega, q⟩))⟩) (fun q => ⟨fun _ => go 0 (fun _ x => ?_) (fun x => absurd rfl x), fun x => absurd rfl x⟩)
        rcases x with u | u | u
        · exact y u
        · exact q u.2
        · exact z u.1
      · refine c0_canTake hd (by rw [m4]; exact H) K (by rw [md]; exact D) D0 h1 h2 (fun q => go 1 (fun x => absurd x (by decide)) (fun _ => Or.inr (Or.inr ⟨z, q⟩))) (fun q => go 0 (fun _ x => ?_) (fun x => absurd rfl x))
        rcases x with u | u | u
        · omega
        · omega
        · exact q u.2
  exact loop 0 M (by omega) ⟨EqX.rf, fun j j1 j2 => by omega⟩
abbrev dyF : List (Nat × Nat) := [(0, 23), (0, 24), (0, 25), (0, 26)]
theorem ix48 {k c : Nat} (hk : k < 6) (hc : c < 12) : wr (wr (48 * (k : Int)) + wr (4 * (c : Int))) = ((48 * k + 4 * c : Nat) : Int) := by
  rw [wrs (x := 48 * (k : Int)) (by omega) (by omega), wrs (x := 4 * (c : Int)) (by omega) (by omega), wrs (x := 48 * (k : Int) + 4 * (c : Int)) (by omega) (by omega)]; omega
theorem wr_a {m : Nat} {i : Int} (hi : 0 ≤ i) (h : (m : Int) + i < 100000) : wr ((m : Int) + i) = ((m + i.toNat : Nat) : Int) := by
  rw [wrs (x := (m : Int) + i) (by omega) (by omega)]; omega
theorem c12_does {Q : Mem → Prop} {p t : Int} {k : Nat} (hk : k < 6) (hs : sd M = s) (K : HOK s) (D2 : DOK2 s) (h14 : s 3 ≤ 1439) (ht : isTop s t) (h1 : 0 ≤ p) (h2 : p < s 2) (hr : 0 ≤ s (172 + 5 * p + 0)) (hR : RuM ρ M k) (hO : RuOK ρ)
    (h : ∀ M', EqX dyF M M' → sd M' = doS ρ s p → Q M') : OkV G (n + 3) mX12_does [vO 0, vI (k : Int), vI p] M Q := by
  have hr' : 0 ≤ s (172 + 5 * p + 0) ∧ s (172 + 5 * p + 0) < s 0 := ⟨hr, (D2.1.2.2 p h1 h2).2.1⟩
  have D0 := D2.1.1
  obtain ⟨o1, o2, o3⟩ := id hO
  obtain ⟨r0, r1⟩ := hR
  refine eX12_does (fun Kx => bX12_does_0 (c12_words hs K h1 h2 hr' (fun M1 i1 i2 => ?_)))
  have kb : (0 : Int) ≤ (k : Int) ∧ (k : Int) < 6 := ⟨by omega, by omega⟩
  have loop : ∀ (c : Nat) (Mc : Mem), c ≤ (ρ 0 0).toNat → (EqX [(0, 23), (0, 24)] M1 Mc ∧ ∀ j, 0 ≤ j → j < (c : Int) → ¬ fires ρ s p j) → CW G Kx mX12_does (n + 3) 7 [some (vO 0), some (vI (k : Int)), some (vI p), some (vI (c : Int)), none] [] Mc (qV Q) := by
    refine up_ind (fun Mc i => ?_) (fun c Mc hc i ih => ?_)
    · obtain ⟨j1, j2⟩ := i
      have hE : EqX dyF M Mc := (i1.sub (by decide)).trans (j1.sub (by decide))
      have es : sd Mc = s := by rw [← hs]; funext i; show Mc 0 26 _ = M 0 26 _; rw [j1 0 26 _ (by decide), i1 0 26 _ (by decide)]
      have g6 : Mc 0 6 k = ρ 0 0 := by rw [hE 0 6 k (by decide)]; exact r0
      have hnone := doS_none (ρ := ρ) (s := s) (p := p) (fun j q1 q2 => j2 j q1 (by omega))
      refine bX12_does_7 ?_
      rw [Int.toNat_natCast, g6]
      exact ⟨kb, fun _ => h Mc hE (by rw [hnone]; exact es), fun z => absurd (by omega) z⟩
    · obtain ⟨j1, j2⟩ := i
      have hcc : (c : Int) < ρ 0 0 := by omega
      obtain ⟨dd, a0, hw, b0, b4⟩ := o3 c hcc
      obtain ⟨s0, s1, s2, s3⟩ := r1 c hcc
      have hE : EqX dyF M Mc := (i1.sub (by decide)).trans (j1.sub (by decide))
      have es : sd Mc = s := by rw [← hs]; funext i; show Mc 0 26 _ = M 0 26 _; rw [j1 0 26 _ (by decide), i1 0 26 _ (by decide)]
      have f5 : ∀ i, Mc 0 5 i = M 0 5 i := fun i => hE 0 5 i (by decide)
      have g6 : Mc 0 6 k = ρ 0 0 := by rw [hE 0 6 k (by decide)]; exact r0
      have hc12 : c < 12 := by omega
      have skip : ∀ M2, EqX [(0, 23), (0, 24)] M1 M2 → ¬ fires ρ s p (c : Int) → CW G Kx mX12_does (n + 3) 7 [some (vO 0), some (vI (k : Int)), some (vI p), some (vI (wr ((c : Int) + 1))), none] [] M2 (qV Q) := fun M2 e z => by
        rw [wr_n (b := 13) (k := c) (by omega) (by omega)]
        exact ih M2 ⟨e, fun j j1' j2' => by
          by_cases q : j = (c : Int)
          · rw [q]; exact z
          · exact j2 j j1' (by omega)⟩
      have go : tst ρ (wd s p) c → ∀ M2, EqX [(0, 23), (0, 24)] M1 M2 → CW G Kx mX12_does (n + 3) 70 [some (vO 0), some (vI (k : Int)), some (vI p), some (vI (c : Int)), some (vI ((48 * k + 4 * c : Nat) : Int))] [] M2 (qV Q) := by
        intro y M2 e2
        have hE2 : EqX dyF M M2 := (i1.sub (by decide)).trans (e2.sub (by decide))
        have es2 : sd M2 = s := by rw [← hs]; funext i; show M2 0 26 _ = M 0 26 _; rw [e2 0 26 _ (by decide), i1 0 26 _ (by decide)]
        have q5 : M2 0 5 (48 * k + 4 * c) = ρ 1 c := by rw [hE2 0 5 _ (by decide)]; exact s0
        have q6 : ρ 1 c = 0 → M2 0 5 (48 * k + 4 * c + 1) = ρ 2 c := fun z => by rw [hE2 0 5 _ (by decide)]; exact s1 z
        have hfi : (ρ 1 c = 2 ∨ (ρ 1 c = 1 ∧ canR s p) ∨ (ρ 1 c = 0 ∧ canT s p (ρ 2 c))) → doS ρ s p = if ρ 1 c = 2 then s else if ρ 1 c = 1 then rdS s p else tkS s p (ρ 2 c) := fun z => doS_at hcc ⟨by rw [Int.toNat_natCast]; exact y, by rw [Int.toNat_natCast]; exact z⟩ j2
        have nf : ¬ (ρ 1 c = 2 ∨ (ρ 1 c = 1 ∧ canR s p) ∨ (ρ 1 c = 0 ∧ canT s p (ρ 2 c))) → ¬ fires ρ s p (c : Int) := fun z w => z (by have := w.2; rw [Int.toNat_natCast] at this; exact this)
        have ib : (0 : Int) ≤ ((48 * k + 4 * c : Nat) : Int) ∧ ((48 * k + 4 * c : Nat) : Int) < 288 := ⟨by omega, by omega⟩
        refine bX12_does_70 ?_
        rw [Int.toNat_natCast, q5, wr_a (m := 48 * k + 4 * c) (i := 1) (by decide) (by omega), show (1 : Int).toNat = 1 from rfl, Int.toNat_natCast]
        refine ⟨ib, fun z => h M2 hE2 (by rw [hfi (Or.inl z), if_pos z]; exact es2), fun z => ⟨ib, fun x => ⟨⟨by omega, by omega⟩, ?_⟩, fun x => ?_⟩⟩
        · have z0 : ρ 1 c = 0 := by omega
          rw [q6 z0]
          refine c12_takes es2 K D0 (by omega) h1 h2 (fun hct M3 e3 e4 => ⟨fun w => absurd w (by decide), fun _ => h M3 (hE2.trans (e3.sub (by decide))) ?_⟩) (fun hct => ⟨fun _ => skip M2 e2 (nf (fun w => ?_)), fun w => absurd rfl w⟩)
          · rw [hfi (Or.inr (Or.inr ⟨z0, hct⟩)), if_neg z, if_neg x]; exact e4
          · rcases w with w | w | w
            · exact z w
            · exact x w.1
            · exact hct w.2
        · refine c12_ridesUp es2 K D2 h1 h2 (fun hcr M3 e3 e4 => ⟨fun w => absurd w (by decide), fun _ => h M3 (hE2.trans (e3.sub (by decide))) ?_⟩) (fun hcr => ⟨fun _ => skip M2 e2 (nf (fun w => ?_)), fun w => absurd rfl w⟩)
          · rw [hfi (Or.inr (Or.inl ⟨x, hcr⟩)), if_neg z, if_pos x]; exact e4
          · rcases w with w | w | w
            · exact z w
            · exact hcr w.2
            · omega
      refine bX12_does_7 ?_
      rw [Int.toNat_natCast, g6, ix48 hk hc12, wr_a (m := 48 * k + 4 * c) (i := 2) (by decide) (by omega), wr_a (m := 48 * k + 4 * c) (i := 3) (by decide) (by omega), show (2 : Int).toNat = 2 from rfl, show (3 : Int).toNat = 3 from rfl, Int.toNat_natCast, Int.toNat_natCast, f5, f5]
      refine ⟨kb, fun z => absurd z (by omega), fun _ => ⟨⟨by omega, by omega⟩, fun z => ?_, fun z => ⟨⟨by omega, by omega⟩, ⟨by omega, by omega⟩, ?_⟩⟩⟩
      · refine go (Or.inl ?_) Mc j1
        apply Classical.byContradiction
        intro q
        have := (s3 q).1
        omega
      · have hne : ρ 3 c ≠ ρ 4 c := fun q => by have := s2 q; omega
        obtain ⟨t1, t2, t3⟩ := s3 hne
        have hwf : WFs (ρ 5) (ρ 3 c).toNat (ρ 4 c).toNat := by
          rcases hw with q | q
          · exact absurd q hne
          · exact q
        rw [t1, t2]
        refine c12_reckons (w := wd s p) hk hwf a0 b0 (fun i a b => by rw [hE 0 3 _ (by decide)]; exact t3 i a b) (fun x hx => by rw [j1 0 25 _ (by decide)]; exact i2 x hx) (fun M2 e2 => ?_)
        rw [sg_zero]
        refine ⟨fun y => go (Or.inr y) M2 (j1.trans e2), fun y => skip M2 (j1.trans e2) (fun q => ?_)⟩
        have := q.1
        rw [Int.toNat_natCast] at this
        rcases this with u | u
        · exact hne u
        · exact u y
  exact loop 0 M1 (by omega) ⟨EqX.rf, fun j j1 j2 => by omega⟩
end ACT
