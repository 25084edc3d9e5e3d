/-! ===== errands of the most worth: the class's plan ===== -/
section BSD
variable {G : Gx} {n : Nat} {M : Mem} {s : Int → Int} {st : Src}
abbrev plF : List (Nat × Nat) := [(13, 0), (12, 1), (12, 2), (12, 3), (12, 4)]
theorem bw_s {m0 : Int} (S : Nat) : bw s st m0 (S + 1) = if S ≠ 0 ∧ sM (bt s st S S) 20 ≤ 1439 ∧ (wS s (bw s st m0 S).1 (s 7).toNat < wS s S (s 7).toNat ∨ (wS s S (s 7).toNat = wS s (bw s st m0 S).1 (s 7).toNat ∧ sM (bt s st S S) 20 < (bw s st m0 S).2)) then (S, sM (bt s st S S) 20) else bw s st m0 S := rfl
theorem bt_s (S : Nat) : bt s st (S + 1) = upS s (srcB s st (bt s st S S) S 20) S (bt s st S) := rfl
theorem shE (LO : LOK s) : bShl 1 (s 7) = ((2 ^ (s 7).toNat : Nat) : Int) := by
  have l7 := LO.1
  have := bShl_nat (k := (s 7).toNat) (by omega)
  rw [Int.toNat_of_nonneg l7.1] at this
  exact this
theorem c4_plan {Q : Mem → Prop} {x2 x3 x4 : Int} (H : HR (M 4) s) (K : HOK s) (L : LR (M 6) s) (LO : LOK s) (h1 : 0 ≤ x2) (h2 : x2 < s 0) (h3 : 0 ≤ x3) (h4 : x3 ≤ 1439)
    (h : ∀ M' : Mem, EqX plF M M' → M' 12 2 0 = wS s (bw s (src1 x2 (if x4 = 0 then 1 else 0) x3) x3 (2 ^ (s 7).toNat)).1 (s 7).toNat → M' 12 3 0 = ((bw s (src1 x2 (if x4 = 0 then 1 else 0) x3) x3 (2 ^ (s 7).toNat)).1 : Int) → M' 12 4 0 = (bw s (src1 x2 (if x4 = 0 then 1 else 0) x3) x3 (2 ^ (s 7).toNat)).2 → Q M') :
    OkV G (n + 4) mX4_plan [vO 12, vO 3, vI x2, vI x3, vI x4] M Q := by
  have k16 := K.2.1
  have l7 := LO.1
  have hE := E1024 LO
  have hEp : 0 < 2 ^ (s 7).toNat := Nat.pow_pos (by decide)
  have e1 : M 6 1 0 = s 7 := L.2.1
  have hu : VN s x2 (if x4 = 0 then 1 else 0) := ⟨h1, h2, by split; exact Or.inr rfl; exact Or.inl rfl⟩
  have hst : SOK s (src1 x2 (if x4 = 0 then 1 else 0) x3) := src1_ok hu h3 h4
  generalize hstd : src1 x2 (if x4 = 0 then 1 else 0) x3 = st at *
  have hgd := bt_gB K LO hst
  refine eX4_plan (fun Kx => bX4_plan_0 rfl rfl ?_)
  rw [show (3 + 3 : Nat) = 6 from rfl, e1, if_neg (show ¬ (10 : Int) < s 7 by omega), shE LO]
  have ez : (if wr (((2 ^ (s 7).toNat : Nat) : Int) * 20) < 20480 then wr (((2 ^ (s 7).toNat : Nat) : Int) * 20) else 20480) = ((20 * 2 ^ (s 7).toNat : Nat) : Int) := by
    rw [wrs (x := ((2 ^ (s 7).toNat : Nat) : Int) * 20) (by omega) (by omega)]
    split <;> omega
  rw [ez]
  refine c_fillr (N := 20480) rfl rfl (by decide) (by omega) (fun M2 em2 => ?_)
  have loop : ∀ (S : Nat) (Mc : Mem), S ≤ 2 ^ (s 7).toNat → (EqX plF M Mc ∧ PTb s Mc (bt s st S) ∧ (S = 0 → Mc 12 2 0 = -1) ∧ (S ≠ 0 → Mc 12 2 0 = wS s (bw s st x3 S).1 (s 7).toNat ∧ Mc 12 3 0 = ((bw s st x3 S).1 : Int) ∧ Mc 12 4 0 = (bw s st x3 S).2)) → CW G Kx mX4_plan (n + 4) 51 [some (vO 12), some (vO 3), some (vI x2), some (vI x3), some (vI x4), some (vO 6), some (vI ((2 ^ (s 7).toNat : Nat) : Int)), some (vI (S : Int)), none] [] Mc (qV Q) := by
    refine up_ind (fun Mc i => ?_) (fun S Mc hS i ih => ?_)
    · obtain ⟨i1, i2, i3, i4⟩ := i
      obtain ⟨j1, j2, j3⟩ := i4 (by omega)
      refine bX4_plan_51 (o1 := 3) ⟨fun _ => h Mc i1 j1 j2 j3, fun z => absurd (Int.le_refl _) z⟩
    · obtain ⟨i1, i2, i3, i4⟩ := i
      have e4 : Mc 4 = M 4 := i1.obj (by decide)
      have e6 : Mc 6 = M 6 := i1.obj (by decide)
      refine bX4_plan_51 (o1 := 3) ⟨fun z => absurd z (by omega), fun _ => c5_clear rfl ?_⟩
      have mf : EqX [(13, 0)] Mc (mfill Mc 13 0 32 1000000) := mfill_eqX
      have hcl : ∀ r u : Int, 0 ≤ r → r < 16 → (u = 0 ∨ u = 1) → tbC (mfill Mc 13 0 32 1000000) 13 r u = 1000000 := fun r u a b c => tbC_fill a b c
      have hTO0 : TO (tbC (mfill Mc 13 0 32 1000000) 13) := fun r u a b c => by rw [hcl r u a b c]; omega
      have hcl' : ∀ r u, VN s r u → tbC (mfill Mc 13 0 32 1000000) 13 r u = 1000000 := fun r u v => hcl r u v.1 (by have := v.2.1; omega) v.2.2
      have nxt : ∀ M3 : Mem, EqX plF M M3 → PTb s M3 (bt s st (S + 1)) → (M3 12 2 0 = wS s (bw s st x3 (S + 1)).1 (s 7).toNat ∧ M3 12 3 0 = ((bw s st x3 (S + 1)).1 : Int) ∧ M3 12 4 0 = (bw s st x3 (S + 1)).2) → CW G Kx mX4_plan (n + 4) 51 [some (vO 12), some (vO 3), some (vI x2), some (vI x3), some (vI x4), some (vO 6), some (vI ((2 ^ (s 7).toNat : Nat) : Int)), some (vI (wr ((S : Int) + 1))), none] [] M3 (qV Q) := by
        intro M3 a1 a2 a3
        rw [wr_n (b := 2000) (k := S) (by omega) (by omega)]
        exact ih M3 ⟨a1, a2, fun z => absurd z (by omega), fun _ => a3⟩
      have go : ∀ (x8 : Int) (M1 : Mem), EqX [(13, 0)] Mc M1 → TO (tbC M1 13) → Snd s (srcB s st (bt s st S S) S 20) (tbC M1 13) → (∀ r u m, srcB s st (bt s st S S) S 20 r u m → tbC M1 13 r u ≤ m) → x8 ≤ 1439 → (S = 0 → x8 = x3) → (S ≠ 0 → x8 = sM (bt s st S S) 20) → CW G Kx mX4_plan (n + 4) 106 [some (vO 12), some (vO 3), some (vI x2), some (vI x3), some (vI x4), some (vO 6), some (vI ((2 ^ (s 7).toNat : Nat) : Int)), some (vI (S : Int)), some (vI x8)] [] M1 (qV Q) := by
        intro x8 M1 a1 a2 a3 a4 a5 a6 a7
        have f4 : M1 4 = M 4 := by rw [a1.obj (o := 4) (by decide), e4]
        have f6 : M1 6 = M 6 := by rw [a1.obj (o := 6) (by decide), e6]
        refine bX4_plan_106 (o1 := 3) rfl ⟨fun z => absurd z (by omega), fun _ => ?_⟩
        -- the way on, once the weights are right
        have on : ∀ M2 : Mem, EqX plF Mc M2 → M2 13 = M1 13 → PTb s M2 (bt s st S) → (M2 12 2 0 = wS s (bw s st x3 (S + 1)).1 (s 7).toNat ∧ M2 12 3 0 = ((bw s st x3 (S + 1)).1 : Int) ∧ M2 12 4 0 = (bw s st x3 (S + 1)).2) → OkV G (n + 3) mX5_spread [vO 13, vO 4] M2 (fun M2 => OkV G (n + 3) mX4_goOn [vO 12, vO 6, vI (S : Int)] M2 (fun M3 => CW G Kx mX4_plan (n + 4) 51 [some (vO 12), some (vO 3), some (vI x2), some (vI x3), some (vI x4), some (vO 6), some (vI ((2 ^ (s 7).toNat : Nat) : Int)), some (vI (wr ((S : Int) + 1))), none] [] M3 (qV Q))) := by
          intro M2 b1 b2 b3 b4
          have g4 : M2 4 = M 4 := by rw [b1.obj (o := 4) (by decide), e4]
          have t13 : tbC M2 13 = tbC M1 13 := by funext r u; show M2 13 0 _ = M1 13 0 _; rw [b2]
          refine c5_spread rfl rfl (by rw [g4]; exact H) K (srcB_ok K LO hst (hgd S) S 20) (by rw [t13]; exact a2) (by rw [t13]; exact a3) (by rw [t13]; exact a4) (fun M3 c1 c2 c3 => ?_)
          have g6 : M3 6 = M 6 := by rw [c1.obj (o := 6) (by decide), b1.obj (o := 6) (by decide), e6]
          refine c4_goOn K (by rw [g6]; exact L) LO hS (srcB_ok K LO hst (hgd S) S 20) c3 c2 (hgd S) (fun S2 c d1 d2 => by rw [c1 12 1 _ (by decide)]; exact b3 S2 c d1 d2) (fun M4 d1 d2 => nxt M4 ((i1.trans b1).trans ((c1.sub (by decide)).trans (d1.sub (by decide)))) d2 ?_)
          rw [d1 12 2 0 (by decide), c1 12 2 0 (by decide), d1 12 3 0 (by decide), c1 12 3 0 (by decide), d1 12 4 0 (by decide), c1 12 4 0 (by decide)]
          exact b4
        have hP1 : ∀ M2 : Mem, EqX [(12, 2), (12, 3), (12, 4)] M1 M2 → PTb s M2 (bt s st S) := fun M2 b S2 c d1 d2 => by rw [b 12 1 _ (by decide), a1 12 1 _ (by decide)]; exact i2 S2 c d1 d2
        have w2 : M1 12 2 0 = Mc 12 2 0 := a1 12 2 0 (by decide)
        have w3 : M1 12 3 0 = Mc 12 3 0 := a1 12 3 0 (by decide)
        have w4 : M1 12 4 0 = Mc 12 4 0 := a1 12 4 0 (by decide)
        have hbs := bw_s (s := s) (st := st) (m0 := x3) S
        have hwr := wS_rng LO (S := S) (s 7).toNat (by omega)
        refine c4_weigh (by rw [f6]; exact L) LO (by omega) (fun z => ?_) (fun z M2 b1 b2 b3 b4 => ?_)
        · have hS0 : S ≠ 0 := fun e => z (Or.inl (by rw [w2, i3 e]; omega))
          obtain ⟨j1, j2, j3⟩ := i4 hS0
          rw [w2, w4, j1, j3, a7 hS0] at z
          rw [if_neg (fun w => z (by rcases w.2.2 with q | q; exact Or.inl q; exact Or.inr q))] at hbs
          refine on M1 (a1.sub (by decide)) rfl (hP1 M1 EqX.rf) ?_
          rw [hbs, w2, w3, w4]; exact ⟨j1, j2, j3⟩
        · refine on M2 ((a1.sub (by decide)).trans (b1.sub (by decide))) (b1.obj (by decide)) (hP1 M2 b1) ?_
          rw [b2, b3, b4]
          by_cases hS0 : S = 0
          · rw [if_neg (fun w => w.1 hS0)] at hbs
            have hb0 : bw s st x3 S = (0, x3) := by rw [hS0]; rfl
            rw [hbs, hb0, a6 hS0, hS0]; exact ⟨rfl, rfl, rfl⟩
          · obtain ⟨j1, j2, j3⟩ := i4 hS0
            rw [w2, w4, j1, j3, a7 hS0] at z
            rw [if_pos ⟨hS0, by rw [← a7 hS0]; exact a5, z⟩] at hbs
            rw [hbs, a7 hS0]; exact ⟨rfl, rfl, rfl⟩
      refine ⟨fun z => ?_, fun z => ?_⟩
      · have hS0 : S ≠ 0 := by omega
        have esb : srcB s st (bt s st S S) S 20 = srcC s (bt s st S S) 20 := if_neg hS0
        have hB := hgd S S
        have e6' : mfill Mc 13 0 32 1000000 6 = M 6 := by rw [mf.obj (o := 6) (by decide), e6]
        refine c4_layOut (B := bt s st S S) K (by rw [e6']; exact L) LO (by omega) hB (fun c hc => by rw [mf 12 1 _ (by decide)]; exact i2 S c (by omega) hc) hTO0 hcl' (fun M1 a1 a2 a3 a4 => ?_)
        have hgs := sM_gd (B := bt s st S S) (fun c => by rcases hB c with q | q; exact Or.inl ⟨q.1, q.2.1⟩; exact Or.inr q) 20
        have hE1 : EqX [(13, 0)] Mc M1 := mf.trans a1
        by_cases hq : sM (bt s st S S) 20 ≤ 1439
        · have ee : enA (sM (bt s st S S) 20) = sM (bt s st S S) 20 := if_pos hq
          rw [ee]
          exact go _ M1 hE1 a2 (by rw [esb]; exact a3) (by rw [esb]; exact a4) hq (fun e => absurd e hS0) (fun _ => rfl)
        · have ee : enA (sM (bt s st S S) 20) = 1000000 := if_neg hq
          rw [ee]
          refine bX4_plan_106 (o1 := 3) rfl ⟨fun _ => ?_, fun y => absurd (by decide) y⟩
          obtain ⟨j1, j2, j3⟩ := i4 hS0
          have hno : ∀ c, c < 20 → bt s st S S c = 99999 := by
            rcases hgs with q | q
            · omega
            · exact q.2
          have hbs := bw_s (s := s) (st := st) (m0 := x3) S
          rw [if_neg (fun w => hq w.2.1)] at hbs
          have hbt : bt s st (S + 1) = bt s st S := by
            rw [bt_s, esb]
            refine upS_none K LO ?_ (hgd S)
            rintro r u m ⟨c, c1, c2, -⟩
            rw [hno c c1] at c2; omega
          refine nxt M1 (i1.trans (hE1.sub (by decide))) ?_ ?_
          · rw [hbt]; exact fun S2 c d1 d2 => by rw [hE1 12 1 _ (by decide)]; exact i2 S2 c d1 d2
          · rw [hbs, hE1 12 2 0 (by decide), hE1 12 3 0 (by decide), hE1 12 4 0 (by decide)]; exact ⟨j1, j2, j3⟩
      · have hS0 : S = 0 := by omega
        have esb : srcB s st (bt s st S S) S 20 = st := if_pos hS0
        have put : ∀ u : Int, (if x4 = 0 then 1 else 0) = u → OkI G (n + 3) mX5_put [vO 13, vI x2, vI u, vI x3] (mfill Mc 13 0 32 1000000) (fun _ M3 => CW G Kx mX4_plan (n + 4) 106 [some (vO 12), some (vO 3), some (vI x2), some (vI x3), some (vI x4), some (vO 6), some (vI ((2 ^ (s 7).toNat : Nat) : Int)), some (vI (S : Int)), some (vI x3)] [] M3 (qV Q)) := by
          intro u eu
          rw [eu] at hstd hu
          refine c5_put rfl h1 (by omega) hu.2.2 (fun y => ?_) (fun y1 y2 => ?_)
          · rw [hcl' _ _ hu] at y; omega
          · have hsnd0 : Snd s st (tbC (mfill Mc 13 0 32 1000000) 13) := fun r u v d => by rw [hcl' r u v] at d; omega
            have hsg := put_Sg K hu hTO0 hsnd0 h3 h4 y2 (by rw [← hstd]; exact Rch_src ⟨rfl, rfl, rfl⟩)
            refine go x3 _ (mf.trans (EqX.mset (by decide))) hsg.1 (by rw [esb]; exact hsg.2.1) ?_ h4 (fun _ => rfl) (fun e => absurd hS0 e)
            rw [esb, ← hstd]
            rintro r u' m ⟨rfl, rfl, rfl⟩
            rw [tbC_set h1 (by omega) hu.2.2 h1 (by omega) hu.2.2, if_pos ⟨rfl, rfl⟩]; exact Int.le_refl _
        exact ⟨fun y => put 1 (if_pos y), fun y => put 0 (if_neg y)⟩
  refine loop 0 M2 (by omega) ⟨?_, fun S2 c d1 d2 => ?_, fun _ => by rw [em2, mset_self], fun z => absurd rfl z⟩
  · rw [em2]; exact (mfill_eqX.sub (by decide)).trans (EqX.mset (by decide))
  · rw [em2, mset_ne (by simp)]
    show (if _ then _ else _) = enA 99999
    rw [if_pos ⟨rfl, rfl, by omega⟩]; rfl
end BSD
