/-! ===== brought ===== -/
section BRD
variable {G : Gx} {n : Nat} {M : Mem} {s : Int → Int} {th : Int → Int} {N : Int → Nat}
noncomputable abbrev rdT (s : Int → Int) (th : Int → Int) (N : Int → Nat) (A : Int → Int) (t : Nat) : Int → Int := rdA (frT s th) (atT s th) (toT s th) (coT s th) N A t
noncomputable abbrev itT (s : Int → Int) (th : Int → Int) (N : Int → Nat) (A : Int → Int) (j : Nat) : Int → Int := itA (frT s th) (atT s th) (toT s th) (coT s th) N (s 8).toNat A j
theorem rdT_s {A : Int → Int} (t : Nat) : rdT s th N A (t + 1) = (tkT s th (t : Int) (rdT s th N A t) (N (t : Int))).2 := rfl
theorem itT_s {A : Int → Int} (j : Nat) : itT s th N A (j + 1) = rdT s th N (itT s th N A j) (s 8).toNat := rfl
theorem Flg_0 {A : Int → Int} : Flg 0 A A := ⟨Or.inl rfl, fun _ => rfl, fun z => absurd z (by decide), fun _ => Int.le_refl _⟩
/-- the class's rounds -/
theorem l11_brought {Kx : Kx} {Q : Int → Mem → Prop} {x3 : Int} {A0 Z : Int → Int} (H : HR (M 4) s) (K : HOK s) (L : LR (M 6) s) (LO : LOK s) (hth : ∀ t : Int, 0 ≤ t → t < s 8 → M 6 12 t.toNat = th t) (hT : TD s th N) (hx : 0 ≤ x3 ∧ x3 < 16) (hZ : Z = itT s th N A0 16) (hst : rdT s th N Z (s 8).toNat = Z)
    (h : ∀ M' : Mem, EqX ((1, 11) :: wkF) M M' → (Z x3 ≤ 1439 → Q (Z x3) M') ∧ (1439 < Z x3 → Q (-2) M')) :
    ∀ (f j : Nat) (c : Int) (Mc : Mem), j ≤ 17 → 17 - j ≤ f → EqX ((1, 11) :: wkF) M Mc → (∀ r : Int, 0 ≤ r → r < 16 → Mc 1 11 r.toNat = enA (itT s th N A0 j r)) → (c = 0 → itT s th N A0 j = Z) → CW G Kx mX11_brought (n + 5) 48 [some (vO 1), none, none, some (vI x3), some (vI c), some (vI (j : Int)), none] [] Mc (qI Q) := by
  have l8 := LO.2.1
  have hend : ∀ (j : Nat) (Mc : Mem), EqX ((1, 11) :: wkF) M Mc → (∀ r : Int, 0 ≤ r → r < 16 → Mc 1 11 r.toNat = enA (itT s th N A0 j r)) → itT s th N A0 j = Z → OkI G (n + 4) mX11_orNotToday [vI (Mc 1 11 x3.toNat)] Mc (fun r_1 M1 => Q r_1 M1) := by
    intro j Mc i1 i2 i3
    rw [i2 x3 hx.1 hx.2, i3]
    obtain ⟨q1, q2⟩ := h Mc i1
    unfold enA
    by_cases e : Z x3 ≤ 1439
    · rw [if_pos e]; exact c11_orNotToday (fun _ => q1 e) (fun z => absurd z (by omega))
    · rw [if_neg e]; exact c11_orNotToday (fun z => absurd z (by omega)) (fun _ => q2 (by omega))
  intro f
  induction f with
  | zero =>
    intro j c Mc a b i1 i2 i3
    have : j = 17 := by omega
    subst this
    refine bX11_brought_48 ⟨fun _ => ⟨hx, hend 17 Mc i1 i2 ?_⟩, fun z => absurd (by decide) z⟩
    rw [itT_s, ← hZ]; exact hst
  | succ f ih =>
    intro j c Mc a b i1 i2 i3
    refine bX11_brought_48 ⟨fun z => ⟨hx, hend j Mc i1 i2 ?_⟩, fun z => ⟨fun y => ⟨hx, hend j Mc i1 i2 (i3 y)⟩, fun y => ?_⟩⟩
    · have : j = 17 := by omega
      subst this
      rw [itT_s, ← hZ]; exact hst
    · have inner : ∀ (t : Nat) (p : Int × Mem), t ≤ (s 8).toNat → (EqX ((1, 11) :: wkF) M p.2 ∧ Flg p.1 (itT s th N A0 j) (rdT s th N (itT s th N A0 j) t) ∧ (∀ r : Int, 0 ≤ r → r < 16 → p.2 1 11 r.toNat = enA (rdT s th N (itT s th N A0 j) t r))) → CW G Kx mX11_brought (n + 5) 66 [some (vO 1), none, none, some (vI x3), some (vI p.1), some (vI (j : Int)), some (vI (t : Int))] [] p.2 (qI Q) := by
        refine up_ind (fun p i => ?_) (fun t p ht i iht => ?_)
        · obtain ⟨v, M2⟩ := p
          dsimp only at i ⊢
          obtain ⟨j1, j2, j3⟩ := i
          have e2 : M2 6 2 0 = s 8 := by rw [j1.obj (o := 6) (by decide)]; exact L.2.2.1
          refine bX11_brought_66 ?_
          rw [e2, wr_n (b := 20) (k := j) (by omega) (by omega)]
          refine ⟨fun _ => ih (j + 1) v M2 (by omega) (by omega) j1 j3 (fun e => ?_), fun w => absurd (by omega) w⟩
          have hstab : rdT s th N (itT s th N A0 j) (s 8).toNat = itT s th N A0 j := j2.2.1 e
          have := it_stab (fr := frT s th) (at_ := atT s th) (to_ := toT s th) (co := coT s th) (N := N) (T := (s 8).toNat) (A := A0) (j := j) hstab (16 - j)
          rw [show j + (16 - j) = 16 by omega] at this
          rw [itT_s, hstab, hZ]; exact this.symm
        · obtain ⟨v, M2⟩ := p
          dsimp only at i iht ⊢
          obtain ⟨j1, j2, j3⟩ := i
          have e6 : M2 6 = M 6 := j1.obj (by decide)
          have e4 : M2 4 = M 4 := j1.obj (by decide)
          have e2 : M2 6 2 0 = s 8 := by rw [e6]; exact L.2.2.1
          refine bX11_brought_66 ?_
          rw [e2, wr_n (b := 20) (k := t) (by omega) (by omega)]
          refine ⟨fun w => absurd w (by omega), fun _ => ?_⟩
          refine c11_take (s := s) (th := th) (N := N) (by rw [e4]; exact H) K (by rw [e6]; exact L) LO (fun t a b => by rw [e6]; exact hth t a b) hT (by omega) (by omega) j3 (fun c' M3 d1 d2 d3 => ?_)
          exact iht (bOr v c', M3) ⟨j1.trans d1, Flg_trans j2 d2, d3⟩
      exact inner 0 (0, Mc) (by omega) ⟨i1, Flg_0, i2⟩
theorem l12_brought {Kx : Kx} {Q : Int → Mem → Prop} {x3 : Int} {A0 Z : Int → Int} (hs : sd M = s) (K : HOK s) (LO : LOK s) (hT : TD s th N) (hx : 0 ≤ x3 ∧ x3 < 16) (hZ : Z = itT s th N A0 16) (hst : rdT s th N Z (s 8).toNat = Z) (hcan : Z x3 ≤ 1439 ∨ Z x3 = 99999)
    (h : ∀ M' : Mem, EqX ((0, 40) :: lgF) M M' → (Z x3 ≤ 1439 → Q (Z x3) M') ∧ (1439 < Z x3 → Q (-2) M')) :
    ∀ (f j : Nat) (c : Int) (Mc : Mem), j ≤ 17 → 17 - j ≤ f → EqX ((0, 40) :: lgF) M Mc → (∀ r : Int, 0 ≤ r → r < 16 → Mc 0 40 r.toNat = itT s th N A0 j r) → (c = 0 → itT s th N A0 j = Z) → (j = 17 → c = 0) → CW G Kx mX12_brought (n + 8) 63 [some (vO 0), none, none, some (vI x3), some (vI c), none] [] Mc (qI Q) := by
  have l8 := LO.2.1
  have hend : ∀ (j : Nat) (Mc : Mem), EqX ((0, 40) :: lgF) M Mc → (∀ r : Int, 0 ≤ r → r < 16 → Mc 0 40 r.toNat = itT s th N A0 j r) → itT s th N A0 j = Z → (0 ≤ x3 ∧ x3 < 16) ∧ ((¬ Mc 0 40 x3.toNat = 99999 → (0 ≤ x3 ∧ x3 < 16) ∧ (Q (Mc 0 40 x3.toNat) Mc)) ∧ (Mc 0 40 x3.toNat = 99999 → Q (-2) Mc)) := by
    intro j Mc i1 i2 i3
    rw [i2 x3 hx.1 hx.2, i3]
    obtain ⟨q1, q2⟩ := h Mc i1
    exact ⟨hx, fun z => ⟨hx, q1 (by omega)⟩, fun z => q2 (by omega)⟩
  intro f
  induction f with
  | zero =>
    intro j c Mc a b i1 i2 i3 i4
    have : j = 17 := by omega
    exact bX12_brought_63 ⟨fun z => hend j Mc i1 i2 (i3 z), fun z => absurd (i4 this) z⟩
  | succ f ih =>
    intro j c Mc a b i1 i2 i3 i4
    refine bX12_brought_63 ⟨fun z => hend j Mc i1 i2 (i3 z), fun z => ?_⟩
    have hj : j ≤ 16 := by
      apply Classical.byContradiction
      intro q
      exact z (i4 (by omega))
    have inner : ∀ (t : Nat) (p : Int × Mem), t ≤ (s 8).toNat → (EqX ((0, 40) :: lgF) M p.2 ∧ Flg p.1 (itT s th N A0 j) (rdT s th N (itT s th N A0 j) t) ∧ (∀ r : Int, 0 ≤ r → r < 16 → p.2 0 40 r.toNat = rdT s th N (itT s th N A0 j) t r)) → CW G Kx mX12_brought (n + 8) 74 [some (vO 0), none, none, some (vI x3), some (vI p.1), some (vI (t : Int))] [] p.2 (qI Q) := by
      refine up_ind (fun p i => ?_) (fun t p ht i iht => ?_)
      · obtain ⟨v, M2⟩ := p
        dsimp only at i ⊢
        obtain ⟨j1, j2, j3⟩ := i
        have e2 : M2 0 26 8 = s 8 := by rw [← hs]; exact sd_eq j1 (by decide) 8
        refine bX12_brought_74 ?_
        rw [e2]
        refine ⟨fun _ => ih (j + 1) v M2 (by omega) (by omega) j1 j3 (fun e => ?_) (fun e => ?_), fun w => absurd (by omega) w⟩
        · have hstab : rdT s th N (itT s th N A0 j) (s 8).toNat = itT s th N A0 j := j2.2.1 e
          have := it_stab (fr := frT s th) (at_ := atT s th) (to_ := toT s th) (co := coT s th) (N := N) (T := (s 8).toNat) (A := A0) (j := j) hstab (16 - j)
          rw [show j + (16 - j) = 16 by omega] at this
          rw [itT_s, hstab, hZ]; exact this.symm
        · have e16 : j = 16 := by omega
          subst e16
          rw [← hZ, hst] at j2
          rcases j2.1 with q | q
          · exact q
          · obtain ⟨r, hr⟩ := j2.2.2.1 q
            omega
      · obtain ⟨v, M2⟩ := p
        dsimp only at i iht ⊢
        obtain ⟨j1, j2, j3⟩ := i
        have es : sd M2 = s := (DR4 j1 (by decide)).trans hs
        have e2 : M2 0 26 8 = s 8 := by rw [← es]; rfl
        refine bX12_brought_74 ?_
        rw [e2, wr_n (b := 20) (k := t) (by omega) (by omega)]
        refine ⟨fun w => absurd w (by omega), fun _ => ?_⟩
        refine c12_carries (s := s) (th := th) (N := N) es K LO hT (by omega) (by omega) j3 (fun c' M3 d1 d2 d3 => ?_)
        exact iht (bOr v c', M3) ⟨j1.trans d1, Flg_trans j2 d2, d3⟩
    exact inner 0 (0, Mc) (by omega) ⟨i1, Flg_0, i2⟩
theorem it_can {fr at_ to_ co : Int → Nat → Int} {N : Int → Nat} {T : Nat} (hT : TrOK fr at_ to_ co N T) {A : Int → Int} (hA : ∀ r, A r ≤ 1439 ∨ A r = 99999) : ∀ j r, itA fr at_ to_ co N T A j r ≤ 1439 ∨ itA fr at_ to_ co N T A j r = 99999
  | 0, r => hA r
  | j + 1, r => by
    rcases rdA_chg hT (A := itA fr at_ to_ co N T A j) r T (Nat.le_refl _) with q | q
    · show rdA _ _ _ _ _ _ _ r ≤ 1439 ∨ rdA _ _ _ _ _ _ _ r = 99999
      rw [q]; exact it_can hT hA j r
    · exact Or.inl q
theorem both_brought {x1 x2 x3 : Int} {P : Int → Int → Mem → Prop} (H : HR (M 4) (sd M)) (K : HOK (sd M)) (L : LR (M 6) (sd M)) (LO : LOK (sd M)) (h : ∀ r M2, EqX ((1, 11) :: (0, 40) :: (wkF ++ lgF)) M M2 → P r r M2) : OkI G (n + 9) mX11_brought [vO 1, vI x1, vI x2, vI x3] M (fun r1 M1 => OkI G (n + 9) mX12_brought [vO 0, vI x1, vI x2, vI x3] M1 (fun r2 M2 => P r1 r2 M2)) := by
  have k16 := K.2.1
  have no : ¬ (0 ≤ x1 ∧ x1 < sd M 0 ∧ 0 ≤ x2 ∧ x2 ≤ 1439 ∧ 0 ≤ x3 ∧ x3 < sd M 0) → OkI G (n + 9) mX12_brought [vO 0, vI x1, vI x2, vI x3] M (fun r2 M2 => P (-1) r2 M2) := by
    intro z
    refine eX12_brought (fun Kx => bX12_brought_0 (c12_isRoom (fun p1 p2 => ⟨fun y => absurd y (by decide), fun _ => c12_isMinute (fun p3 p4 => ⟨fun y => absurd y (by decide), fun _ => c12_isRoom (fun p5 p6 => absurd ⟨p1, p2, p3, p4, p5, p6⟩ z) (fun _ => ⟨fun y => absurd rfl y, fun _ => h _ M EqX.rf⟩)⟩) (fun _ => ⟨fun _ => h _ M EqX.rf, fun y => absurd rfl y⟩)⟩) (fun _ => ⟨fun _ => h _ M EqX.rf, fun y => absurd rfl y⟩)))
  refine eX11_brought (fun Kx => bX11_brought_0 (c11_isStart H K (fun p1 p2 p3 p4 => ⟨fun y => absurd y (by decide), fun _ => c1_isRoom rfl H k16 (fun p5 p6 => ⟨fun _ => ?_, fun y => absurd y (by decide)⟩) (fun q => ⟨fun y => absurd rfl y, fun _ => no (by omega)⟩)⟩) (fun q => ⟨fun _ => no (by omega), fun y => absurd rfl y⟩)))
  refine c_fill (N := 16) rfl rfl (by decide) ⟨⟨p1, by omega⟩, fun M4 em => ?_⟩
  have hE4 : EqX ((1, 11) :: wkF) M M4 := by rw [em]; exact (mfill_eqX.sub (by decide)).trans (EqX.mset (by decide))
  obtain ⟨N, hN⟩ := TD_ex (th := fun t => M 6 12 t.toNat) K LO (fun t a b => (L.2.2.2.2.2.2.1 t a b).2.2.2)
  have hok := TD_ok K LO hN
  generalize hthd : (fun t : Int => M 6 12 t.toNat) = th at *
  have hth : ∀ t : Int, 0 ≤ t → t < sd M 8 → M 6 12 t.toNat = th t := fun t _ _ => by rw [← hthd]
  have hrest := it_rest hok (r0 := x1) (m0 := x2) ⟨p1, by omega⟩ p3 (A := fun r => if r = x1 then x2 else 99999) (if_pos rfl) (fun r hr => by rw [if_neg hr]; decide)
  have hcan := it_can hok (A := fun r => if r = x1 then x2 else 99999) (fun r => by
    by_cases e : r = x1
    · exact Or.inl (by rw [if_pos e]; exact p4)
    · exact Or.inr (by rw [if_neg e])) 16 x3
  have h0 : ∀ r : Int, 0 ≤ r → r < 16 → M4 1 11 r.toNat = enA ((fun r => if r = x1 then x2 else 99999) r) := by
    intro r a1 a2
    dsimp only
    by_cases e : r = x1
    · rw [if_pos e, em, e, mset_self]; unfold enA; rw [if_pos p4]
    · rw [if_neg e, em, mset_ne (fun w => e (by have := w.2.2; omega))]
      show (if _ then _ else _) = _
      rw [if_pos ⟨rfl, rfl, by omega⟩]; rfl
  generalize hA0 : (fun r : Int => if r = x1 then x2 else 99999) = A0 at *
  have e4 : M4 4 = M 4 := hE4.obj (by decide)
  have e6 : M4 6 = M 6 := hE4.obj (by decide)
  refine l11_brought (M := M4) (s := sd M) (th := th) (N := N) (A0 := A0) (Z := itT (sd M) th N A0 16) (by rw [e4]; exact H) K (by rw [e6]; exact L) LO (by rw [e6]; exact hth) hN ⟨p5, by omega⟩ rfl hrest (fun M5 i1 => ?_) 17 0 1 M4 (by decide) (by decide) EqX.rf h0 (fun z => absurd z (by decide))
  have hE5 : EqX ((1, 11) :: wkF) M M5 := hE4.trans i1
  have es : sd M5 = sd M := DR4 hE5 (by decide)
  have two : ∀ v : Int, (itT (sd M) th N A0 16 x3 ≤ 1439 → v = itT (sd M) th N A0 16 x3) → (1439 < itT (sd M) th N A0 16 x3 → v = -2) → OkI G (n + 9) mX12_brought [vO 0, vI x1, vI x2, vI x3] M5 (fun r2 M2 => P v r2 M2) := by
    intro v v1 v2
    refine eX12_brought (fun Kx => bX12_brought_0 (c12_isRoom (fun _ _ => ⟨fun y => absurd y (by decide), fun _ => c12_isMinute (fun _ _ => ⟨fun y => absurd y (by decide), fun _ => c12_isRoom (fun _ _ => ⟨fun _ => ?_, fun y => absurd y (by decide)⟩) (fun z => absurd ⟨p5, by rw [es]; exact p6⟩ z)⟩) (fun z => absurd ⟨p3, p4⟩ z)⟩) (fun z => absurd ⟨p1, by rw [es]; exact p2⟩ z)))
    have init : ∀ (k : Nat) (Mc : Mem), k ≤ 16 → (EqX [(0, 40)] M5 Mc ∧ ∀ r : Int, 0 ≤ r → r < (k : Int) → Mc 0 40 r.toNat = A0 r) → CW G Kx mX12_brought (n + 9) 28 [some (vO 0), some (vI x1), some (vI x2), some (vI x3), some (vI (k : Int)), none] [] Mc (qI (fun r2 M2 => P v r2 M2)) := by
      refine up_ind (fun Mc i => ?_) (fun k Mc hk i ih => ?_)
      · refine bX12_brought_28 ⟨fun _ => ?_, fun z => absurd (by decide) z⟩
        have esc : sd Mc = sd M := (DR4 i.1 (by decide)).trans es
        refine l12_brought (M := Mc) (s := sd M) (th := th) (N := N) (A0 := A0) (Z := itT (sd M) th N A0 16) esc K LO hN ⟨p5, by omega⟩ rfl hrest hcan (fun M6 d1 => ?_) 17 0 1 Mc (by decide) (by decide) EqX.rf i.2 (fun z => absurd z (by decide)) (fun z => absurd z (by decide))
        have hh := h v M6 (((hE5.sub (by decide)).trans (i.1.sub (by decide))).trans (d1.sub (by decide)))
        exact ⟨fun z => by rw [← v1 z]; exact hh, fun z => by rw [v2 z] at hh ⊢; exact hh⟩
      · have kb : (0 : Int) ≤ k ∧ (k : Int) < 16 := ⟨by omega, by omega⟩
        refine bX12_brought_28 ⟨fun z => absurd z (by omega), fun _ => ?_⟩
        rw [wr_n (b := 20) (k := k) (by omega) (by omega)]
        have nxt : ∀ (y : Int) (M1 : Mem), y = A0 (k : Int) → M1 = mset Mc 0 40 ((k : Int)).toNat y → CW G Kx mX12_brought (n + 9) 28 [some (vO 0), some (vI x1), some (vI x2), some (vI x3), some (vI ((k + 1 : Nat) : Int)), none] [] M1 (qI (fun r2 M2 => P v r2 M2)) := by
          intro y M1 ey e1
          refine ih M1 ⟨by rw [e1]; exact i.1.trans (EqX.mset (by decide)), fun r a1 a2 => ?_⟩
          by_cases e : r = (k : Int)
          · rw [e1, e, mset_self]; exact ey
          · rw [e1, mset_ne (fun w => e (by have := w.2.2; omega))]; exact i.2 r a1 (by omega)
        refine ⟨fun z => ⟨kb, fun M1 e1 => nxt _ M1 (by rw [← hA0]; dsimp only; rw [if_neg z]) e1⟩, fun z => ⟨kb, fun M1 e1 => nxt _ M1 (by rw [← hA0]; dsimp only; rw [if_pos z]) e1⟩⟩
    exact init 0 M5 (by omega) ⟨EqX.rf, fun r a1 a2 => by omega⟩
  exact ⟨fun z => two _ (fun _ => rfl) (fun y => by omega), fun z => two _ (fun y => by omega) (fun _ => rfl)⟩
end BRD
