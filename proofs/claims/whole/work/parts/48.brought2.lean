/-! ===== brought: both sides ===== -/
section BRC
variable {G : Gx} {n : Nat} {M : Mem} {s : Int → Int} {th : Int → Int} {N : Int → Nat}
noncomputable def sqT (s : Int → Int) (th : Int → Int) (t : Int) (k : Nat) : Int × Int := sq s (s (252 + 3 * t + 2)) (th t) (s (252 + 3 * t + 0)) (s (252 + 3 * t + 1)) k
noncomputable def fwT (s : Int → Int) (th : Int → Int) (t : Int) (k : Nat) : Int := fw s (s (252 + 3 * t + 2)) (th t) (sqT s th t k).1 (sqT s th t k).2
noncomputable def frT (s : Int → Int) (th : Int → Int) (t : Int) (k : Nat) : Int := (sqT s th t k).1
noncomputable def atT (s : Int → Int) (th : Int → Int) (t : Int) (k : Nat) : Int := opW s (fwT s th t k) (sqT s th t k).2
noncomputable def toT (s : Int → Int) (th : Int → Int) (t : Int) (k : Nat) : Int := (sqT s th t (k + 1)).1
noncomputable def coT (s : Int → Int) (th : Int → Int) (t : Int) (k : Nat) : Int := (sqT s th t (k + 1)).2
def TD (s : Int → Int) (th : Int → Int) (N : Int → Nat) : Prop := ∀ t : Int, 0 ≤ t → t < s 8 → TTh s t (th t) ∧ N t ≤ 1439 ∧ isN s (s (252 + 3 * t + 2)) (th t) (s (252 + 3 * t + 0)) (s (252 + 3 * t + 1)) (N t)
theorem TD_ex (K : HOK s) (LO : LOK s) (h : ∀ t : Int, 0 ≤ t → t < s 8 → TTh s t (th t)) : ∃ N, TD s th N := by
  have : ∀ t : Int, ∃ N : Nat, 0 ≤ t → t < s 8 → N ≤ 1439 ∧ isN s (s (252 + 3 * t + 2)) (th t) (s (252 + 3 * t + 0)) (s (252 + 3 * t + 1)) N := by
    intro t
    by_cases z : 0 ≤ t ∧ t < s 8
    · obtain ⟨b1, b2, b3⟩ := LO.2.2.2.2.2.2.1 t z.1 z.2
      obtain ⟨hC, hv0, hv1⟩ := TTh_can K LO z.1 z.2 (h t z.1 z.2)
      obtain ⟨N, N1, hN⟩ := sq_N K hv1 b1 b2.1 hC
      exact ⟨N, fun _ _ => ⟨N1, hN⟩⟩
    · exact ⟨0, fun a b => absurd ⟨a, b⟩ z⟩
  obtain ⟨f, hf⟩ := Classical.axiomOfChoice this
  exact ⟨f, fun t a b => ⟨h t a b, hf t a b⟩⟩
/-- one place of a trip -/
theorem TD_at (K : HOK s) (LO : LOK s) (hT : TD s th N) {t : Int} (t1 : 0 ≤ t) (t2 : t < s 8) {k : Nat} (hk : k ≤ N t) : Rm s (sqT s th t k).1 ∧ 0 ≤ (sqT s th t k).2 ∧ (sqT s th t k).2 ≤ 1439 ∧ Can s (s (252 + 3 * t + 2)) (th t) (sqT s th t k).1 (sqT s th t k).2 ∧ (k < N t → (sqT s th t k).1 ≠ s (252 + 3 * t + 2) ∧ (sqT s th t k).2 ≤ atT s th t k ∧ atT s th t k < (sqT s th t (k + 1)).2 ∧ atT s th t k ≤ 1439) := by
  obtain ⟨h1, h2, h3⟩ := hT t t1 t2
  obtain ⟨b1, b2, b3⟩ := LO.2.2.2.2.2.2.1 t t1 t2
  obtain ⟨hC, hv0, hv1⟩ := TTh_can K LO t1 t2 h1
  obtain ⟨o1, o2, o3⟩ := sq_ok K b1 b2.1 hC k (fun j hj => h3.2 j (by omega))
  have hle := Can_le K o3
  refine ⟨o1, ?_, ?_, o3, fun hk' => ?_⟩
  · show 0 ≤ (sq s _ _ _ _ k).2; omega
  · show (sq s _ _ _ _ k).2 ≤ 1439; omega
  · have hne := h3.2 k hk'
    obtain ⟨⟨w1, w2⟩, e1, e2, e3⟩ := fw_ok o3 hne
    have := opW_ge2 e2
    have := (K.way w1 w2).2.2.1
    refine ⟨hne, this |> fun _ => opW_ge2 e2, ?_, e2⟩
    show opW s _ _ < opW s _ _ + s (28 + 6 * _ + 2)
    exact Int.lt_add_of_pos_right _ (by omega)
theorem TD_mono (K : HOK s) (LO : LOK s) (hT : TD s th N) {t : Int} (t1 : 0 ≤ t) (t2 : t < s 8) {k : Nat} : ∀ d : Nat, k + d ≤ N t → (sqT s th t k).2 ≤ (sqT s th t (k + d)).2
  | 0, _ => Int.le_refl _
  | d + 1, h => by
    have ih := TD_mono K LO hT t1 t2 (k := k) d (by omega)
    obtain ⟨-, -, -, -, q⟩ := TD_at K LO hT t1 t2 (k := k + d) (by omega)
    obtain ⟨-, q1, q2, -⟩ := q (by omega)
    show _ ≤ (sqT s th t ((k + d) + 1)).2
    omega
theorem TD_ok (K : HOK s) (LO : LOK s) (hT : TD s th N) : TrOK (frT s th) (atT s th) (toT s th) (coT s th) N (s 8).toNat := by
  have k16 := K.2.1
  intro t ht k hk
  have t1 : (0 : Int) ≤ t := by omega
  have t2 : (t : Int) < s 8 := by omega
  obtain ⟨a1, a2, a3, a4, a5⟩ := TD_at K LO hT t1 t2 (k := k) (by omega)
  obtain ⟨a6, a7, a8, a9⟩ := a5 hk
  obtain ⟨b1, b2, b3, -⟩ := TD_at K LO hT t1 t2 (k := k + 1) (by omega)
  refine ⟨⟨by omega, a9⟩, ⟨b2, b3⟩, ⟨a1.1, by have := a1.2; unfold frT; omega⟩, ⟨b1.1, by have := b1.2; unfold toT; omega⟩, fun k1 hk1 => ?_⟩
  obtain ⟨-, -, -, -, c5⟩ := TD_at K LO hT t1 t2 (k := k1) (by omega)
  obtain ⟨-, -, c8, -⟩ := c5 (by omega)
  have := TD_mono K LO hT t1 t2 (k := k1 + 1) (k - k1) (by omega)
  rw [show k1 + 1 + (k - k1) = k + 1 by omega] at this
  show _ < (sqT s th t (k + 1)).2
  omega
def enA (x : Int) : Int := if x ≤ 1439 then x else 1000000
theorem enA_lt {x a : Int} (h : x ≤ 1439) : x < enA a ↔ x < a := by
  unfold enA; split <;> omega
theorem enA_le {x a : Int} (h : x ≤ 1439) : enA a ≤ x ↔ a ≤ x := by
  unfold enA; split <;> omega
theorem updA_at {A : Int → Int} {r v x : Int} : updA A r v x = if x = r then v else A x := rfl
noncomputable abbrev tkT (s : Int → Int) (th : Int → Int) (t : Int) (A : Int → Int) (k : Nat) : Bool × (Int → Int) := tk (frT s th t) (atT s th t) (toT s th t) (coT s th t) A k
theorem bOrB {a b : Bool} : bOr (if a = true then 1 else 0) (if b = true then 1 else 0) = if (a || b) = true then 1 else 0 := by
  cases a <;> cases b <;> decide
theorem tk_snd_eq {fr at_ to_ co : Nat → Int} {A : Int → Int} (k : Nat) : (tk fr at_ to_ co A (k + 1)).2 = if ((tk fr at_ to_ co A k).1 || decide ((tk fr at_ to_ co A k).2 (fr k) ≤ at_ k)) = true ∧ co k < (tk fr at_ to_ co A k).2 (to_ k) then updA (tk fr at_ to_ co A k).2 (to_ k) (co k) else (tk fr at_ to_ co A k).2 := rfl
theorem tk_fst_eq {fr at_ to_ co : Nat → Int} {A : Int → Int} (k : Nat) : (tk fr at_ to_ co A (k + 1)).1 = ((tk fr at_ to_ co A k).1 || decide ((tk fr at_ to_ co A k).2 (fr k) ≤ at_ k)) := rfl
/-- what a flag says of a table and the one before -/
def Flg (c : Int) (A A' : Int → Int) : Prop := (c = 0 ∨ c = 1) ∧ (c = 0 → A' = A) ∧ (c = 1 → ∃ r, A' r < A r) ∧ ∀ r, A' r ≤ A r
theorem Flg_trans {c c' : Int} {A B C : Int → Int} (h : Flg c A B) (h' : Flg c' B C) : Flg (bOr c c') A C := by
  obtain ⟨a1, a2, a3, a4⟩ := h
  obtain ⟨b1, b2, b3, b4⟩ := h'
  have le : ∀ r, C r ≤ A r := fun r => Int.le_trans (b4 r) (a4 r)
  rcases a1 with e | e <;> rcases b1 with e' | e' <;> subst e e'
  · exact ⟨Or.inl rfl, fun _ => (b2 rfl).trans (a2 rfl), fun z => absurd z (by decide), le⟩
  · obtain ⟨r, hr⟩ := b3 rfl
    exact ⟨Or.inr rfl, fun z => absurd z (by decide), fun _ => ⟨r, by have := a4 r; omega⟩, le⟩
  · obtain ⟨r, hr⟩ := a3 rfl
    exact ⟨Or.inr rfl, fun z => absurd z (by decide), fun _ => ⟨r, by have := b4 r; omega⟩, le⟩
  · obtain ⟨r, hr⟩ := a3 rfl
    exact ⟨Or.inr rfl, fun z => absurd z (by decide), fun _ => ⟨r, by have := b4 r; omega⟩, le⟩
theorem c11_take {Q : Int → Mem → Prop} {t : Int} {A : Int → Int} (H : HR (M 4) s) (K : HOK s) (L : LR (M 6) s) (LO : LOK s) (hth : ∀ t : Int, 0 ≤ t → t < s 8 → M 6 12 t.toNat = th t) (hT : TD s th N) (t1 : 0 ≤ t) (t2 : t < s 8) (hA : ∀ r : Int, 0 ≤ r → r < 16 → M 1 11 r.toNat = enA (A r))
    (h : ∀ (c : Int) (M' : Mem), EqX ((1, 11) :: wkF) M M' → Flg c A (tkT s th t A (N t)).2 → (∀ r : Int, 0 ≤ r → r < 16 → M' 1 11 r.toNat = enA ((tkT s th t A (N t)).2 r)) → Q c M') : OkI G (n + 4) mX11_takeAlong [vO 1, vI t] M Q := by
  have k16 := K.2.1
  obtain ⟨h1, h2, h3⟩ := hT t t1 t2
  obtain ⟨hC, hv0, hv1⟩ := TTh_can K LO t1 t2 h1
  have hok := TD_ok K LO hT t.toNat (by omega)
  rw [Int.toNat_of_nonneg t1] at hok
  refine eX11_takeAlong (fun Kx => bX11_takeAlong_0 (c10_begin H K L LO t1 t2 (hth t t1 t2) ⟨hv0, hv1⟩ (fun M1 i1 i2 i3 i4 i5 i6 => ?_)))
  have loop : ∀ (k : Nat) (a : Int × Mem), k ≤ N t → (EqX ((1, 11) :: wkF) M a.2 ∧ Flg a.1 A (tkT s th t A k).2 ∧ (∀ r : Int, 0 ≤ r → r < 16 → a.2 1 11 r.toNat = enA ((tkT s th t A k).2 r)) ∧ a.2 11 1 0 = s (252 + 3 * t + 2) ∧ a.2 11 2 0 = (sqT s th t k).1 ∧ a.2 11 3 0 = (sqT s th t k).2 ∧ LSd s (s (252 + 3 * t + 2)) (th t) (lt a.2) ∧ LAll s (s (252 + 3 * t + 2)) (th t) (lt a.2)) → CW G Kx mX11_takeAlong (n + 4) 29 [some (vO 1), none, some (vI a.1), some (vI (if (tkT s th t A k).1 = true then 1 else 0)), some (vI (k : Int)), none] [] a.2 (qI Q) := by
    refine up_ind (fun a i => ?_) (fun k a hk i ih => ?_)
    · obtain ⟨c, Mc⟩ := a
      dsimp only at i ⊢
      obtain ⟨j1, j2, j3, j4, j5, j6, j7, j8⟩ := i
      obtain ⟨o1, o2, o3, o4, -⟩ := TD_at K LO hT t1 t2 (k := N t) (Nat.le_refl _)
      have e4 : Mc 4 = M 4 := j1.obj (by decide)
      refine bX11_takeAlong_29 ⟨fun z => absurd z (by omega), fun _ => ?_⟩
      rw [j5]
      refine c1_isRoom rfl (by rw [e4]; exact H) k16 (fun _ _ => ⟨fun z => absurd z (by decide), fun _ => ?_⟩) (fun z => absurd o1 z)
      refine c10_step (by rw [e4]; exact H) K hv1 j4 j5 j6 o1 o2 o4 j7 j8 (fun _ => ⟨fun _ => ⟨j2.1, h c Mc j1 j2 j3⟩, fun z => absurd rfl z⟩) (fun z => absurd h3.1 z)
    · obtain ⟨c, Mc⟩ := a
      dsimp only at i ih ⊢
      obtain ⟨j1, j2, j3, j4, j5, j6, j7, j8⟩ := i
      obtain ⟨o1, o2, o3, o4, o5⟩ := TD_at K LO hT t1 t2 (k := k) (by omega)
      obtain ⟨p1, p2, p3, p4⟩ := o5 hk
      obtain ⟨q1, q2, q3, -⟩ := TD_at K LO hT t1 t2 (k := k + 1) (by omega)
      have r1 := o1.1
      have r2 := o1.2
      have s1 := q1.1
      have s2 := q1.2
      have e4 : Mc 4 = M 4 := j1.obj (by decide)
      refine bX11_takeAlong_29 ⟨fun z => absurd z (by omega), fun _ => ?_⟩
      rw [j5]
      refine c1_isRoom rfl (by rw [e4]; exact H) k16 (fun _ _ => ⟨fun z => absurd z (by decide), fun _ => ?_⟩) (fun z => absurd o1 z)
      refine c10_step (by rw [e4]; exact H) K hv1 j4 j5 j6 o1 o2 o4 j7 j8 (fun z => absurd z p1) (fun hne M2 d1 d2 d3 d4 d5 => ⟨fun z => absurd z (by decide), fun _ => ?_⟩)
      have d4' : M2 11 2 0 = (sqT s th t (k + 1)).1 := d4
      have d5' : M2 11 3 0 = (sqT s th t (k + 1)).2 := d5
      have d3' : M2 11 5 0 = atT s th t k := d3
      have e42 : M2 4 = M 4 := by rw [d1.obj (o := 4) (by decide), e4]
      have hlt : lt M2 = lt Mc := funext (fun r => d1 11 0 _ (by decide))
      have hE : EqX ((1, 11) :: wkF) M M2 := j1.trans (d1.sub (by decide))
      have h11 : ∀ i, M2 1 11 i = Mc 1 11 i := fun i => d1 1 11 i (by decide)
      rw [d4']
      refine c1_isRoom rfl (by rw [e42]; exact H) k16 (fun _ _ => ⟨fun _ => ⟨⟨r1, by omega⟩, ?_⟩, fun z => absurd z (by decide)⟩) (fun z => absurd q1 z)
      rw [d3', h11, j3 _ r1 (by omega)]
      have ef := tk_fst_eq (fr := frT s th t) (at_ := atT s th t) (to_ := toT s th t) (co := coT s th t) (A := A) k
      have es := tk_snd_eq (fr := frT s th t) (at_ := atT s th t) (to_ := toT s th t) (co := coT s th t) (A := A) k
      have hco : coT s th t k = (sqT s th t (k + 1)).2 := rfl
      have hto : toT s th t k = (sqT s th t (k + 1)).1 := rfl
      have hfr : frT s th t k = (sqT s th t k).1 := rfl
      rw [hfr] at ef
      rw [hfr, hco, hto] at es
      have fin : ∀ b : Bool, b = decide ((tkT s th t A k).2 (sqT s th t k).1 ≤ atT s th t k) → CW G Kx mX11_takeAlong (n + 4) 123 [some (vO 1), none, some (vI c), none, some (vI (k : Int)), none] [vI (if b = true then 1 else 0), vI (if (tkT s th t A k).1 = true then 1 else 0)] M2 (qI Q) := by
        intro b hb
        refine bX11_takeAlong_123 ?_
        rw [bOrB, d4', d5', h11, j3 _ s1 (by omega), wr_n (b := 1440) (k := k) (by omega) (by omega)]
        have ih' : ∀ (c' : Int) (M' : Mem), EqX ((1, 11) :: wkF) M M' → Flg c' A (tkT s th t A (k + 1)).2 → (∀ r : Int, 0 ≤ r → r < 16 → M' 1 11 r.toNat = enA ((tkT s th t A (k + 1)).2 r)) → (∀ j, (j = 0 ∨ j = 1 ∨ j = 2 ∨ j = 3) → ∀ i, M' 11 j i = M2 11 j i) → CW G Kx mX11_takeAlong (n + 4) 29 [some (vO 1), none, some (vI c'), some (vI (if ((tkT s th t A k).1 || b) = true then 1 else 0)), some (vI ((k + 1 : Nat) : Int)), none] [] M' (qI Q) := by
          intro c' M' a1 a2 a3 a4
          have hl : lt M' = lt Mc := (funext (fun r => a4 0 (by omega) _)).trans hlt
          have z1 : M' 11 1 0 = s (252 + 3 * t + 2) := by rw [a4 1 (by omega), d1 11 1 0 (by decide)]; exact j4
          have z2 : M' 11 2 0 = (sqT s th t (k + 1)).1 := by rw [a4 2 (by omega)]; exact d4'
          have z3 : M' 11 3 0 = (sqT s th t (k + 1)).2 := by rw [a4 3 (by omega)]; exact d5'
          rw [← hl] at j7 j8
          have g := ih (c', M') ⟨a1, a2, a3, z1, z2, z3, j7, j8⟩
          rw [ef, ← hb] at g
          exact g
        have keep : ¬ (((tkT s th t A k).1 || b) = true ∧ (sqT s th t (k + 1)).2 < (tkT s th t A k).2 (sqT s th t (k + 1)).1) → CW G Kx mX11_takeAlong (n + 4) 29 [some (vO 1), none, some (vI c), some (vI (if ((tkT s th t A k).1 || b) = true then 1 else 0)), some (vI ((k + 1 : Nat) : Int)), none] [] M2 (qI Q) := by
          intro z
          rw [← hb, if_neg z] at es
          refine ih' c M2 hE (by rw [es]; exact j2) (fun r a1 a2 => by rw [es, h11]; exact j3 r a1 a2) (fun _ _ _ => rfl)
        refine ⟨fun z => keep (fun w => by rw [if_pos w.1] at z; exact absurd z (by decide)), fun z => ⟨⟨s1, by omega⟩, fun y => keep (fun w => ?_), fun y => ⟨⟨s1, by omega⟩, fun M3 em => ?_⟩⟩⟩
        · have := (enA_le q3).mp y; omega
        · have hb' : ((tkT s th t A k).1 || b) = true := by
            cases hc : ((tkT s th t A k).1 || b)
            · rw [hc] at z; exact absurd rfl z
            · rfl
          have hlt2 : (sqT s th t (k + 1)).2 < (tkT s th t A k).2 (sqT s th t (k + 1)).1 := (enA_lt q3).mp (by omega)
          rw [← hb, if_pos ⟨hb', hlt2⟩] at es
          refine ih' 1 M3 ?_ ?_ (fun r a1 a2 => ?_) (fun j hj i => ?_)
          · rw [em]; exact hE.trans (EqX.mset (by decide))
          · rw [es]
            obtain ⟨f1, f2, f3, f4⟩ := j2
            refine ⟨Or.inr rfl, fun z => absurd z (by decide), fun _ => ⟨(sqT s th t (k + 1)).1, ?_⟩, fun r => ?_⟩
            · rw [updA_at, if_pos rfl]; have := f4 (sqT s th t (k + 1)).1; omega
            · rw [updA_at]
              by_cases e : r = (sqT s th t (k + 1)).1
              · rw [if_pos e, e]; have := f4 (sqT s th t (k + 1)).1; omega
              · rw [if_neg e]; exact f4 r
          · rw [es, updA_at]
            by_cases e : r = (sqT s th t (k + 1)).1
            · rw [if_pos e, em, e, mset_self]; unfold enA; rw [if_pos q3]
            · rw [if_neg e, em, mset_ne (fun w => e (by have := w.2.2; omega)), h11]; exact j3 r a1 a2
          · rw [em, mset_ne (by omega)]
      refine ⟨fun z => ?_, fun z => ?_⟩
      · exact fin false (decide_eq_false (by have := (enA_lt p4).mp z; omega)).symm
      · exact fin true (decide_eq_true (by
          have : enA ((tkT s th t A k).2 (sqT s th t k).1) ≤ atT s th t k := by omega
          exact (enA_le p4).mp this)).symm
  have f0 : Flg 0 A A := ⟨Or.inl rfl, fun _ => rfl, fun z => absurd z (by decide), fun _ => Int.le_refl _⟩
  have a0 : ∀ r : Int, 0 ≤ r → r < 16 → M1 1 11 r.toNat = enA (A r) := fun r a1 a2 => by rw [i1 1 11 _ (by decide)]; exact hA r a1 a2
  exact loop 0 (0, M1) (by omega) ⟨i1.sub (by decide), f0, a0, i2, i3, i4, i5, i6⟩
theorem c12_carries {Q : Int → Mem → Prop} {t : Int} {A : Int → Int} (hs : sd M = s) (K : HOK s) (LO : LOK s) (hT : TD s th N) (t1 : 0 ≤ t) (t2 : t < s 8) (hA : ∀ r : Int, 0 ≤ r → r < 16 → M 0 40 r.toNat = A r)
    (h : ∀ (c : Int) (M' : Mem), EqX ((0, 40) :: lgF) M M' → Flg c A (tkT s th t A (N t)).2 → (∀ r : Int, 0 ≤ r → r < 16 → M' 0 40 r.toNat = (tkT s th t A (N t)).2 r) → Q c M') : OkI G (n + 7) mX12_carries [vO 0, vI t] M Q := by
  have k16 := K.2.1
  obtain ⟨h1, h2, h3⟩ := hT t t1 t2
  refine eX12_carries (fun Kx => bX12_carries_0 (c12_goes hs K LO t1 t2 h1 (fun M1 i1 i2 => ?_)))
  obtain ⟨i3, i4⟩ := i2 (N t) h3
  have loop : ∀ (k : Nat) (a : Int × Mem), k ≤ N t → (EqX [(0, 40)] M1 a.2 ∧ Flg a.1 A (tkT s th t A k).2 ∧ (∀ r : Int, 0 ≤ r → r < 16 → a.2 0 40 r.toNat = (tkT s th t A k).2 r)) → CW G Kx mX12_carries (n + 7) 13 [some (vO 0), none, some (vI (if (tkT s th t A k).1 = true then 1 else 0)), some (vI a.1), some (vI (k : Int))] [] a.2 (qI Q) := by
    refine up_ind (fun a i => ?_) (fun k a hk i ih => ?_)
    · obtain ⟨c, Mc⟩ := a
      dsimp only at i ⊢
      obtain ⟨j1, j2, j3⟩ := i
      have e39 : Mc 0 39 0 = (N t : Int) := by rw [j1 0 39 0 (by decide)]; exact i3
      refine bX12_carries_13 ?_
      rw [e39]
      exact ⟨fun _ => ⟨j2.1, h c Mc ((i1.sub (by decide)).trans (j1.sub (by decide))) j2 j3⟩, fun z => absurd (Int.le_refl _) z⟩
    · obtain ⟨c, Mc⟩ := a
      dsimp only at i ih ⊢
      obtain ⟨j1, j2, j3⟩ := i
      have e39 : Mc 0 39 0 = (N t : Int) := by rw [j1 0 39 0 (by decide)]; exact i3
      obtain ⟨o1, o2, o3, o4, o5⟩ := TD_at K LO hT t1 t2 (k := k) (by omega)
      obtain ⟨p1, p2, p3, p4⟩ := o5 hk
      obtain ⟨q1, q2, q3, -⟩ := TD_at K LO hT t1 t2 (k := k + 1) (by omega)
      have r1 := o1.1
      have r2 := o1.2
      have s1 := q1.1
      have s2 := q1.2
      obtain ⟨-, g35, g36, g37, g38⟩ := i4 k hk
      have f35 : Mc 0 35 k = atT s th t k := by rw [j1 0 35 k (by decide)]; exact g35
      have f36 : Mc 0 36 k = (sqT s th t k).1 := by rw [j1 0 36 k (by decide)]; exact g36
      have f37 : Mc 0 37 k = (sqT s th t (k + 1)).1 := by rw [j1 0 37 k (by decide)]; exact g37
      have f38 : Mc 0 38 k = (sqT s th t (k + 1)).2 := by rw [j1 0 38 k (by decide)]; exact g38
      have kb : (0 : Int) ≤ k ∧ (k : Int) < 1440 := ⟨by omega, by omega⟩
      refine bX12_carries_13 ?_
      rw [e39, Int.toNat_natCast, f35, f36, j3 _ r1 (by omega)]
      have ef := tk_fst_eq (fr := frT s th t) (at_ := atT s th t) (to_ := toT s th t) (co := coT s th t) (A := A) k
      have es := tk_snd_eq (fr := frT s th t) (at_ := atT s th t) (to_ := toT s th t) (co := coT s th t) (A := A) k
      have hco : coT s th t k = (sqT s th t (k + 1)).2 := rfl
      have hto : toT s th t k = (sqT s th t (k + 1)).1 := rfl
      have hfr : frT s th t k = (sqT s th t k).1 := rfl
      rw [hfr] at ef
      rw [hfr, hco, hto] at es
      have fin : ∀ b : Bool, b = decide ((tkT s th t A k).2 (sqT s th t k).1 ≤ atT s th t k) → CW G Kx mX12_carries (n + 7) 50 [some (vO 0), none, none, some (vI c), some (vI (k : Int))] [vI (if b = true then 1 else 0), vI (if (tkT s th t A k).1 = true then 1 else 0)] Mc (qI Q) := by
        intro b hb
        refine bX12_carries_50 ?_
        rw [bOrB, Int.toNat_natCast, f37, f38, j3 _ s1 (by omega), wr_n (b := 1440) (k := k) (by omega) (by omega)]
        have ih' : ∀ (c' : Int) (M' : Mem), EqX [(0, 40)] M1 M' → Flg c' A (tkT s th t A (k + 1)).2 → (∀ r : Int, 0 ≤ r → r < 16 → M' 0 40 r.toNat = (tkT s th t A (k + 1)).2 r) → CW G Kx mX12_carries (n + 7) 13 [some (vO 0), none, some (vI (if ((tkT s th t A k).1 || b) = true then 1 else 0)), some (vI c'), some (vI ((k + 1 : Nat) : Int))] [] M' (qI Q) := by
          intro c' M' a1 a2 a3
          have g := ih (c', M') ⟨a1, a2, a3⟩
          rw [ef, ← hb] at g
          exact g
        have keep : ¬ (((tkT s th t A k).1 || b) = true ∧ (sqT s th t (k + 1)).2 < (tkT s th t A k).2 (sqT s th t (k + 1)).1) → CW G Kx mX12_carries (n + 7) 13 [some (vO 0), none, some (vI (if ((tkT s th t A k).1 || b) = true then 1 else 0)), some (vI c), some (vI ((k + 1 : Nat) : Int))] [] Mc (qI Q) := by
          intro z
          rw [← hb, if_neg z] at es
          refine ih' c Mc j1 (by rw [es]; exact j2) (fun r a1 a2 => by rw [es]; exact j3 r a1 a2)
        refine ⟨fun z => keep (fun w => by rw [if_pos w.1] at z; exact absurd z (by decide)), fun z => ⟨kb, kb, ⟨s1, by omega⟩, fun y => ⟨kb, kb, ⟨s1, by omega⟩, fun M3 em => ?_⟩, fun y => keep (fun w => y w.2)⟩⟩
        have hb' : ((tkT s th t A k).1 || b) = true := by
          cases hc : ((tkT s th t A k).1 || b)
          · rw [hc] at z; exact absurd rfl z
          · rfl
        rw [← hb, if_pos ⟨hb', y⟩] at es
        refine ih' 1 M3 ?_ ?_ (fun r a1 a2 => ?_)
        · rw [em]; exact j1.trans (EqX.mset (by decide))
        · rw [es]
          obtain ⟨f1, f2, f3, f4⟩ := j2
          refine ⟨Or.inr rfl, fun z => absurd z (by decide), fun _ => ⟨(sqT s th t (k + 1)).1, ?_⟩, fun r => ?_⟩
          · rw [updA_at, if_pos rfl]; have := f4 (sqT s th t (k + 1)).1; omega
          · rw [updA_at]
            by_cases e : r = (sqT s th t (k + 1)).1
            · rw [if_pos e, e]; have := f4 (sqT s th t (k + 1)).1; omega
            · rw [if_neg e]; exact f4 r
        · rw [es, updA_at]
          by_cases e : r = (sqT s th t (k + 1)).1
          · rw [if_pos e, em, e, mset_self]
          · rw [if_neg e, em, mset_ne (fun w => e (by have := w.2.2; omega))]; exact j3 r a1 a2
      refine ⟨fun z => absurd z (by omega), fun _ => ⟨kb, ⟨r1, by omega⟩, kb, fun z => ?_, fun z => ?_⟩⟩
      · exact fin false (decide_eq_false (by omega)).symm
      · exact fin true (decide_eq_true (by omega)).symm
  have f0 : Flg 0 A A := ⟨Or.inl rfl, fun _ => rfl, fun z => absurd z (by decide), fun _ => Int.le_refl _⟩
  have a0 : ∀ r : Int, 0 ≤ r → r < 16 → M1 0 40 r.toNat = A r := fun r a1 a2 => by rw [i1 0 40 _ (by decide)]; exact hA r a1 a2
  exact loop 0 (0, M1) (by omega) ⟨EqX.rf, f0, a0⟩
end BRC
