/-! ===== trip, trips ===== -/
section TPS
variable {G : Gx} {n : Nat} {M : Mem} {s : Int → Int}
theorem TTh_can (K : HOK s) (LO : LOK s) {t v : Int} (t1 : 0 ≤ t) (t2 : t < s 8) (h : TTh s t v) : Can s (s (252 + 3 * t + 2)) v (s (252 + 3 * t + 0)) (s (252 + 3 * t + 1)) ∧ 0 ≤ v ∧ v ≤ 1439 := by
  obtain ⟨D, d1, d2, d3⟩ := h
  obtain ⟨b1, b2, b3⟩ := LO.2.2.2.2.2.2.1 t t1 t2
  have hr := so_reach d1 b3 (by omega)
  rw [← d2] at hr
  refine ⟨(Can_iff K d3).mpr ⟨v, Int.le_refl _, hr⟩, ?_, d3⟩
  exact (Rch_ok K (src1_ok ⟨b1.1, b1.2, Or.inr rfl⟩ b2.1 b2.2) hr).2.1
theorem c12_goes {Q : Int → Mem → Prop} {t v : Int} (hs : sd M = s) (K : HOK s) (LO : LOK s) (t1 : 0 ≤ t) (t2 : t < s 8) (hv : TTh s t v) (h : ∀ M' : Mem, EqX lgF M M' → (∀ N, isN s (s (252 + 3 * t + 2)) v (s (252 + 3 * t + 0)) (s (252 + 3 * t + 1)) N → M' 0 39 0 = (N : Int) ∧ Lgs s (s (252 + 3 * t + 2)) v (s (252 + 3 * t + 0)) (s (252 + 3 * t + 1)) N M') → Q v M') : OkI G (n + 6) mX12_goesTrip [vO 0, vI t] M Q := by
  obtain ⟨b1, b2, b3⟩ := LO.2.2.2.2.2.2.1 t t1 t2
  have l8 := LO.2.1
  refine eX12_goesTrip (fun Kx => bX12_goesTrip_0 ?_)
  have e0 : wr (252 + wr (3 * t)) = 252 + 3 * t + 0 := by rw [wrs (x := 3 * t) (by omega) (by omega), wrs (x := 252 + 3 * t) (by omega) (by omega)]; omega
  have e1 : wr (wr (252 + wr (3 * t)) + 1) = 252 + 3 * t + 1 := by rw [e0, show 252 + 3 * t + 0 + 1 = 252 + 3 * t + 1 by omega]; exact wrs (by omega) (by omega)
  have e2 : wr (wr (252 + wr (3 * t)) + 2) = 252 + 3 * t + 2 := by rw [e0, show 252 + 3 * t + 0 + 2 = 252 + 3 * t + 2 by omega]; exact wrs (by omega) (by omega)
  rw [e1, e2, e0]
  have f0 : M 0 26 (252 + 3 * t + 0).toNat = s (252 + 3 * t + 0) := by rw [← hs]; rfl
  have f1 : M 0 26 (252 + 3 * t + 1).toNat = s (252 + 3 * t + 1) := by rw [← hs]; rfl
  have f2 : M 0 26 (252 + 3 * t + 2).toNat = s (252 + 3 * t + 2) := by rw [← hs]; rfl
  rw [f0, f1, f2]
  refine ⟨⟨by omega, by omega⟩, ⟨by omega, by omega⟩, ⟨by omega, by omega⟩, c12_travels hs K b3 b1 b2.1 b2.2 (fun M' D e d1 d2 => ?_)⟩
  obtain ⟨D', p1, p2, p3⟩ := hv
  have : so D (s (252 + 3 * t + 2)) = v := by rw [p2]; exact so_one d1 p1 b3.1 b3.2
  rw [this] at d2 ⊢
  exact h M' e (d2 p3)
abbrev wkF : List (Nat × Nat) := [(11, 0), (11, 1), (11, 2), (11, 3), (11, 4), (11, 5)]
theorem both_trips {x1 x2 : Int} {P : Int → Int → Mem → Prop} (H : HR (M 4) (sd M)) (K : HOK (sd M)) (L : LR (M 6) (sd M)) (LO : LOK (sd M)) (h : ∀ r M2, EqX (wkF ++ lgF) M M2 → P r r M2) : OkI G (n + 8) mX11_trips [vO 1, vI x1, vI x2] M (fun r1 M1 => OkI G (n + 8) mX12_trips [vO 0, vI x1, vI x2] M1 (fun r2 M2 => P r1 r2 M2)) := by
  have l8 := LO.2.1
  have e2 : M 6 2 0 = sd M 8 := L.2.2.1
  have no : ¬ (0 ≤ x1 ∧ x1 < sd M 8 ∧ -1 ≤ x2) → OkI G (n + 8) mX12_trips [vO 0, vI x1, vI x2] M (fun r2 M2 => P (-1) r2 M2) := by
    intro z
    refine eX12_trips (fun Kx => bX12_trips_0 (c12_in (fun a b => ⟨fun q => absurd q (by decide), fun _ => ⟨fun c => absurd ⟨a, ?_, c⟩ z, fun _ => h _ M EqX.rf⟩⟩) (fun _ => ⟨fun _ => h _ M EqX.rf, fun q => absurd rfl q⟩)))
    rw [show M 0 26 8 = sd M 8 from rfl, wrs (x := sd M 8 - 1) (by omega) (by omega)] at b
    omega
  have go : ∀ (M1 : Mem), EqX wkF M M1 → 0 ≤ x1 → x1 < sd M 8 → -1 ≤ x2 → ∀ v N, TTh (sd M) x1 v → isN (sd M) (sd M (252 + 3 * x1 + 2)) v (sd M (252 + 3 * x1 + 0)) (sd M (252 + 3 * x1 + 1)) N → N ≤ 1439 → ∀ r, (x2 = -1 → r = v) → (0 ≤ x2 → (N : Int) ≤ x2 → r = -2) → (0 ≤ x2 → x2 < (N : Int) → r = fw (sd M) (sd M (252 + 3 * x1 + 2)) v (sq (sd M) (sd M (252 + 3 * x1 + 2)) v (sd M (252 + 3 * x1 + 0)) (sd M (252 + 3 * x1 + 1)) x2.toNat).1 (sq (sd M) (sd M (252 + 3 * x1 + 2)) v (sd M (252 + 3 * x1 + 0)) (sd M (252 + 3 * x1 + 1)) x2.toNat).2) → OkI G (n + 8) mX12_trips [vO 0, vI x1, vI x2] M1 (fun r2 M2 => P r r2 M2) := by
    intro M1 i1 a b c v N hv hN hN9 r r1 r2 r3
    have es : sd M1 = sd M := DR4 i1 (by decide)
    have e8 : M1 0 26 8 = sd M 8 := by rw [← es]; rfl
    refine eX12_trips (fun Kx => bX12_trips_0 ?_)
    rw [e8, wrs (x := sd M 8 - 1) (by omega) (by omega)]
    refine c12_in (fun _ _ => ⟨fun q => absurd q (by decide), fun _ => ⟨fun _ => c12_goes es K LO a b hv (fun M2 j1 j2 => ?_), fun q => absurd c q⟩⟩) (fun q => absurd ⟨a, by omega⟩ q)
    obtain ⟨j3, j4⟩ := j2 N hN
    have hh := h r M2 ((i1.sub (by decide)).trans (j1.sub (by decide)))
    rw [j3]
    refine ⟨fun d => ⟨fun f => by rw [← r2 d f]; exact hh, fun f => ⟨⟨d, by omega⟩, ?_⟩⟩, fun d => by rw [← r1 (by omega)]; exact hh⟩
    rw [(j4 x2.toNat (by omega)).1, ← r3 d (by omega)]; exact hh
  refine eX11_trips (fun Kx => bX11_trips_0 ?_)
  rw [e2]
  refine ⟨fun a => no (by omega), fun a => ⟨fun b => no (by omega), fun b => ⟨fun c => absurd c (by omega), fun c => ⟨fun d => ?_, fun d => no (by omega)⟩⟩⟩⟩
  have t1 : 0 ≤ x1 := by omega
  have t2 : x1 < sd M 8 := by omega
  obtain ⟨-, -, -, hv⟩ := L.2.2.2.2.2.2.1 x1 t1 t2
  obtain ⟨b1, b2, b3⟩ := LO.2.2.2.2.2.2.1 x1 t1 t2
  obtain ⟨hC, hv0, hv1⟩ := TTh_can K LO t1 t2 hv
  obtain ⟨N, N1, hN⟩ := sq_N K hv1 b1 b2.1 hC
  have hOk := sq_ok K b1 b2.1 hC
  refine ⟨fun e => ?_, fun e => ⟨⟨t1, by omega⟩, go M EqX.rf t1 t2 d _ N hv hN N1 _ (fun _ => rfl) (fun z => by omega) (fun z => by omega)⟩⟩
  refine c10_begin H K L LO t1 t2 rfl ⟨hv0, hv1⟩ (fun M1 i1 i2 i3 i4 i5 i6 => ?_)
  generalize hvv : M 6 12 x1.toNat = v at *
  have loop : ∀ (k : Nat) (Mc : Mem), k ≤ N → (EqX wkF M Mc ∧ (k : Int) ≤ x2 ∧ Mc 11 1 0 = sd M (252 + 3 * x1 + 2) ∧ Mc 11 2 0 = (sq (sd M) (sd M (252 + 3 * x1 + 2)) v (sd M (252 + 3 * x1 + 0)) (sd M (252 + 3 * x1 + 1)) k).1 ∧ Mc 11 3 0 = (sq (sd M) (sd M (252 + 3 * x1 + 2)) v (sd M (252 + 3 * x1 + 0)) (sd M (252 + 3 * x1 + 1)) k).2 ∧ LSd (sd M) (sd M (252 + 3 * x1 + 2)) v (lt Mc) ∧ LAll (sd M) (sd M (252 + 3 * x1 + 2)) v (lt Mc)) → CW G Kx mX11_trips (n + 8) 64 [some (vO 1), none, some (vI x2), none, some (vI (k : Int))] [] Mc (qI (fun r1 M1 => OkI G (n + 8) mX12_trips [vO 0, vI x1, vI x2] M1 (fun r2 M2 => P r1 r2 M2))) := by
    refine up_ind (fun Mc i => ?_) (fun k Mc hk i ih => ?_)
    · obtain ⟨j1, j2, j3, j4, j5, j6, j7⟩ := i
      obtain ⟨o1, o2, o3⟩ := hOk N hN.2
      have e4 : Mc 4 = M 4 := j1.obj (by decide)
      refine bX11_trips_64 ⟨fun z => absurd z (by omega), fun _ => ?_⟩
      refine c10_step (by rw [e4]; exact H) K hv1 j3 j4 j5 o1 (by omega) o3 j6 j7 (fun _ => ⟨fun z => absurd rfl z, fun _ => ?_⟩) (fun z => absurd hN.1 z)
      exact go Mc j1 t1 t2 d v N hv hN N1 _ (fun z => by omega) (fun _ _ => rfl) (fun _ z => by omega)
    · obtain ⟨j1, j2, j3, j4, j5, j6, j7⟩ := i
      obtain ⟨o1, o2, o3⟩ := hOk k (fun j hj => hN.2 j (by omega))
      have e4 : Mc 4 = M 4 := j1.obj (by decide)
      refine bX11_trips_64 ⟨fun z => absurd z (by omega), fun _ => ?_⟩
      refine c10_step (by rw [e4]; exact H) K hv1 j3 j4 j5 o1 (by omega) o3 j6 j7 (fun z => absurd z (hN.2 k hk)) (fun hne M2 q1 q2 q3 q4 q5 => ⟨fun _ => ?_, fun z => absurd z (by decide)⟩)
      have hE : EqX wkF M M2 := j1.trans (q1.sub (by decide))
      have hlt : lt M2 = lt Mc := funext (fun r => q1 11 0 _ (by decide))
      rw [wr_n (b := 1440) (k := k) (by omega) (by omega)]
      refine ⟨fun z => ih M2 ⟨hE, by omega, ?_, q4, q5, by rw [hlt]; exact j6, by rw [hlt]; exact j7⟩, fun z => ?_⟩
      · rw [q1 11 1 0 (by decide)]; exact j3
      · rw [q2]
        refine go M2 hE t1 t2 d v N hv hN N1 _ (fun z => by omega) (fun _ z => by omega) (fun _ _ => ?_)
        rw [show x2.toNat = k by omega]
  exact loop 0 M1 (by omega) ⟨i1.sub (by decide), by omega, i2, i3, i4, i5, i6⟩
/-- what each change of the lists keeps, but for these -/
def LJx (l : List (Nat × Nat)) (M M2 : Mem) : Prop := (∀ o k i, o ≠ 6 → (o, k) ∉ (0, 26) :: l → M2 o k i = M o k i) ∧ LX (sd M) (sd M2) ∧ LR (M2 6) (sd M2) ∧ LOK (sd M2)
set_option maxHeartbeats 1600000 in
theorem both_trip {x1 x2 x3 : Int} {P : Int → Int → Mem → Prop} (H : HR (M 4) (sd M)) (K : HOK (sd M)) (L : LR (M 6) (sd M)) (LO : LOK (sd M)) (h : ∀ r M2, LJx ((9, 0) :: lgF) M M2 → P r r M2) : OkI G (n + 8) mX11_trip [vO 1, vI x1, vI x2, vI x3] M (fun r1 M1 => OkI G (n + 8) mX12_trip [vO 0, vI x1, vI x2, vI x3] M1 (fun r2 M2 => P r1 r2 M2)) := by
  obtain ⟨sX, sE, sT, sR, sC⟩ := sc_all.mp ⟨L, LO⟩
  obtain ⟨⟨c1, c2⟩, c3, c4⟩ := id sT
  have k16 := K.2.1
  have hM : ∀ M', EqX ((9, 0) :: lgF) M M' → LJx ((9, 0) :: lgF) M M' := fun M' e => by
    have es : sd M' = sd M := DR4 e (by decide)
    have e6 : M' 6 = M 6 := e.obj (by decide)
    refine ⟨fun o k i ho hk => e o k i (fun z => hk (List.mem_cons_of_mem _ z)), ?_, ?_, ?_⟩
    · rw [es]; exact fun _ _ _ _ => rfl
    · rw [es, e6]; exact L
    · rw [es]; exact LO
  -- the reference refuses
  have no : ∀ M1, EqX [(9, 0)] M M1 → ¬ x1 = -1 → (¬ (sd M 8 < 12 ∧ 0 ≤ x1 ∧ x1 < sd M 0 ∧ 0 ≤ x2 ∧ x2 ≤ 1439 ∧ 0 ≤ x3 ∧ x3 < sd M 0) ∨ ∃ D, Tab (sd M) (src1 x1 1 x2) D ∧ so D x3 = 99999) → OkI G (n + 8) mX12_trip [vO 0, vI x1, vI x2, vI x3] M1 (fun r2 M2 => P (-2) r2 M2) := by
    intro M1 i1 a z
    have es : sd M1 = sd M := DR4 i1 (by decide)
    have e8 : M1 0 26 8 = sd M 8 := by rw [← es]; rfl
    have done : ∀ M2, EqX lgF M1 M2 → P (-2) (-2) M2 := fun M2 e => h _ M2 (hM M2 ((i1.sub (by decide)).trans (e.sub (by decide))))
    refine eX12_trip (fun Kx => bX12_trip_0 ⟨fun _ => ?_, fun q => absurd q a⟩)
    rw [e8]
    refine ⟨fun _ => done M1 EqX.rf, fun q => c12_isRoom (fun p1 p2 => ⟨fun y => absurd y (by decide), fun _ => c12_isMinute (fun p3 p4 => ⟨fun y => absurd y (by decide), fun _ => c12_isRoom (fun p5 p6 => ⟨fun y => absurd y (by decide), fun _ => ?_⟩) (fun _ => ⟨fun _ => done M1 EqX.rf, fun y => absurd rfl y⟩)⟩) (fun _ => ⟨fun _ => done M1 EqX.rf, fun y => absurd rfl y⟩)⟩) (fun _ => ⟨fun _ => done M1 EqX.rf, fun y => absurd rfl y⟩)⟩
    rw [es] at p2 p6
    rcases z with z | ⟨D, d1, d2⟩
    · exact absurd ⟨by omega, p1, p2, p3, p4, p5, p6⟩ z
    · refine c12_travels es K ⟨p5, p6⟩ ⟨p1, p2⟩ p3 p4 (fun M2 D' j1 j2 _ => ?_)
      have : so D' x3 = 99999 := by rw [so_one j2 d1 p5 p6]; exact d2
      rw [this]
      exact ⟨fun y => absurd rfl y, fun _ => done M2 j1⟩
  refine eX11_trip (fun Kx => bX11_trip_0 ⟨fun a => ?_, fun a M6 em => ?_⟩)
  · rw [c1]
    refine ⟨fun b => no M EqX.rf a (Or.inl (by omega)), fun b => c11_isStart H K (fun p1 p2 p3 p4 => ⟨fun y => absurd y (by decide), fun _ => c1_isRoom rfl H k16 (fun p5 p6 => ⟨fun _ => ?_, fun y => absurd y (by decide)⟩) (fun q => ⟨fun y => absurd rfl y, fun _ => no M EqX.rf a (Or.inl (by omega))⟩)⟩) (fun q => ⟨fun _ => no M EqX.rf a (Or.inl (by omega)), fun y => absurd rfl y⟩)⟩
    refine c5_from rfl rfl H K ⟨p1, p2⟩ p3 p4 (fun M1 i1 i2 i3 => c5_la rfl p5 (by omega) ?_)
    rw [if_pos rfl] at i3
    have hraw := so_raw (tbC M1 9) x3
    generalize tbC M1 9 = D at *
    have es : sd M1 = sd M := DR4 i1 (by decide)
    have e6 : M1 6 = M 6 := i1.obj (by decide)
    refine ⟨fun y => ?_, fun y => no M1 i1 a (Or.inr ⟨D, i3, by omega⟩)⟩
    have ev : raw D x3 = so D x3 := by omega
    rw [ev] at y ⊢
    have hth : so D x3 ≤ 1439 := y
    refine eX3_addTrip (fun Ky => bX3_addTrip_0 rfl ?_)
    rw [e6, c1]
    have kb : 0 ≤ sd M 8 ∧ sd M 8 < 12 := ⟨c3.1, by omega⟩
    refine ⟨fun _ => ⟨kb, fun N1 en1 => ?_⟩, fun z => absurd kb.2 z⟩
    have g1 : N1 6 2 0 = sd M 8 := by rw [en1, mset_ne (by simp), e6]; exact c1
    rw [g1]
    refine ⟨kb, fun N2 en2 => ?_⟩
    have g2 : N2 6 2 0 = sd M 8 := by rw [en2, mset_ne (by simp)]; exact g1
    rw [g2]
    refine ⟨kb, fun N3 en3 => ?_⟩
    have g3 : N3 6 2 0 = sd M 8 := by rw [en3, mset_ne (by simp)]; exact g2
    rw [g3]
    refine ⟨kb, fun N4 en4 N5 en5 => ?_⟩
    have g4 : N4 6 2 0 = sd M 8 := by rw [en4, mset_ne (by simp)]; exact g3
    rw [g4, wrs (x := sd M 8 + 1) (by omega) (by omega)] at en5
    have g5 : N5 6 2 0 = sd M 8 + 1 := by rw [en5, mset_self]
    rw [g5]
    have hfar : ∀ o k i, o ≠ 6 → N5 o k i = M1 o k i := fun o k i ho => by rw [en5, mset_ne (fun z => ho z.1), en4, mset_ne (fun z => ho z.1), en3, mset_ne (fun z => ho z.1), en2, mset_ne (fun z => ho z.1), en1, mset_ne (fun z => ho z.1)]
    have es5 : sd N5 = sd M := by rw [← es]; exact funext (fun i => hfar 0 26 _ (by decide))
    have g08 : N5 0 26 8 = sd M 8 := by rw [← es5]; rfl
    refine eX12_trip (fun Kz => bX12_trip_0 ⟨fun _ => ?_, fun q => absurd q a⟩)
    rw [g08]
    refine ⟨fun q => absurd q (by omega), fun q => c12_isRoom (fun _ _ => ⟨fun y => absurd y (by decide), fun _ => c12_isMinute (fun _ _ => ⟨fun y => absurd y (by decide), fun _ => c12_isRoom (fun _ _ => ⟨fun y => absurd y (by decide), fun _ => ?_⟩) (fun z => absurd ⟨p5, by rw [es5]; exact p6⟩ z)⟩) (fun z => absurd ⟨p3, p4⟩ z)⟩) (fun z => absurd ⟨p1, by rw [es5]; exact p2⟩ z)⟩
    refine c12_travels es5 K ⟨p5, p6⟩ ⟨p1, p2⟩ p3 p4 (fun N6 D' j1 j2 _ => ?_)
    have eD : so D' x3 = so D x3 := so_one j2 i3 p5 p6
    rw [eD]
    refine ⟨fun _ => ?_, fun z => absurd z (by omega)⟩
    have es6 : sd N6 = sd M := (DR4 j1 (by decide)).trans es5
    have g68 : N6 0 26 8 = sd M 8 := by rw [← es6]; rfl
    have ei : wr (252 + wr (3 * sd M 8)) = 252 + 3 * sd M 8 := by rw [wrs (x := 3 * sd M 8) (by omega) (by omega), wrs (x := 252 + 3 * sd M 8) (by omega) (by omega)]
    rw [g68, ei, wrs (x := 252 + 3 * sd M 8 + 1) (by omega) (by omega), wrs (x := 252 + 3 * sd M 8 + 2) (by omega) (by omega)]
    refine ⟨⟨by omega, by omega⟩, fun N7 en7 => ⟨⟨by omega, by omega⟩, fun N8 en8 => ⟨⟨by omega, by omega⟩, fun N9 en9 Na ena => ?_⟩⟩⟩
    have n8 : N9 0 26 8 = sd M 8 := by rw [en9, mset_ne (by simp; omega), en8, mset_ne (by simp; omega), en7, mset_ne (by simp; omega)]; exact g68
    rw [n8, wrs (x := sd M 8 + 1) (by omega) (by omega)] at ena
    have na8 : Na 0 26 8 = sd M 8 + 1 := by rw [ena, mset_self]
    rw [na8]
    have hsd : ∀ i : Int, sd Na i = if i.toNat = 8 then sd M 8 + 1 else if i.toNat = (252 + 3 * sd M 8 + 2).toNat then x3 else if i.toNat = (252 + 3 * sd M 8 + 1).toNat then x2 else if i.toNat = (252 + 3 * sd M 8).toNat then x1 else sd M i := by
      intro i
      rw [ena, sd_set, en9, sd_set, en8, sd_set, en7, sd_set, es6]
    have hs : ∀ i : Int, 0 ≤ i → i ≠ 8 → (i < 252 + 3 * sd M 8 ∨ 252 + 3 * sd M 8 + 2 < i) → sd Na i = sd M i := fun i i0 i1 i2 => by rw [hsd, if_neg (by omega), if_neg (by omega), if_neg (by omega), if_neg (by omega)]
    have hs8 : sd Na 8 = sd M 8 + 1 := by rw [hsd, if_pos (by decide)]
    have v0 : sd Na (252 + 3 * sd M 8 + 0) = x1 := by rw [hsd, if_neg (by omega), if_neg (by omega), if_neg (by omega), if_pos (by omega)]
    have v1 : sd Na (252 + 3 * sd M 8 + 1) = x2 := by rw [hsd, if_neg (by omega), if_neg (by omega), if_pos (by omega)]
    have v2 : sd Na (252 + 3 * sd M 8 + 2) = x3 := by rw [hsd, if_neg (by omega), if_pos (by omega)]
    have q7 : ∀ o k i, (o, k) ≠ (0, 26) → Na o k i = N6 o k i := fun o k i hk => by
      rw [ena, mset_ne (fun z => hk (by rw [z.1, z.2.1])), en9, mset_ne (fun z => hk (by rw [z.1, z.2.1])), en8, mset_ne (fun z => hk (by rw [z.1, z.2.1])), en7, mset_ne (fun z => hk (by rw [z.1, z.2.1]))]
    have q5 : ∀ k i, Na 6 k i = N5 6 k i := fun k i => by rw [q7 6 k i (by simp), j1.obj (o := 6) (by decide)]
    have h6 : ∀ k, k ≠ 2 → k ≠ 9 → k ≠ 10 → k ≠ 11 → k ≠ 12 → Na 6 k = M 6 k := fun k k1 k2 k3 k4 k5 => funext (fun i => by
      rw [q5, en5, mset_ne (fun z => k1 z.2.1), en4, mset_ne (fun z => k5 z.2.1), en3, mset_ne (fun z => k4 z.2.1), en2, mset_ne (fun z => k3 z.2.1), en1, mset_ne (fun z => k2 z.2.1), e6])
    have hx : LX (sd M) (sd Na) := fun i i0 i1 i2 => hs i i0 (by omega) (by omega)
    have fin := sc_all.mpr ⟨scX_cg sX (h6 0 (by decide) (by decide) (by decide) (by decide) (by decide)) (hs 11 (by decide) (by decide) (by omega)), scE_cg sE (fun k hk => h6 k (by omega) (by omega) (by omega) (by omega) (by omega)) hx.he.1 (hs 7 (by decide) (by decide) (by omega)) (fun i i1 i2 => hs i (by omega) (by omega) (by omega)), (?_ : scT (Na 6) (sd Na)), scR_cg sR (fun k hk => h6 k (by omega) (by omega) (by omega) (by omega) (by omega)) (hs 9 (by decide) (by decide) (by omega)) (fun i i1 i2 => hs i (by omega) (by omega) (by omega)), scC_cg sC (fun k hk => h6 k (by omega) (by omega) (by omega) (by omega) (by omega)) (hs 10 (by decide) (by decide) (by omega)) (fun i i1 i2 => hs i (by omega) (by omega) (by omega))⟩
    · refine h _ Na ⟨fun o k i ho hk => ?_, hx, fin.1, fin.2⟩
      rw [q7 o k i (fun z => hk (by rw [z]; exact List.mem_cons_self ..)), j1 o k i (fun z => hk (List.mem_cons_of_mem _ (List.mem_cons_of_mem _ z))), hfar o k i ho]
      exact i1 o k i (fun z => hk (List.mem_cons_of_mem _ (by rw [List.mem_singleton.mp z]; exact List.mem_cons_self ..)))
    · unfold scT
      rw [hs8, hx.he.1, q5, g5]
      refine ⟨⟨rfl, fun t t1 t2 => ?_⟩, ⟨by omega, by omega⟩, fun t t1 t2 => ?_⟩
      · rw [q5 9, q5 10, q5 11, q5 12]
        have w5 : N5 6 9 t.toNat = N1 6 9 t.toNat := by rw [en5, mset_ne (by simp), en4, mset_ne (by simp), en3, mset_ne (by simp), en2, mset_ne (by simp)]
        have w6 : N5 6 10 t.toNat = N2 6 10 t.toNat := by rw [en5, mset_ne (by simp), en4, mset_ne (by simp), en3, mset_ne (by simp)]
        have w7 : N5 6 11 t.toNat = N3 6 11 t.toNat := by rw [en5, mset_ne (by simp), en4, mset_ne (by simp)]
        have w8 : N5 6 12 t.toNat = N4 6 12 t.toNat := by rw [en5, mset_ne (by simp)]
        rw [w5, w6, w7, w8]
        by_cases q : t = sd M 8
        · rw [q, v0, v1, v2, en4, mset_self, en3, mset_self, en2, mset_self, en1, mset_self]
          refine ⟨rfl, rfl, rfl, D, ?_, ?_, hth⟩
          · rw [v0, v1]; exact hx.he.tab K i3
          · rw [v2]
        · have z0 := hs (252 + 3 * t + 0) (by omega) (by omega) (by omega)
          have z1 := hs (252 + 3 * t + 1) (by omega) (by omega) (by omega)
          have z2 := hs (252 + 3 * t + 2) (by omega) (by omega) (by omega)
          have y4 : N4 6 12 t.toNat = M 6 12 t.toNat := by rw [en4, mset_ne (fun z => q (by have := z.2.2; omega)), en3, mset_ne (by simp), en2, mset_ne (by simp), en1, mset_ne (by simp), e6]
          have y3 : N3 6 11 t.toNat = M 6 11 t.toNat := by rw [en3, mset_ne (fun z => q (by have := z.2.2; omega)), en2, mset_ne (by simp), en1, mset_ne (by simp), e6]
          have y2 : N2 6 10 t.toNat = M 6 10 t.toNat := by rw [en2, mset_ne (fun z => q (by have := z.2.2; omega)), en1, mset_ne (by simp), e6]
          have y1 : N1 6 9 t.toNat = M 6 9 t.toNat := by rw [en1, mset_ne (fun z => q (by have := z.2.2; omega)), e6]
          obtain ⟨u1, u2, u3, u4⟩ := c2 t t1 (by omega)
          rw [y1, y2, y3, y4]
          exact ⟨by rw [z0]; exact u1, by rw [z1]; exact u2, by rw [z2]; exact u3, TTh_cg hx.he K z0 z1 z2 u4⟩
      · by_cases q : t = sd M 8
        · rw [q, v0, v1, v2]; omega
        · rw [hs (252 + 3 * t + 0) (by omega) (by omega) (by omega), hs (252 + 3 * t + 1) (by omega) (by omega) (by omega), hs (252 + 3 * t + 2) (by omega) (by omega) (by omega)]
          exact c4 t t1 (by omega)
  · refine eX12_trip (fun Kz => bX12_trip_0 ⟨fun z => absurd a z, fun _ M4 em4 => h _ M4 ?_⟩)
    have hsd : ∀ i : Int, sd M4 i = if i.toNat = 8 then 0 else sd M i := by
      intro i
      rw [em4, sd_set]
      have : sd M6 i = sd M i := by
        show M6 0 26 _ = M 0 26 _
        rw [em, mset_ne (by simp)]
      rw [this]
    have hs : ∀ i : Int, 0 ≤ i → i ≠ 8 → sd M4 i = sd M i := fun i i0 i1 => by rw [hsd, if_neg (by omega)]
    have hs8 : sd M4 8 = 0 := by rw [hsd, if_pos (by decide)]
    have h6 : ∀ k, k ≠ 2 → M4 6 k = M 6 k := fun k k1 => funext (fun i => by rw [em4, mset_ne (by simp), em, mset_ne (fun z => k1 z.2.1)])
    have hx : LX (sd M) (sd M4) := fun i i0 i1 i2 => hs i i0 (by omega)
    have fin := sc_all.mpr ⟨scX_cg sX (h6 0 (by decide)) (hs 11 (by decide) (by decide)), scE_cg sE (fun k hk => h6 k (by omega)) hx.he.1 (hs 7 (by decide) (by decide)) (fun i i1 i2 => hs i (by omega) (by omega)), (?_ : scT (M4 6) (sd M4)), scR_cg sR (fun k hk => h6 k (by omega)) (hs 9 (by decide) (by decide)) (fun i i1 i2 => hs i (by omega) (by omega)), scC_cg sC (fun k hk => h6 k (by omega)) (hs 10 (by decide) (by decide)) (fun i i1 i2 => hs i (by omega) (by omega))⟩
    · refine ⟨fun o k i ho hk => ?_, hx, fin.1, fin.2⟩
      rw [em4, mset_ne (fun z => hk (by rw [z.1, z.2.1]; exact List.mem_cons_self ..)), em, mset_ne (fun z => ho z.1)]
    · unfold scT
      rw [hs8]
      refine ⟨⟨by rw [em4, mset_ne (by simp), em, mset_self], fun t t1 t2 => by omega⟩, ⟨by omega, by omega⟩, fun t t1 t2 => by omega⟩
end TPS
