/-! ===== house, best, image: class, then reference ===== -/
section LWD
variable {G : Gx} {M : Mem}
theorem tape_L (T : TpR M) : ∃ L : Nat, M 0 1 0 = (L : Int) ∧ M 2 1 0 = (L : Int) ∧ L ≤ 400 := ⟨(M 0 1 0).toNat, by have := T.2.1; omega, by have := T.1; have := T.2.1; omega, by have := T.2.2.1; omega⟩
theorem lw_house (I : InvG G M) : OkZ G 60 mX11_house [vO 1] M 1 3 (qI (fun r1 M1 => OkI G 60 mX12_house [vO 0] M1 (fun r2 M2 => r2 = r1 ∧ InvG G M2))) := by
  obtain ⟨L, hL0, hL2, hL4⟩ := tape_L I.1.2.1
  have T4 := I.1.2.1.2.2.2
  refine c11_house (n := 57) (I.2.1 1 (by decide)) (I.2.1 2 (by decide)) (I.2.1 7 (by decide)) I.2.2.2.2.1 I.2.nor (fun q => ?_)
  have mh : ∀ o, o ≠ 14 → ∀ k i, MH M o k i = M o k i := fun o ho k i => if_neg ho
  refine c2_readAll (n := 51) (b := M 2 0) (L := L) (by funext i; exact mh 2 (by decide) 0 i) (by rw [mh 2 (by decide)]; exact hL2) hL4 (fun z M1 E1 h1 M2 m2 => ⟨fun _ => ?_, fun w => absurd w (by decide)⟩) (fun z M1 E1 h1 M2 m2 => ⟨fun w => absurd rfl w, fun _ => ?_⟩)
  · have e7 : M2 7 = M1 7 := by funext k i; rw [m2, mset_ne (by omega)]
    have K := hAll_ok z
    have E2 : ∀ o k i, o ≠ 14 → o ≠ 7 → (o, k) ∉ ((2, 1) :: rdF) → M2 o k i = M o k i := fun o k i a b c => by
      rw [m2, mset_ne (fun y => c (by rw [y.1, y.2.1]; exact List.mem_cons_self)), E1 o k i b (fun y => ?_), mh o a]
      rcases List.mem_cons.mp y with y | y
      · exact a (congrArg Prod.fst y)
      · exact c (List.mem_cons_of_mem _ y)
    refine c8_moveInto (n := 54) (hh := (hAll (M 2 0) L).2) (by rw [e7]; exact h1.1) K (fun M3 f1 f2 f3 f4 f5 f6 f7 f8 => ?_)
    have E3 : ∀ o k i, o ≠ 14 → o ≠ 7 → o ≠ 4 → o ≠ 5 → o ≠ 6 → (o, k) ∉ ((2, 1) :: rdF) → M3 o k i = M o k i := fun o k i a b c d e g => by rw [f1 o c d e]; exact E2 o k i a b g
    have e6 : ∀ k, M2 6 k = M 6 k := fun k => by funext i; exact E2 6 k i (by decide) (by decide) (by simp)
    refine ⟨NoR_eq (fun i => E3 1 2 i (by decide) (by decide) (by decide) (by decide) (by decide) (by decide)) (fun i => E3 1 5 i (by decide) (by decide) (by decide) (by decide) (by decide) (by decide)) I.2.nor, ?_⟩
    refine c12_house (n := 54) (b := M 2 0) (L := L) ⟨by rw [E3 0 1 0 (by decide) (by decide) (by decide) (by decide) (by decide) (by decide)]; exact hL0, hL4, fun i hi => by rw [E3 0 0 i (by decide) (by decide) (by decide) (by decide) (by decide) (by decide)]; exact T4 i hi⟩ (fun _ M4 E4 t4 s4 => ?_) (fun w => absurd z w)
    refine ⟨f2.1.symm, ?_⟩
    have E : ∀ o k i, o ≠ 14 → o ≠ 7 → o ≠ 4 → o ≠ 5 → o ≠ 6 → (o, k) ∉ ((2, 1) :: rdF) → (o, k) ∉ ((0, 17) :: (0, 26) :: rsF) → M4 o k i = M o k i := fun o k i a b c d e g h => by rw [E4 o k i h]; exact E3 o k i a b c d e g
    have E0 : ∀ k i, (0, k) ∉ ((0, 17) :: (0, 26) :: rsF) → M4 0 k i = M 0 k i := fun k i h => E 0 k i (by decide) (by decide) (by decide) (by decide) (by decide) (by simp) h
    have E1' : ∀ k i, M4 1 k i = M 1 k i := fun k i => E 1 k i (by decide) (by decide) (by decide) (by decide) (by decide) (by simp) (by simp)
    have g4 : M4 4 = M3 4 := by funext k i; exact E4 4 k i (by simp)
    have g5 : M4 5 = M3 5 := by funext k i; exact E4 5 k i (by simp)
    have g6 : M4 6 = M3 6 := by funext k i; exact E4 6 k i (by simp)
    have gs : sd M3 = sd M := by funext i; exact E3 0 26 _ (by decide) (by decide) (by decide) (by decide) (by decide) (by decide)
    refine ⟨⟨?_, TpR_0 (fun i => E 2 0 i (by decide) (by decide) (by decide) (by decide) (by decide) (by decide) (by decide)) ?_ (fun i => E0 0 i (by decide)) t4 I.1.2.1, RuAll_k (E1' 3 0) (E0 2 0 (by decide)) (fun i => E1' 2 i) (fun k hk j i => E _ j i (by omega) (by omega) (by omega) (by omega) (by omega) (by simp <;> omega) (by simp <;> omega)) (fun i => E0 6 i (by decide)) (fun i => E0 5 i (by decide)) (fun i => E0 3 i (by decide)) I.1.2.2.1, ImOK_k (fun i => E1' 5 i) (fun i => E0 46 i (by decide)) (fun i => E0 45 i (by decide)) (fun o ho j i => E o j i (by omega) (by omega) (by omega) (by omega) (by omega) (by simp <;> omega) (by simp <;> omega)) I.1.2.2.2⟩, I.2.eq (fun i => E1' 2 i) (fun i => E1' 5 i) (E1' 10 0)⟩
    · rw [g4, g5, g6]
      refine house_SAll (f6 := M 6) (s := sd M) f2 K I.1.1.2.2.2.2.1 I.1.1.2.2.2.2.2 (fun i hi => by rw [s4 i hi, gs]) f3 f4 f5 f6 f7 (fun k a b => by rw [f8 k a b]; exact e6 k)
    · rw [E4 2 1 0 (by simp), f1 2 (by decide) (by decide) (by decide), m2, mset_self]
  · have E2 : ∀ o k i, o ≠ 14 → o ≠ 7 → (o, k) ∉ ((2, 1) :: rdF) → M2 o k i = M o k i := fun o k i a b c => by
      rw [m2, mset_ne (fun y => c (by rw [y.1, y.2.1]; exact List.mem_cons_self)), E1 o k i b (fun y => ?_), mh o a]
      rcases List.mem_cons.mp y with y | y
      · exact a (congrArg Prod.fst y)
      · exact c (List.mem_cons_of_mem _ y)
    have h27 : M2 2 7 0 = (hAll (M 2 0) L).1 := by rw [m2, mset_ne (by omega)]; exact h1
    rw [h27]
    refine ⟨NoR_eq (fun i => E2 1 2 i (by decide) (by decide) (by decide)) (fun i => E2 1 5 i (by decide) (by decide) (by decide)) I.2.nor, ?_⟩
    refine c12_house (n := 54) (b := M 2 0) (L := L) ⟨by rw [E2 0 1 0 (by decide) (by decide) (by decide)]; exact hL0, hL4, fun i hi => by rw [E2 0 0 i (by decide) (by decide) (by decide)]; exact T4 i hi⟩ (fun w => absurd w z) (fun _ M4 E4 t4 => ?_)
    refine ⟨rfl, ?_⟩
    have E : ∀ o k i, o ≠ 14 → o ≠ 7 → (o, k) ∉ ((2, 1) :: rdF) → (o, k) ∉ ((0, 17) :: rsF) → M4 o k i = M o k i := fun o k i a b g h => by rw [E4 o k i h]; exact E2 o k i a b g
    have E0 : ∀ k i, (0, k) ∉ ((0, 17) :: rsF) → M4 0 k i = M 0 k i := fun k i h => E 0 k i (by decide) (by decide) (by simp) h
    have E1' : ∀ k i, M4 1 k i = M 1 k i := fun k i => E 1 k i (by decide) (by decide) (by simp) (by simp)
    have g4 : M4 4 = M 4 := by funext k i; exact E 4 k i (by decide) (by decide) (by simp) (by simp)
    have g5 : M4 5 = M 5 := by funext k i; exact E 5 k i (by decide) (by decide) (by simp) (by simp)
    have g6 : M4 6 = M 6 := by funext k i; exact E 6 k i (by decide) (by decide) (by simp) (by simp)
    have gs : sd M4 = sd M := by funext i; exact E0 26 _ (by decide)
    refine ⟨⟨by rw [g4, g5, g6, gs]; exact I.1.1, TpR_0 (fun i => E 2 0 i (by decide) (by decide) (by decide) (by decide)) (by rw [E4 2 1 0 (by simp), m2, mset_self]) (fun i => E0 0 i (by decide)) t4 I.1.2.1, RuAll_k (E1' 3 0) (E0 2 0 (by decide)) (fun i => E1' 2 i) (fun k hk j i => E _ j i (by omega) (by omega) (by simp <;> omega) (by simp <;> omega)) (fun i => E0 6 i (by decide)) (fun i => E0 5 i (by decide)) (fun i => E0 3 i (by decide)) I.1.2.2.1, ImOK_k (fun i => E1' 5 i) (fun i => E0 46 i (by decide)) (fun i => E0 45 i (by decide)) (fun o ho j i => E o j i (by omega) (by omega) (by simp <;> omega) (by simp <;> omega)) I.1.2.2.2⟩, I.2.eq (fun i => E1' 2 i) (fun i => E1' 5 i) (E1' 10 0)⟩
def bVal (s : Int → Int) (x1 x2 x4 : Int) : Prop := 0 ≤ x1 ∧ x1 < s 0 ∧ 0 ≤ x2 ∧ x2 ≤ 1439 ∧ 0 ≤ x4 ∧ x4 ≤ 2
theorem InvG_pl {G1 : Gx} {M1 M' M2 : Mem} (I : InvG G M) (hN : PlN G M G1 M1) (e1 : EqX plF M1 M') (e2 : EqX bsF M' M2) : InvG G1 M2 ∧ 12 ∈ gL G1 := by
  have hne := PlN_ne hN
  have h0 : M2 1 10 0 ≠ 0 := by rw [e2 1 10 0 (by decide), e1 1 10 0 (by decide)]; exact hne
  have E : ∀ o k i, o ≠ 12 → o ≠ 13 → (o, k) ≠ (1, 10) → (o, k) ∉ bsF → M2 o k i = M o k i := fun o k i a b c d => by
    rw [e2 o k i d, e1 o k i (by simp <;> omega)]
    rcases hN.2 with ⟨rfl, -⟩ | ⟨-, -, rfl⟩
    · rfl
    · rw [mset_ne (fun z => c (by rw [z.1, z.2.1])), MN_out (by simp <;> omega)]
  have g4 : M2 4 = M 4 := by funext k i; exact E 4 k i (by decide) (by decide) (by simp) (by simp)
  have g5 : M2 5 = M 5 := by funext k i; exact E 5 k i (by decide) (by decide) (by simp) (by simp)
  have g6 : M2 6 = M 6 := by funext k i; exact E 6 k i (by decide) (by decide) (by simp) (by simp)
  have gs : sd M2 = sd M := by funext i; exact E 0 26 _ (by decide) (by decide) (by decide) (by decide)
  have E0 : ∀ k i, (0, k) ∉ bsF → M2 0 k i = M 0 k i := fun k i h => E 0 k i (by decide) (by decide) (by simp) h
  have i2 : ∀ i, M2 1 2 i = M 1 2 i := fun i => E 1 2 i (by decide) (by decide) (by decide) (by decide)
  have i5 : ∀ i, M2 1 5 i = M 1 5 i := fun i => E 1 5 i (by decide) (by decide) (by decide) (by decide)
  have hI : Inv M2 := ⟨by rw [g4, g5, g6, gs]; exact I.1.1, TpR_k (fun i => E 2 0 i (by decide) (by decide) (by decide) (by decide)) (E 2 1 0 (by decide) (by decide) (by decide) (by decide)) (fun i => E0 0 i (by decide)) (E0 1 0 (by decide)) I.1.2.1, RuAll_k (E 1 3 0 (by decide) (by decide) (by decide) (by decide)) (E0 2 0 (by decide)) i2 (fun k hk j i => E _ j i (by omega) (by omega) (by simp <;> omega) (by simp <;> omega)) (fun i => E0 6 i (by decide)) (fun i => E0 5 i (by decide)) (fun i => E0 3 i (by decide)) I.1.2.2.1, ImOK_k i5 (fun i => E0 46 i (by decide)) (fun i => E0 45 i (by decide)) (fun o ho j i => E o j i (by omega) (by omega) (by simp <;> omega) (by simp <;> omega)) I.1.2.2.2⟩
  obtain ⟨a1, a2, a3, a4, a5, a6, a7, a8, a9⟩ := I.2
  rcases hN.2 with ⟨rfl, rfl, hz⟩ | ⟨hz, hL, -⟩
  · exact ⟨⟨hI, a1, fun i z => a2 i (by rw [← i2]; exact z), fun i z => a3 i (by rw [← i5]; exact z), a4, a5, fun k hk z => a6 k hk (by rw [← i2]; exact z), fun z => absurd z h0, fun k hk z => a8 k hk (by rw [← i5]; exact z), fun _ => a9 hz⟩, a9 hz⟩
  · have m12 : 12 ∈ gL G1 := by rw [hL]; exact List.mem_append_right _ List.mem_cons_self
    have out : ∀ o, o ≠ 12 → o ≠ 13 → o ∉ gL G → o ∉ gL G1 := fun o a b c d => by
      rw [hL] at d
      rcases List.mem_append.mp d with d | d
      · exact c d
      · simp at d; omega
    refine ⟨⟨hI, fun o ho => by rw [hL]; exact List.mem_append_left _ (a1 o ho), fun i z => by rw [hL]; exact List.mem_append_left _ (a2 i (by rw [← i2]; exact z)), fun i z => by rw [hL]; exact List.mem_append_left _ (a3 i (by rw [← i5]; exact z)), out _ (by decide) (by decide) a4, fun k hk => out _ (by omega) (by omega) (a5 k hk), fun k hk z => out _ (by omega) (by omega) (a6 k hk (by rw [← i2]; exact z)), fun z => absurd z h0, fun k hk z o ho => out _ (by simp at ho; omega) (by simp at ho; omega) (a8 k hk (by rw [← i5]; exact z) o ho), fun _ => m12⟩, m12⟩
theorem lw_best {x1 x2 x3 x4 : Int} {mc ms : Nat} (I : InvG G M) (hcs : 12 ∉ gL G → bVal (sd M) x1 x2 x4 → 4 ≤ mc ∧ 20518 ≤ ms) : OkN G 60 mX11_best [vO 1, vI x1, vI x2, vI x3, vI x4] M mc ms (fun G1 r1 M1 => OkI G1 60 mX12_best [vO 0, vI x1, vI x2, vI x3, vI x4] M1 (fun r2 M2 => r2 = r1 ∧ InvG G1 M2 ∧ (bVal (sd M) x1 x2 x4 → 12 ∈ gL G1))) := by
  obtain ⟨H, K, D, D2, L, LO⟩ := I.1.1
  refine c11_best (n := 54) (s := sd M) I.2.nor I.2.2.2.2.2.2.2.1 (fun z v => hcs (I.2.2.2.2.2.2.2.1 z).1 v) H K L LO (fun z => ?_) (fun a1 a2 a3 a4 a5 a6 G1 M1 M' b hN hb e1 => ?_)
  · exact c12_best (n := 56) (s := sd M) rfl K LO (fun _ => ⟨rfl, I, fun v => absurd v z⟩) (fun b1 b2 b3 b4 b5 b6 => absurd ⟨b1, b2, b3, b4, b5, b6⟩ z)
  · have hs : sd M' = sd M := by
      funext i
      show M' 0 26 _ = M 0 26 _
      rw [e1 0 26 _ (by decide), PlN_eq hN (by decide) (by decide) (by decide)]
    have fin : ∀ M2, EqX bsF M' M2 → InvG G1 M2 ∧ (bVal (sd M) x1 x2 x4 → 12 ∈ gL G1) := fun M2 e2 => ⟨(InvG_pl I hN e1 e2).1, fun _ => (InvG_pl I hN e1 e2).2⟩
    refine ⟨fun w => ?_, fun w => ?_, fun w => ?_⟩
    all_goals refine c12_best (n := 56) (s := sd M) hs K LO (fun z => absurd ⟨a1, a2, a3, a4, a5, a6⟩ z) (fun b1 b2 b3 b4 b5 b6 M2 b' hb' e2 => ?_)
    all_goals rw [← hb] at hb'; subst hb'
    · exact ⟨fun _ => ⟨rfl, fin M2 e2⟩, fun w' => by omega, fun w' => by omega⟩
    · exact ⟨fun w' => by omega, fun _ => ⟨rfl, fin M2 e2⟩, fun w' => by omega⟩
    · exact ⟨fun w' => by omega, fun w' => by omega, fun _ => ⟨rfl, fin M2 e2⟩⟩
theorem lw_image {x : Int} (I : InvG G M) : OkN G 60 mX11_image [vO 1, vI x] M 27 368 (fun G1 r1 M1 => OkI G1 60 mX12_image [vO 0, vI x] M1 (fun r2 M2 => r2 = r1 ∧ InvG G1 M2)) := by
  refine c11_image (n := 56) (s := sd M) I.2.nor (I.2.1 1 (by decide)) I.2.2.2.2.2.2.2.2.1 I.1.1 (fun z => ?_) (fun k hx hk G1 M1 M' hN m1 m2 => ?_)
  · exact c12_image (n := 59) (fun _ => ⟨rfl, I⟩) (fun k e hk => absurd ⟨by omega, by omega⟩ z)
  · have e1 : ∀ o j i, o < 27 → (o, j) ≠ (1, 5) → M' o j i = M o j i := fun o j i a b => by
      rw [m1 o (by omega) (by omega) (by omega)]
      rcases hN.2 with ⟨rfl, -⟩ | ⟨-, -, rfl⟩
      · rfl
      · rw [mset_ne (fun z => b (by rw [z.1, z.2.1])), MN_out (by simp <;> omega)]
    have e2 : ∀ i, i ≠ k → M' 1 5 i = M 1 5 i := fun i a => by
      rw [m1 1 (by omega) (by omega) (by omega)]
      rcases hN.2 with ⟨rfl, -⟩ | ⟨-, -, rfl⟩
      · rfl
      · rw [mset_ne (fun z => a z.2.2), MN_out (by simp <;> omega)]
    have e3 : M' 1 5 k ≠ 0 := by
      rw [m1 1 (by omega) (by omega) (by omega)]
      rcases hN.2 with ⟨rfl, -, h⟩ | ⟨-, -, rfl⟩
      · exact h
      · rw [mset_self]; decide
    have e4 : ∀ o, 27 ≤ o → o ≠ 27 + 4 * k → o ≠ 28 + 4 * k → o ≠ 29 + 4 * k → o ≠ 30 + 4 * k → M' o = M o := fun o a b c d e => by
      rw [m1 o c d e]
      rcases hN.2 with ⟨rfl, -⟩ | ⟨-, -, rfl⟩
      · rfl
      · funext j i
        rw [mset_ne (by omega), MN_out (by simp <;> omega)]
    have ex : M' 0 26 3 = M' 5 0 0 := by
      rw [e1 0 26 3 (by decide) (by decide), e1 5 0 0 (by decide) (by decide)]
      exact I.1.1.2.2.1.1.symm
    refine c12_image (n := 59) (fun z => absurd ⟨by omega, by omega⟩ z) (fun k' hx' hk' M2 f1 f2 f3 f4 => ⟨ex, ?_⟩)
    have : k' = k := by omega
    subst this
    have E : ∀ o j i, o < 27 → (o, j) ≠ (1, 5) → (o, j) ∉ ([(0, 45), (0, 46)] : List (Nat × Nat)) → M2 o j i = M o j i := fun o j i a b c => by rw [f1 o j i c]; exact e1 o j i a b
    have Eo : ∀ o, 1 ≤ o → M2 o = M' o := fun o ho => by funext j i; exact f1 o j i (by simp <;> omega)
    have g4 : M2 4 = M 4 := by funext j i; exact E 4 j i (by decide) (by simp) (by simp)
    have g5 : M2 5 = M 5 := by funext j i; exact E 5 j i (by decide) (by simp) (by simp)
    have g6 : M2 6 = M 6 := by funext j i; exact E 6 j i (by decide) (by simp) (by simp)
    have gs : sd M2 = sd M := by funext i; exact E 0 26 _ (by decide) (by decide) (by decide)
    have E0 : ∀ j i, (0, j) ∉ ([(0, 45), (0, 46)] : List (Nat × Nat)) → M2 0 j i = M 0 j i := fun j i h => E 0 j i (by decide) (by simp) h
    have i2 : ∀ i, M2 1 2 i = M 1 2 i := fun i => E 1 2 i (by decide) (by decide) (by decide)
    have i10 : M2 1 10 0 = M 1 10 0 := E 1 10 0 (by decide) (by decide) (by decide)
    have i5 : ∀ i, i ≠ k' → M2 1 5 i = M 1 5 i := fun i a => by rw [Eo 1 (by decide)]; exact e2 i a
    have i5k : M2 1 5 k' ≠ 0 := by rw [Eo 1 (by decide)]; exact e3
    have hI : Inv M2 := by
      refine ⟨by rw [g4, g5, g6, gs]; exact I.1.1, TpR_k (fun i => E 2 0 i (by decide) (by decide) (by decide)) (E 2 1 0 (by decide) (by decide) (by decide)) (fun i => E0 0 i (by decide)) (E0 1 0 (by decide)) I.1.2.1, RuAll_k (E 1 3 0 (by decide) (by decide) (by decide)) (E0 2 0 (by decide)) i2 (fun k hk j i => E _ j i (by omega) (by simp <;> omega) (by simp)) (fun i => E0 6 i (by decide)) (fun i => E0 5 i (by decide)) (fun i => E0 3 i (by decide)) I.1.2.2.1, fun j hj => ?_⟩
      by_cases q : j = k'
      · subst q
        refine ⟨fun z => absurd z i5k, fun _ => ⟨by rw [f2, if_pos rfl]; decide, ?_⟩⟩
        rw [Eo _ (by omega), Eo _ (by omega), Eo _ (by omega)]
        refine SAll_cg (fun i a b => ?_) m2
        show M2 0 45 (328 * j + i.toNat) = M 0 26 i.toNat
        rw [f4 _ (by omega), e1 0 26 _ (by decide) (by decide)]
      · obtain ⟨p1, p2⟩ := I.1.2.2.2 j hj
        refine ⟨fun z => by rw [f2, if_neg q, e1 0 46 _ (by decide) (by decide)]; exact p1 (by rw [← i5 j q]; exact z), fun z => ?_⟩
        obtain ⟨p3, p4⟩ := p2 (by rw [← i5 j q]; exact z)
        refine ⟨by rw [f2, if_neg q, e1 0 46 _ (by decide) (by decide)]; exact p3, ?_⟩
        rw [Eo _ (by omega), Eo _ (by omega), Eo _ (by omega), e4 _ (by omega) (by omega) (by omega) (by omega) (by omega), e4 _ (by omega) (by omega) (by omega) (by omega) (by omega), e4 _ (by omega) (by omega) (by omega) (by omega) (by omega)]
        refine SAll_cg (fun i a b => ?_) p4
        show M2 0 45 (328 * j + i.toNat) = M 0 45 (328 * j + i.toNat)
        rw [f3 _ (by omega), e1 0 45 _ (by decide) (by decide)]
    obtain ⟨a1, a2, a3, a4, a5, a6, a7, a8, a9⟩ := I.2
    rcases hN.2 with ⟨-, rfl, hz⟩ | ⟨hz, hL, -⟩
    · refine ⟨hI, a1, fun i z => a2 i (by rw [← i2]; exact z), fun i z => ?_, a4, a5, fun j hj z => a6 j hj (by rw [← i2]; exact z), fun z => a7 (by rw [← i10]; exact z), fun j hj z => ?_, fun z => a9 (by rw [← i10]; exact z)⟩
      · by_cases q : i = k'
        · rw [q]; exact a3 k' hz
        · exact a3 i (by rw [← i5 i q]; exact z)
      · by_cases q : j = k'
        · rw [q] at z; exact absurd z i5k
        · exact a8 j hj (by rw [← i5 j q]; exact z)
    · have out : ∀ o, (o < 27 ∨ ∃ j, j ≠ k' ∧ 27 + 4 * j ≤ o ∧ o ≤ 30 + 4 * j) → o ∉ gL G → o ∉ gL G1 := fun o a c d => by
        rw [hL] at d
        rcases List.mem_append.mp d with d | d
        · exact c d
        · simp at d
          rcases a with a | ⟨j, a1, a2, a3⟩ <;> omega
      have inn : ∀ o, o ∈ gL G → o ∈ gL G1 := fun o h => by rw [hL]; exact List.mem_append_left _ h
      refine ⟨hI, fun o ho => inn o (a1 o ho), fun i z => inn _ (a2 i (by rw [← i2]; exact z)), fun i z => ?_, out _ (Or.inl (by decide)) a4, fun j hj => out _ (Or.inl (by omega)) (a5 j hj), fun j hj z => out _ (Or.inl (by omega)) (a6 j hj (by rw [← i2]; exact z)), fun z => ⟨out _ (Or.inl (by decide)) (a7 (by rw [← i10]; exact z)).1, out _ (Or.inl (by decide)) (a7 (by rw [← i10]; exact z)).2⟩, fun j hj z o ho => ?_, fun z => inn _ (a9 (by rw [← i10]; exact z))⟩
      · by_cases q : i = k'
        · rw [q, hL]; exact List.mem_append_right _ List.mem_cons_self
        · exact inn _ (a3 i (by rw [← i5 i q]; exact z))
      · by_cases q : j = k'
        · rw [q] at z; exact absurd z i5k
        · exact out o (Or.inr ⟨j, q, by simp at ho; omega, by simp at ho; omega⟩) (a8 j hj (by rw [← i5 j q]; exact z) o ho)
end LWD
