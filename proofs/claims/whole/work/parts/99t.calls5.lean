/-! ===== rule: class, then reference ===== -/
section LWR
variable {G : Gx} {M : Mem}
abbrev ruF : List (Nat × Nat) := (1, 2) :: (2, 1) :: (1, 3) :: (0, 2) :: (0, 17) :: (rdF ++ muF)
theorem ruF_2 {o j : Nat} (h : 2 < o) : (o, j) ∉ ruF := fun y => by
  have all : ∀ p ∈ ruF, p.1 ≤ 2 := by decide
  have : o ≤ 2 := all _ y
  omega
theorem raF_mem {k o j : Nat} (y : (o, j) ∈ raF (21 + k)) : o = 21 + k ∨ o = 15 + k ∨ (o, j) ∈ rdF := by
  have f : ∀ {a b : Nat}, (o, j) = (a, b) → o = a := fun e => congrArg Prod.fst e
  rcases List.mem_cons.mp y with y | y
  · exact Or.inl (f y)
  rcases List.mem_cons.mp y with y | y
  · exact Or.inl (f y)
  rcases List.mem_cons.mp y with y | y
  · have := f y; omega
  rcases List.mem_cons.mp y with y | y
  · have := f y; omega
  rcases List.mem_cons.mp y with y | y
  · have := f y; omega
  rcases List.mem_cons.mp y with y | y
  · have := f y; omega
  rcases List.mem_cons.mp y with y | y
  · have := f y; omega
  rcases List.mem_cons.mp y with y | y
  · have := f y; omega
  rcases List.mem_cons.mp y with y | y
  · have := f y; omega
  exact Or.inr (Or.inr y)
theorem muF_0 {o j : Nat} (h : o ≠ 0) : (o, j) ∉ muF := fun y => by
  have all : ∀ p ∈ muF, p.1 = 0 := by decide
  exact h (all _ y)
/-- what a telling of rule k may change -/
def RuF (k : Nat) (M M7 : Mem) : Prop := (∀ o j i, o ≠ 15 + k → o ≠ 21 + k → (o, j) ∉ ruF → M7 o j i = M o j i) ∧ (∀ i, i ≠ k → M7 1 2 i = M 1 2 i) ∧ M7 1 2 k ≠ 0 ∧ (∀ i, (i < 400 * k ∨ 400 * k + 400 ≤ i) → M7 0 3 i = M 0 3 i) ∧ (∀ i, (i < 48 * k ∨ 48 * k + 48 ≤ i) → M7 0 5 i = M 0 5 i) ∧ (∀ i, i ≠ k → M7 0 6 i = M 0 6 i)
theorem RuF_old {k : Nat} {M7 : Mem} (hk : k ≤ 5) (F : RuF k M M7) (hk3 : M 0 2 0 = (k : Int)) (R : RuAll M) : ∀ j : Nat, j < k → M7 1 2 j ≠ 0 ∧ ∃ ρ, RuC ρ (M7 (15 + j)) ∧ RuM ρ M7 j ∧ RuOK ρ := by
  intro j hj
  obtain ⟨f1, f2, f3, f4, f5, f6⟩ := F
  obtain ⟨q1, ρ, q2, q3, q4⟩ := R.2.2.2 j (by omega)
  refine ⟨by rw [f2 j (by omega)]; exact q1, ρ, fun c hc => ?_, RuM_k (f6 j (by omega)) (fun i a b => f5 i (by omega)) (fun i a b => f4 i (by omega)) q4 q3, q4⟩
  rw [← q2 c hc]
  funext i
  exact f1 _ c i (by omega) (by omega) (ruF_2 (by omega))
theorem InvG_ru {k : Nat} {G1 : Gx} {M1 M7 : Mem} (hk : k ≤ 5) (I : InvG G M) (hN : RuN G M k G1 M1) (F : RuF k M M7) (h21 : M7 2 1 0 = 0) (h01 : M7 0 1 0 = 0) (R : RuAll M7) : InvG G1 M7 := by
  obtain ⟨f1, f2, f3, -, -, -⟩ := F
  have E : ∀ o j i, o ≠ 15 + k → o ≠ 21 + k → (o, j) ∉ ruF → M7 o j i = M o j i := f1
  have g4 : M7 4 = M 4 := by funext j i; exact E 4 j i (by omega) (by omega) (ruF_2 (by decide))
  have g5 : M7 5 = M 5 := by funext j i; exact E 5 j i (by omega) (by omega) (ruF_2 (by decide))
  have g6 : M7 6 = M 6 := by funext j i; exact E 6 j i (by omega) (by omega) (ruF_2 (by decide))
  have gs : sd M7 = sd M := by funext i; exact E 0 26 _ (by omega) (by omega) (by decide)
  have i5 : ∀ i, M7 1 5 i = M 1 5 i := fun i => E 1 5 i (by omega) (by omega) (by decide)
  have i10 : M7 1 10 0 = M 1 10 0 := E 1 10 0 (by omega) (by omega) (by decide)
  have hI : Inv M7 := ⟨by rw [g4, g5, g6, gs]; exact I.1.1, TpR_0 (fun i => E 2 0 i (by omega) (by omega) (by decide)) h21 (fun i => E 0 0 i (by omega) (by omega) (by decide)) h01 I.1.2.1, R, ImOK_k i5 (fun i => E 0 46 i (by omega) (by omega) (by decide)) (fun i => E 0 45 i (by omega) (by omega) (by decide)) (fun o ho j i => E o j i (by omega) (by omega) (ruF_2 (by omega))) I.1.2.2.2⟩
  obtain ⟨a1, a2, a3, a4, a5, a6, a7, a8, a9⟩ := I.2
  rcases hN.2.2 with ⟨-, rfl, hz⟩ | ⟨hz, hL, -⟩
  · refine ⟨hI, a1, fun i z => ?_, fun i z => a3 i (by rw [← i5]; exact z), a4, a5, fun j hj z => ?_, fun z => a7 (by rw [← i10]; exact z), fun j hj z => a8 j hj (by rw [← i5]; exact z), fun z => a9 (by rw [← i10]; exact z)⟩
    · by_cases q : i = k
      · rw [q]; exact a2 k hz
      · exact a2 i (by rw [← f2 i q]; exact z)
    · by_cases q : j = k
      · rw [q] at z; exact absurd z f3
      · exact a6 j hj (by rw [← f2 j q]; exact z)
  · have out : ∀ o, o ≠ 15 + k → o ∉ gL G → o ∉ gL G1 := fun o a c d => by
      rw [hL] at d
      rcases List.mem_append.mp d with d | d
      · exact c d
      · exact a (List.mem_singleton.mp d)
    have inn : ∀ o, o ∈ gL G → o ∈ gL G1 := fun o h => by rw [hL]; exact List.mem_append_left _ h
    refine ⟨hI, fun o ho => inn o (a1 o ho), fun i z => ?_, fun i z => inn _ (a3 i (by rw [← i5]; exact z)), out _ (by omega) a4, fun j hj => out _ (by omega) (a5 j hj), fun j hj z => ?_, fun z => ⟨out _ (by omega) (a7 (by rw [← i10]; exact z)).1, out _ (by omega) (a7 (by rw [← i10]; exact z)).2⟩, fun j hj z o ho => out _ (by simp at ho; omega) (a8 j hj (by rw [← i5]; exact z) o ho), fun z => inn _ (a9 (by rw [← i10]; exact z))⟩
    · by_cases q : i = k
      · rw [q, hL]; exact List.mem_append_right _ List.mem_cons_self
      · exact inn _ (a2 i (by rw [← f2 i q]; exact z))
    · by_cases q : j = k
      · rw [q] at z; exact absurd z f3
      · exact out _ (by omega) (a6 j hj (by rw [← f2 j q]; exact z))
theorem RuN_f {k : Nat} {G1 : Gx} {M1 : Mem} (h : RuN G M k G1 M1) : (∀ o j i, o ≠ 15 + k → (o, j) ≠ (1, 2) → M1 o j i = M o j i) ∧ (∀ i, i ≠ k → M1 1 2 i = M 1 2 i) ∧ M1 1 2 k ≠ 0 := by
  rcases h.2.2 with ⟨rfl, -, h⟩ | ⟨-, -, rfl⟩
  · exact ⟨fun _ _ _ _ _ => rfl, fun _ _ => rfl, h⟩
  · refine ⟨fun o j i a b => ?_, fun i a => ?_, ?_⟩
    · rw [mset_ne (fun z => b (by rw [z.1, z.2.1])), MN_out (fun z => a (List.mem_singleton.mp z))]
    · rw [mset_ne (fun z => a z.2.2), MN_out (fun z => by have := List.mem_singleton.mp z; omega)]
    · rw [mset_self]; decide
/-- what stands when the class has read -/
def RuS (k : Nat) (M M3 : Mem) : Prop := (∀ o j i, o ≠ 15 + k → o ≠ 21 + k → (o, j) ∉ ((1, 2) :: (2, 1) :: rdF) → M3 o j i = M o j i) ∧ (∀ i, i ≠ k → M3 1 2 i = M 1 2 i) ∧ M3 1 2 k ≠ 0
theorem ru_cls {k : Nat} {G1 : Gx} {M1 M2 M3 : Mem} (hk : k ≤ 5) (hN : RuN G M k G1 M1) (E2 : EqX (raF (21 + k)) (MN M1 [21 + k]) M2) (m3 : M3 = mset M2 2 1 0 0) : RuS k M M3 := by
  obtain ⟨n1, n2, n3⟩ := RuN_f hN
  have mn : ∀ o, o ≠ 21 + k → ∀ j i, MN M1 [21 + k] o j i = M1 o j i := fun o a j i => MN_out (fun z => a (List.mem_singleton.mp z))
  have s1 : ∀ o j i, o ≠ 15 + k → o ≠ 21 + k → (o, j) ∉ ((2, 1) :: rdF) → M3 o j i = M1 o j i := fun o j i a b c => by
    rw [m3, mset_ne (fun y => c (by rw [y.1, y.2.1]; exact List.mem_cons_self)), E2 o j i (fun y => ?_), mn o b]
    rcases raF_mem y with y | y | y
    · exact b y
    · exact a y
    · exact c (List.mem_cons_of_mem _ y)
  refine ⟨fun o j i a b c => ?_, fun i a => ?_, ?_⟩
  · rw [s1 o j i a b (fun y => c (List.mem_cons_of_mem _ y))]
    exact n1 o j i a (fun y => c (by rw [y]; exact List.mem_cons_self))
  · rw [s1 1 2 i (by omega) (by omega) (by decide)]; exact n2 i a
  · rw [s1 1 2 k (by omega) (by omega) (by decide)]; exact n3
theorem ru_frm {k : Nat} {M3 M4 M5 M6 M7 : Mem} (hk : k ≤ 5) (c3 : RuS k M M3) (x4 : EqX [(1, 3)] M3 M4) (x5 : EqX [(0, 6), (0, 17)] M4 M5) (y5 : ∀ i, i ≠ k → M5 0 6 i = M4 0 6 i) (u6 : EqU k M5 M6) (x7 : EqX [(0, 2)] M6 M7) : RuF k M M7 := by
  obtain ⟨u1, u2, u3, u4⟩ := u6
  have s2 : ∀ p ∈ ([(0, 2)] : List (Nat × Nat)), p ∈ ruF := by decide
  have s3 : ∀ p ∈ muF, p ∈ ruF := by decide
  have s4 : ∀ p ∈ ([(0, 6), (0, 17)] : List (Nat × Nat)), p ∈ ruF := by decide
  have s5 : ∀ p ∈ ([(1, 3)] : List (Nat × Nat)), p ∈ ruF := by decide
  have s6 : ∀ p ∈ ((1, 2) :: (2, 1) :: rdF), p ∈ ruF := by decide
  refine ⟨fun o j i a b c => ?_, fun i a => ?_, ?_, fun i a => ?_, fun i a => ?_, fun i a => ?_⟩
  · rw [x7 o j i (fun y => c (s2 _ y)), u1 o j i (fun y => c (s3 _ y)), x5 o j i (fun y => c (s4 _ y)), x4 o j i (fun y => c (s5 _ y))]
    exact c3.1 o j i a b (fun y => c (s6 _ y))
  · rw [x7 1 2 i (by decide), u1 1 2 i (by decide), x5 1 2 i (by decide), x4 1 2 i (by decide)]; exact c3.2.1 i a
  · rw [x7 1 2 k (by decide), u1 1 2 k (by decide), x5 1 2 k (by decide), x4 1 2 k (by decide)]; exact c3.2.2
  · rw [x7 0 3 i (by decide), u2 i a, x5 0 3 i (by decide), x4 0 3 i (by decide)]; exact c3.1 0 3 i (by omega) (by omega) (by decide)
  · rw [x7 0 5 i (by decide), u3 i a, x5 0 5 i (by decide), x4 0 5 i (by decide)]; exact c3.1 0 5 i (by omega) (by omega) (by decide)
  · rw [x7 0 6 i (by decide), u4 i a, y5 i a, x4 0 6 i (by decide)]; exact c3.1 0 6 i (by omega) (by omega) (by decide)
theorem lw_rule (I : InvG G M) : OkN G 60 mX11_rule [vO 1] M 8 524 (fun G1 r1 M1 => OkI G1 60 mX12_rule [vO 0] M1 (fun r2 M2 => r2 = r1 ∧ InvG G1 M2)) := by
  obtain ⟨L, hL0, hL2, hL4⟩ := tape_L I.1.2.1
  have T4 := I.1.2.1.2.2.2
  have R := I.1.2.2.1
  refine c11_rule (n := 57) (I.2.1 1 (by decide)) (I.2.1 2 (by decide)) I.2.nor I.2.2.2.2.2.1 I.2.2.2.2.2.2.1 (fun z => ?_) (fun k G1 M1 hk hk3 hN π => ?_)
  · have h6 : M 0 2 0 = ((6 : Nat) : Int) := by have := R.1; have := R.2.1; have := R.2.2.1; omega
    exact c12_rule (n := 48) (b := M 2 0) (L := L) (k := 6) (ρ := fun _ _ => 0) ⟨hL0, hL4, T4⟩ h6 (by decide) (fun _ => ⟨rfl, I⟩) (fun h => absurd h (by decide)) (fun h => absurd h (by decide))
  obtain ⟨n1, n2, n3⟩ := RuN_f hN
  have h02 : M 0 2 0 = (k : Int) := by rw [← R.1]; exact hk3
  have e6 : 21 + k - 6 = 15 + k := by omega
  have ho : oc (21 + k) = 7 := by
    rcases (show k = 0 ∨ k = 1 ∨ k = 2 ∨ k = 3 ∨ k = 4 ∨ k = 5 by omega) with rfl | rfl | rfl | rfl | rfl | rfl <;> rfl
  have hr : oc (21 + k - 6) = 6 := by
    rcases (show k = 0 ∨ k = 1 ∨ k = 2 ∨ k = 3 ∨ k = 4 ∨ k = 5 by omega) with rfl | rfl | rfl | rfl | rfl | rfl <;> rfl
  have mn : ∀ o, o ≠ 21 + k → ∀ j i, MN M1 [21 + k] o j i = M1 o j i := fun o a j i => MN_out (fun z => a (List.mem_singleton.mp z))
  have s46 : ∀ p ∈ ([(0, 6), (0, 17)] : List (Nat × Nat)), p.1 = 0 := by decide
  have nor : ∀ M4 : Mem, (∀ i, i ≠ k → M4 1 2 i = M 1 2 i) → (∀ i, M4 1 5 i = M 1 5 i) → NoR G1 M4 := by
    intro M4 a b o ho' j i hj hz
    obtain ⟨rfl, rfl | rfl⟩ := fK_56 hj
    · by_cases q : i = k
      · subst q; exact hN.2.1 1 ho' 2 i hj n3
      · exact hN.1.le (I.2.2.1 i (by rw [← a i q]; exact hz))
    · exact hN.1.le (I.2.2.2.1 i (by rw [← b]; exact hz))
  refine c7_readAll (n := 15) (o := 21 + k) (b := M 2 0) (L := L) ho hr (by funext i; rw [mn 2 (by omega), n1 2 0 i (by omega) (by simp)]) (by rw [mn 2 (by omega), n1 2 1 0 (by omega) (by simp)]; exact hL2) hL4 (MN_in List.mem_cons_self) (fun z M2 E2 g2 ok M3 m3 => ⟨fun w => absurd w (by decide), fun _ M4 m4 => ?_⟩) (fun z M2 E2 g2 M3 m3 => ⟨fun _ => ?_, fun w => absurd rfl w⟩)
  · have c3 := ru_cls hk hN E2 m3
    have x4 : EqX [(1, 3)] M3 M4 := by rw [m4]; exact EqX.mset List.mem_cons_self
    have h13 : M3 1 3 0 = (k : Int) := by rw [c3.1 1 3 0 (by omega) (by omega) (by decide)]; exact hk3
    have h413 : M4 1 3 0 = ((k + 1 : Nat) : Int) := by
      rw [m4, mset_self, h13, wr_id (by constructor <;> omega)]
      omega
    have hans : wr (M4 1 3 0 - 1) = (k : Int) := by
      rw [h413, wr_id (by constructor <;> omega)]
      omega
    rw [hans]
    have a4 : ∀ o j i, o ≠ 15 + k → o ≠ 21 + k → (o, j) ∉ ((1, 2) :: (2, 1) :: (1, 3) :: rdF) → M4 o j i = M o j i := fun o j i a b c => by
      have t1 : ∀ p ∈ ([(1, 3)] : List (Nat × Nat)), p ∈ (1, 2) :: (2, 1) :: (1, 3) :: rdF := by decide
      have t2 : ∀ p ∈ ((1, 2) :: (2, 1) :: rdF), p ∈ (1, 2) :: (2, 1) :: (1, 3) :: rdF := by decide
      rw [x4 o j i (fun y => c (t1 _ y))]
      exact c3.1 o j i a b (fun y => c (t2 _ y))
    refine ⟨nor M4 (fun i a => by rw [x4 1 2 i (by decide)]; exact c3.2.1 i a) (fun i => a4 1 5 i (by omega) (by omega) (by decide)), ?_⟩
    refine c12_rule (n := 48) (b := M 2 0) (L := L) (k := k) (ρ := MN M1 [21 + k] (21 + k - 6)) ⟨by rw [a4 0 1 0 (by omega) (by omega) (by decide)]; exact hL0, hL4, fun i hi => by rw [a4 0 0 i (by omega) (by omega) (by decide)]; exact T4 i hi⟩ (by rw [a4 0 2 0 (by omega) (by omega) (by decide)]; exact h02) (by omega) (fun h => by omega) (fun _ _ M5 M6 M7 x5 y5 u6 t6 r6 m7 => ⟨rfl, ?_⟩) (fun _ w => absurd z w)
    have x7 : EqX [(0, 2)] M6 M7 := by rw [m7]; exact EqX.mset List.mem_cons_self
    have F := ru_frm hk c3 x4 x5 y5 u6 x7
    have b7 : ∀ o, o ≠ 0 → M7 o = M4 o := fun o a => by
      funext j i
      rw [x7 o j i (fun y => a (congrArg Prod.fst (List.mem_singleton.mp y))), u6.1 o j i (muF_0 a), x5 o j i (fun y => a (s46 _ y))]
    refine InvG_ru hk I hN F ?_ ?_ ⟨?_, ?_, ?_, fun j hj => ?_⟩
    · rw [b7 2 (by decide), x4 2 1 0 (by decide), m3, mset_self]
    · rw [x7 0 1 0 (by decide)]; exact t6
    · rw [b7 1 (by decide), h413, m7, mset_self]
    · rw [m7, mset_self]; omega
    · rw [m7, mset_self]; omega
    · rw [m7, mset_self] at hj
      by_cases q : j = k
      · subst q
        refine ⟨F.2.2.1, _, fun c hc => ?_, RuM_k (M := M6) (x7 0 6 _ (by decide)) (fun i _ _ => x7 0 5 i (by decide)) (fun i _ _ => x7 0 3 i (by decide)) ok r6, ok⟩
        rw [b7 _ (by omega), ← g2 c hc, e6]
        funext i
        rw [x4 _ c i (fun y => by have := congrArg Prod.fst (List.mem_singleton.mp y); have h : 15 + j = 1 := this; omega), m3, mset_ne (by omega)]
      · exact RuF_old hk F h02 R j (by omega)
  · have c3 := ru_cls hk hN E2 m3
    have h27 : M3 2 7 0 = (rAll (M 2 0) L (MN M1 [21 + k] (21 + k - 6))).1 := by rw [m3, mset_ne (by omega)]; exact g2
    rw [h27]
    refine ⟨nor M3 c3.2.1 (fun i => c3.1 1 5 i (by omega) (by omega) (by decide)), ?_⟩
    refine c12_rule (n := 48) (b := M 2 0) (L := L) (k := k) (ρ := MN M1 [21 + k] (21 + k - 6)) ⟨by rw [c3.1 0 1 0 (by omega) (by omega) (by decide)]; exact hL0, hL4, fun i hi => by rw [c3.1 0 0 i (by omega) (by omega) (by decide)]; exact T4 i hi⟩ (by rw [c3.1 0 2 0 (by omega) (by omega) (by decide)]; exact h02) (by omega) (fun h => by omega) (fun _ w => absurd w z) (fun _ _ M5 M6 x5 y5 u6 t6 => ⟨rfl, ?_⟩)
    have F := ru_frm (M7 := M6) hk c3 EqX.rf x5 y5 u6 EqX.rf
    have b6 : ∀ o, o ≠ 0 → M6 o = M3 o := fun o a => by
      funext j i
      rw [u6.1 o j i (muF_0 a), x5 o j i (fun y => a (s46 _ y))]
    have h602 : M6 0 2 0 = (k : Int) := by rw [u6.1 0 2 0 (by decide), x5 0 2 0 (by decide), c3.1 0 2 0 (by omega) (by omega) (by decide)]; exact h02
    refine InvG_ru hk I hN F ?_ t6 ⟨?_, ?_, ?_, fun j hj => ?_⟩
    · rw [b6 2 (by decide), m3, mset_self]
    · rw [b6 1 (by decide), h602, c3.1 1 3 0 (by omega) (by omega) (by decide)]; exact hk3
    · rw [h602]; omega
    · rw [h602]; omega
    · rw [h602] at hj
      exact RuF_old hk F h02 R j (by omega)
end LWR
