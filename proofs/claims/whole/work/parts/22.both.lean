/-! ===== calls over the soonest table ===== -/
theorem EqX.obj {l : List (Nat × Nat)} {M M' : Mem} {o : Nat} (h : EqX l M M') (hn : ∀ c ∈ l, c.1 ≠ o) : M' o = M o := by
  funext k i
  exact h o k i (fun z => hn _ z rfl)
theorem EqX.fld {l : List (Nat × Nat)} {M M' : Mem} {o k : Nat} (h : EqX l M M') (hn : (o, k) ∉ l) : M' o k = M o k := by
  funext i; exact h o k i hn
theorem EqX.sd {l : List (Nat × Nat)} {M M' : Mem} (h : EqX l M M') (hn : (0, 26) ∉ l) : sd M' = sd M := by
  funext i; exact h 0 26 _ hn
theorem setF_congr {f g : Int → Bool} : ∀ k : Nat, (∀ j : Nat, j < k → f (j : Int) = g (j : Int)) → setF f k = setF g k
  | 0, _ => rfl
  | k + 1, h => by
    unfold setF
    rw [h k (by omega), setF_congr k (fun j hj => h j (by omega))]
/-- how soon a room is come to by a table; 99999: not today -/
def so (D : Tb) (r : Int) : Int := if (if D r 1 ≤ D r 0 then D r 1 else D r 0) ≤ 1439 then (if D r 1 ≤ D r 0 then D r 1 else D r 0) else 99999
theorem so_one {s : Int → Int} {S : Src} {D D' : Tb} (h : Tab s S D) (h' : Tab s S D') {r : Int} (h1 : 0 ≤ r) (h2 : r < s 0) : so D r = so D' r := by
  have a := Tab_one h h' (r := r) (u := 0) ⟨h1, h2, Or.inl rfl⟩
  have b := Tab_one h h' (r := r) (u := 1) ⟨h1, h2, Or.inr rfl⟩
  unfold so
  rcases a with a | a <;> rcases b with b | b
  · rw [a, b]
  · rw [a]
    by_cases c : D' r 0 ≤ 1439
    · rw [if_neg (show ¬ D r 1 ≤ D' r 0 by omega), if_neg (show ¬ D' r 1 ≤ D' r 0 by omega)]
    · have e1 : ¬ (if D r 1 ≤ D' r 0 then D r 1 else D' r 0) ≤ 1439 := by split <;> omega
      have e2 : ¬ (if D' r 1 ≤ D' r 0 then D' r 1 else D' r 0) ≤ 1439 := by split <;> omega
      rw [if_neg e1, if_neg e2]
  · rw [b]
    by_cases c : D' r 1 ≤ 1439
    · rw [if_pos (show D' r 1 ≤ D r 0 by omega), if_pos (show D' r 1 ≤ D' r 0 by omega)]
    · have e1 : ¬ (if D' r 1 ≤ D r 0 then D' r 1 else D r 0) ≤ 1439 := by split <;> omega
      have e2 : ¬ (if D' r 1 ≤ D' r 0 then D' r 1 else D' r 0) ≤ 1439 := by split <;> omega
      rw [if_neg e1, if_neg e2]
  · have e1 : ¬ (if D r 1 ≤ D r 0 then D r 1 else D r 0) ≤ 1439 := by split <;> omega
    have e2 : ¬ (if D' r 1 ≤ D' r 0 then D' r 1 else D' r 0) ≤ 1439 := by split <;> omega
    rw [if_neg e1, if_neg e2]
def raw (D : Tb) (r : Int) : Int := if D r 1 < D r 0 then D r 1 else D r 0
theorem so_raw (D : Tb) (r : Int) : (raw D r ≤ 1439 ∧ so D r = raw D r) ∨ (1439 < raw D r ∧ so D r = 99999) := by
  unfold raw
  have e : (if D r 1 ≤ D r 0 then D r 1 else D r 0) = (if D r 1 < D r 0 then D r 1 else D r 0) := by
    by_cases a : D r 1 < D r 0
    · rw [if_pos a, if_pos (by omega)]
    · rw [if_neg a]
      by_cases b : D r 1 ≤ D r 0
      · rw [if_pos b]; omega
      · rw [if_neg b]
  unfold so
  rw [e]
  by_cases c : (if D r 1 < D r 0 then D r 1 else D r 0) ≤ 1439
  · rw [if_pos c]; exact Or.inl ⟨c, rfl⟩
  · rw [if_neg c]; exact Or.inr ⟨by omega, rfl⟩
theorem so_rng (K0 : True) (D : Tb) (r : Int) : so D r ≤ 1439 ∨ so D r = 99999 := by
  rcases so_raw D r with ⟨a, b⟩ | ⟨a, b⟩
  · left; omega
  · right; exact b
section BR
variable {G : Gx} {n : Nat} {M : Mem} {Q : Int → Mem → Prop} {s : Int → Int}
theorem c11_isMinute {x : Int} (ht : 0 ≤ x → x ≤ 1439 → Q 1 M) (hf : ¬ (0 ≤ x ∧ x ≤ 1439) → Q 0 M) : OkI G n mX11_isMinute [vI x] M Q :=
  eX11_isMinute (fun K => bX11_isMinute_0 ⟨fun a => hf (by omega), fun a => ⟨fun b => hf (by omega), fun b => ht (by omega) (by omega)⟩⟩)
theorem c11_isStart {x y : Int} (H : HR (M 4) s) (K : HOK s) (ht : 0 ≤ x → x < s 0 → 0 ≤ y → y ≤ 1439 → Q 1 M) (hf : ¬ (0 ≤ x ∧ x < s 0 ∧ 0 ≤ y ∧ y ≤ 1439) → Q 0 M) : OkI G (n + 1) mX11_isStart [vO 1, vI x, vI y] M Q := by
  refine eX11_isStart (fun Kx => bX11_isStart_0 (c1_isRoom rfl H K.2.1 (fun a b => ⟨fun z => absurd z (by decide), fun _ => c11_isMinute (fun c d => ⟨fun z => absurd z (by decide), fun _ => ht a b c d⟩) (fun c => ⟨fun _ => hf (by omega), fun z => absurd rfl z⟩)⟩) (fun a => ⟨fun _ => hf (by omega), fun z => absurd rfl z⟩)))
theorem c11_orNotToday {x : Int} (h1 : x ≤ 1439 → Q x M) (h2 : 1439 < x → Q (-2) M) : OkI G n mX11_orNotToday [vI x] M Q :=
  eX11_orNotToday (fun K => bX11_orNotToday_0 ⟨h1, fun a => h2 (by omega)⟩)
theorem c5_la {o : Nat} {r : Int} (ho : oc o = 5) (h1 : 0 ≤ r) (h2 : r < 16) (h : Q (raw (tbC M o) r) M) : OkI G (n + 1) mX5_leastAt [vO o, vI r] M Q := c5_leastAt ho h1 h2 h
theorem c12_so {r : Int} (h1 : 0 ≤ r) (h2 : r < 16) (h : Q (so (tbM M) r) M) : OkI G n mX12_soonestTo [vO 0, vI r] M Q := c12_soonestTo h1 h2 h
/-- soonest -/
theorem both_soonest {x1 x2 x3 x4 : Int} {P : Int → Int → Mem → Prop} (H : HR (M 4) (sd M)) (K : HOK (sd M)) (h : ∀ r M2, EqX [(9, 0), (0, 28), (0, 29)] M M2 → P r r M2) : OkI G (n + 5) mX11_soonest [vO 1, vI x1, vI x2, vI x3, vI x4] M (fun r1 M1 => OkI G (n + 5) mX12_soonest [vO 0, vI x1, vI x2, vI x3, vI x4] M1 (fun r2 M2 => P r1 r2 M2)) := by
  have two : ∀ (M1 : Mem) (P : Int → Mem → Prop), EqX [(9, 0)] M M1 → (¬ (0 ≤ x1 ∧ x1 < sd M 0 ∧ 0 ≤ x2 ∧ x2 ≤ 1439 ∧ 0 ≤ x3 ∧ x3 < sd M 0) → P (-1) M1) → (0 ≤ x1 → x1 < sd M 0 → 0 ≤ x2 → x2 ≤ 1439 → 0 ≤ x3 → x3 < sd M 0 → ∀ M2 : Mem, EqX [(0, 28), (0, 29)] M1 M2 → ∀ D, Tab (sd M) (src1 x1 (if x4 = 0 then 1 else 0) x2) D → P (if so D x3 = 99999 then -2 else so D x3) M2) → OkI G (n + 5) mX12_soonest [vO 0, vI x1, vI x2, vI x3, vI x4] M1 P := by
    intro M1 P e p1 p2
    have es := e.sd (by decide)
    refine eX12_soonest (fun Kx => bX12_soonest_0 (c12_isRoom (fun a b => ⟨fun z => absurd z (by decide), fun _ => c12_isMinute (fun c d => ⟨fun z => absurd z (by decide), fun _ => c12_isRoom (fun g i => ⟨fun _ => ?_, fun z => absurd z (by decide)⟩) (fun g => ⟨fun z => absurd rfl z, fun _ => ?_⟩)⟩) (fun c => ⟨fun _ => ?_, fun z => absurd rfl z⟩)⟩) (fun a => ⟨fun _ => ?_, fun z => absurd rfl z⟩)))
    · refine c12_spreads (by rw [es]; exact K) ⟨a, b⟩ c d (fun M2 i1 i2 i3 => ?_)
      rw [es] at b i i2
      have k1 := K.2.1
      have p3 := p2 a b c d g i M2 i1 _ i2
      refine c12_so g (by omega) ⟨fun z => c12_so g (by omega) ?_, fun z => ?_⟩
      · rw [if_neg z] at p3; exact p3
      · rw [if_pos z] at p3; exact p3
    all_goals (rw [es] at *; exact p1 (by omega))
  refine eX11_soonest (fun Kx => bX11_soonest_0 (c11_isStart H K (fun a b c d => ⟨fun z => absurd z (by decide), fun _ => c1_isRoom rfl H K.2.1 (fun g i => ⟨fun _ => ?_, fun z => absurd z (by decide)⟩) (fun g => ⟨fun z => absurd rfl z, fun _ => ?_⟩)⟩) (fun a => ⟨fun _ => ?_, fun z => absurd rfl z⟩)))
  · have k1 := K.2.1
    refine c5_from rfl rfl H K ⟨a, b⟩ c d (fun M1 i1 i2 i3 => c5_la rfl g (by omega) ?_)
    have fin : ∀ v : Int, v = (if so (tbC M1 9) x3 = 99999 then -2 else so (tbC M1 9) x3) → OkI G (n + 5) mX12_soonest [vO 0, vI x1, vI x2, vI x3, vI x4] M1 (fun r2 M2 => P v r2 M2) := by
      intro v hv
      refine two M1 _ i1 (fun z => absurd ⟨a, b, c, d, g, i⟩ z) (fun _ _ _ _ _ _ M2 j1 D hD => ?_)
      rw [hv, so_one i3 hD g i]
      exact h _ M2 ((i1.sub (by decide)).trans (j1.sub (by decide)))
    rcases so_raw (tbC M1 9) x3 with ⟨q1, q2⟩ | ⟨q1, q2⟩
    · exact c11_orNotToday (fun _ => fin _ (by rw [if_neg (by omega)]; exact q2.symm)) (fun z => absurd z (by omega))
    · exact c11_orNotToday (fun z => absurd z (by omega)) (fun _ => fin _ (by rw [if_pos q2]))
  · exact two M _ EqX.rf (fun _ => h _ M EqX.rf) (fun _ _ _ _ z1 z2 => absurd ⟨z1, z2⟩ g)
  · exact two M _ EqX.rf (fun _ => h _ M EqX.rf) (fun z1 z2 z3 z4 _ _ => absurd ⟨z1, z2, z3, z4⟩ a)
/-- still -/
theorem l11_still {Kx : Kx} {M1 : Mem} (e0 : M1 4 0 0 = s 0) (hs : s 0 ≤ 16) (h : Q (setF (fun r => decide (so (tbC M1 9) r ≤ 1439)) (s 0).toNat) M1) : ∀ (f k : Nat), (k : Int) ≤ s 0 → (s 0).toNat - k ≤ f → CW G Kx mX11_still (n + 2) 34 [some (vO 1), none, none, none, some (vI (setF (fun r => decide (so (tbC M1 9) r ≤ 1439)) k)), some (vI (k : Int))] [] M1 (qI Q) := by
  intro f
  induction f with
  | zero =>
    intro k h1 h2
    have e : k = (s 0).toNat := by omega
    refine bX11_still_34 ?_
    rw [e0]
    exact ⟨fun _ => by rw [e]; exact h, fun a => absurd (by omega) a⟩
  | succ f ih =>
    intro k h1 h2
    refine bX11_still_34 ?_
    rw [e0]
    refine ⟨fun a => ?_, fun a => ?_⟩
    · have e : k = (s 0).toNat := by omega
      rw [e]; exact h
    · have ih' := ih (k + 1) (by omega) (by omega)
      rw [wrs (x := (k : Int) + 1) (by omega) (by omega)]
      unfold setF at ih'
      refine c5_la rfl (by omega) (by omega) ?_
      rcases so_raw (tbC M1 9) (k : Int) with ⟨q1, q2⟩ | ⟨q1, q2⟩
      · rw [if_pos (by simp only [decide_eq_true_eq]; omega)] at ih'
        exact ⟨fun z => absurd z (by omega), fun _ => ih'⟩
      · rw [if_neg (by simp only [decide_eq_true_eq]; omega)] at ih'
        exact ⟨fun _ => ih', fun z => absurd q1 z⟩
theorem l12_still {Kx : Kx} {M1 : Mem} (hs : sd M1 0 ≤ 16) (h : Q (setF (fun r => decide (so (tbM M1) r ≤ 1439)) (sd M1 0).toNat) M1) : ∀ (f k : Nat), (k : Int) ≤ sd M1 0 → (sd M1 0).toNat - k ≤ f → CW G Kx mX12_still (n + 1) 30 [some (vO 0), none, none, none, some (vI (setF (fun r => decide (so (tbM M1) r ≤ 1439)) k)), some (vI (k : Int))] [] M1 (qI Q) := by
  intro f
  induction f with
  | zero =>
    intro k h1 h2
    have e : k = (sd M1 0).toNat := by omega
    exact bX12_still_30 ⟨fun _ => by rw [e]; exact h, fun a => absurd (show sd M1 0 ≤ (k : Int) by omega) a⟩
  | succ f ih =>
    intro k h1 h2
    refine bX12_still_30 ⟨fun a => ?_, fun a => ?_⟩
    · have e : k = (sd M1 0).toNat := by have : sd M1 0 ≤ (k : Int) := a; omega
      rw [e]; exact h
    · have hk : (k : Int) < sd M1 0 := by have : ¬ sd M1 0 ≤ (k : Int) := a; omega
      have ih' := ih (k + 1) (by omega) (by omega)
      rw [wrs (x := (k : Int) + 1) (by omega) (by omega)]
      unfold setF at ih'
      refine c12_so (by omega) (by omega) ?_
      rcases so_rng trivial (tbM M1) (k : Int) with q | q
      · rw [if_pos (by simp only [decide_eq_true_eq]; exact q)] at ih'
        exact ⟨fun z => absurd (Int.le_trans z q) (by decide), fun _ => ih'⟩
      · rw [if_neg (by simp only [decide_eq_true_eq]; omega)] at ih'
        rw [bOr_0 (setF_in _ _)]
        exact ⟨fun _ => ih', fun z => absurd (by rw [q]; exact Int.le_refl _) z⟩
theorem both_still {x1 x2 x3 : Int} {P : Int → Int → Mem → Prop} (H : HR (M 4) (sd M)) (K : HOK (sd M)) (h : ∀ r M2, EqX [(9, 0), (0, 28), (0, 29)] M M2 → P r r M2) : OkI G (n + 5) mX11_still [vO 1, vI x1, vI x2, vI x3] M (fun r1 M1 => OkI G (n + 5) mX12_still [vO 0, vI x1, vI x2, vI x3] M1 (fun r2 M2 => P r1 r2 M2)) := by
  have k1 := K.2.1
  have k0 := K.1
  have two : ∀ (M1 : Mem) (P : Int → Mem → Prop), EqX [(9, 0)] M M1 → (¬ (0 ≤ x1 ∧ x1 < sd M 0 ∧ 0 ≤ x2 ∧ x2 ≤ 1439) → P (-1) M1) → (0 ≤ x1 → x1 < sd M 0 → 0 ≤ x2 → x2 ≤ 1439 → ∀ M2 : Mem, EqX [(0, 28), (0, 29)] M1 M2 → ∀ D, Tab (sd M) (src1 x1 (if x3 = 0 then 1 else 0) x2) D → P (setF (fun r => decide (so D r ≤ 1439)) (sd M 0).toNat) M2) → OkI G (n + 5) mX12_still [vO 0, vI x1, vI x2, vI x3] M1 P := by
    intro M1 P e p1 p2
    have es := e.sd (by decide)
    refine eX12_still (fun Kx => bX12_still_0 (c12_isRoom (fun a b => ⟨fun z => absurd z (by decide), fun _ => c12_isMinute (fun c d => ⟨fun _ => ?_, fun z => absurd z (by decide)⟩) (fun c => ⟨fun z => absurd rfl z, fun _ => ?_⟩)⟩) (fun a => ⟨fun _ => ?_, fun z => absurd rfl z⟩)))
    · refine c12_spreads (by rw [es]; exact K) ⟨a, b⟩ c d (fun M2 i1 i2 i3 => ?_)
      have es2 := i1.sd (by decide)
      rw [es] at b i2
      have p3 := p2 a b c d M2 i1 _ i2
      refine l12_still (by rw [es2, es]; exact k1) ?_ (sd M2 0).toNat 0 (by rw [es2, es]; exact k0) (by omega)
      rw [es2, es]; exact p3
    all_goals (rw [es] at *; exact p1 (by omega))
  refine eX11_still (fun Kx => bX11_still_0 (c11_isStart H K (fun a b c d => ⟨fun _ => ?_, fun z => absurd z (by decide)⟩) (fun a => ⟨fun z => absurd rfl z, fun _ => ?_⟩)))
  · refine c5_from rfl rfl H K ⟨a, b⟩ c d (fun M1 i1 i2 i3 => ?_)
    have e4 : M1 4 = M 4 := i1.obj (by decide)
    refine l11_still (s := sd M) (by rw [e4]; exact H.1) k1 ?_ (sd M 0).toNat 0 k0 (by omega)
    refine two M1 _ i1 (fun z => absurd ⟨a, b, c, d⟩ z) (fun _ _ _ _ M2 j1 D hD => ?_)
    rw [setF_congr (g := fun r => decide (so D r ≤ 1439)) (sd M 0).toNat (fun j hj => by rw [so_one i3 hD (r := (j : Int)) (by omega) (by omega)])]
    exact h _ M2 ((i1.sub (by decide)).trans (j1.sub (by decide)))
  · exact two M _ EqX.rf (fun _ => h _ M EqX.rf) (fun z1 z2 z3 z4 => absurd ⟨z1, z2, z3, z4⟩ a)
end BR
