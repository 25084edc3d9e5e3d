/-! ===== meeting ===== -/
/-- among the first k rooms: how many, the best room (-2: none), its minute -/
def mtS (f : Int → Int) : Nat → Int × Int × Int
  | 0 => (0, -2, 1000000)
  | k + 1 => if 1439 < f (k : Int) then mtS f k else if (mtS f k).2.2 ≤ f (k : Int) then ((mtS f k).1 + 1, (mtS f k).2) else ((mtS f k).1 + 1, (k : Int), f (k : Int))
theorem mtS_rng (f : Int → Int) : ∀ k : Nat, 0 ≤ (mtS f k).1 ∧ (mtS f k).1 ≤ (k : Int) ∧ ((mtS f k).2.1 = -2 ∧ (mtS f k).2.2 = 1000000 ∨ (0 ≤ (mtS f k).2.1 ∧ (mtS f k).2.1 < (k : Int) ∧ (mtS f k).2.2 = f (mtS f k).2.1 ∧ (mtS f k).2.2 ≤ 1439))
  | 0 => ⟨Int.le_refl _, Int.le_refl _, Or.inl ⟨rfl, rfl⟩⟩
  | k + 1 => by
    obtain ⟨a, b, c⟩ := mtS_rng f k
    unfold mtS
    by_cases e : 1439 < f (k : Int)
    · rw [if_pos e]
      refine ⟨a, by omega, ?_⟩
      rcases c with c | c
      · exact Or.inl c
      · exact Or.inr ⟨c.1, by omega, c.2.2.1, c.2.2.2⟩
    · rw [if_neg e]
      by_cases g : (mtS f k).2.2 ≤ f (k : Int)
      · rw [if_pos g]
        refine ⟨by dsimp only; omega, by dsimp only; omega, ?_⟩
        rcases c with c | c
        · omega
        · exact Or.inr ⟨c.1, by dsimp only; omega, c.2.2.1, c.2.2.2⟩
      · rw [if_neg g]
        exact ⟨by dsimp only; omega, by dsimp only; omega, Or.inr ⟨by dsimp only; omega, by dsimp only; omega, rfl, by dsimp only; omega⟩⟩
theorem mtS_congr {f g : Int → Int} : ∀ k : Nat, (∀ j : Nat, j < k → f (j : Int) = g (j : Int) ∨ (1439 < f (j : Int) ∧ 1439 < g (j : Int))) → mtS f k = mtS g k
  | 0, _ => rfl
  | k + 1, h => by
    unfold mtS
    rw [mtS_congr k (fun j hj => h j (by omega))]
    rcases h k (by omega) with e | e
    · rw [e]
    · rw [if_pos e.1, if_pos e.2]
section BM
variable {G : Gx} {n : Nat} {M : Mem} {s : Int → Int}
def mx (a b : Int) : Int := if a < b then b else a
theorem l11_meet {Kx : Kx} {Q : Int → Mem → Prop} {x6 : Int} (e0 : M 4 0 0 = s 0) (hs : s 0 ≤ 16) (hx : 0 ≤ x6 ∧ x6 ≤ 2) (h : Q (if x6 = 0 then (if (mtS (fun r => mx (raw (tbC M 9) r) (raw (tbC M 10) r)) (s 0).toNat).2.2 ≤ 1439 then (mtS (fun r => mx (raw (tbC M 9) r) (raw (tbC M 10) r)) (s 0).toNat).2.2 else -2) else if x6 = 1 then (mtS (fun r => mx (raw (tbC M 9) r) (raw (tbC M 10) r)) (s 0).toNat).2.1 else (mtS (fun r => mx (raw (tbC M 9) r) (raw (tbC M 10) r)) (s 0).toNat).1) M) :
    ∀ (f k : Nat), (k : Int) ≤ s 0 → (s 0).toNat - k ≤ f → CW G Kx mX11_meeting (n + 2) 84 [some (vO 1), none, none, none, none, none, some (vI x6), some (vI (mtS (fun r => mx (raw (tbC M 9) r) (raw (tbC M 10) r)) k).2.2), some (vI (mtS (fun r => mx (raw (tbC M 9) r) (raw (tbC M 10) r)) k).2.1), some (vI (mtS (fun r => mx (raw (tbC M 9) r) (raw (tbC M 10) r)) k).1), some (vI (k : Int)), none] [] M (qI Q) := by
  have done : ∀ k : Nat, k = (s 0).toNat → (¬ x6 = 0 → (¬ x6 = 1 → Q (mtS (fun r => mx (raw (tbC M 9) r) (raw (tbC M 10) r)) k).1 M) ∧ (x6 = 1 → Q (mtS (fun r => mx (raw (tbC M 9) r) (raw (tbC M 10) r)) k).2.1 M)) ∧ (x6 = 0 → OkI G (n + 1) mX11_orNotToday [vI (mtS (fun r => mx (raw (tbC M 9) r) (raw (tbC M 10) r)) k).2.2] M (fun r_1 M1 => Q r_1 M1)) := by
    intro k e
    subst e
    refine ⟨fun a => ⟨fun b => ?_, fun b => ?_⟩, fun a => ?_⟩
    · rw [if_neg a, if_neg b] at h; exact h
    · rw [if_neg a, if_pos b] at h; exact h
    · rw [if_pos a] at h
      refine c11_orNotToday (fun b => ?_) (fun b => ?_)
      · rw [if_pos b] at h; exact h
      · rw [if_neg (by omega)] at h; exact h
  intro f
  induction f with
  | zero =>
    intro k h1 h2
    refine bX11_meeting_84 ?_
    rw [e0]
    exact ⟨fun _ => done k (by omega), fun a => absurd (by omega) a⟩
  | succ f ih =>
    intro k h1 h2
    refine bX11_meeting_84 ?_
    rw [e0]
    refine ⟨fun a => done k (by omega), fun a => ?_⟩
    have ih' := ih (k + 1) (by omega) (by omega)
    obtain ⟨m1, m2, -⟩ := mtS_rng (fun r => mx (raw (tbC M 9) r) (raw (tbC M 10) r)) k
    unfold mtS at ih'
    refine c5_la rfl (by omega) (by omega) (c5_la rfl (by omega) (by omega) ?_)
    have e1 : wr ((k : Int) + 1) = ((k + 1 : Nat) : Int) := by rw [wrs (by omega) (by omega)]; rfl
    refine ⟨fun b => bX11_meeting_133 ⟨fun _ => ?_, fun c => absurd b c⟩, fun b => bX11_meeting_133 ⟨fun c => absurd c b, fun _ => ⟨fun d => ?_, fun d => ?_⟩⟩⟩
    · have b' : 1439 < mx (raw (tbC M 9) (k : Int)) (raw (tbC M 10) (k : Int)) := b
      rw [e1]
      rw [if_pos b'] at ih'; exact ih'
    · have b' : ¬ 1439 < mx (raw (tbC M 9) (k : Int)) (raw (tbC M 10) (k : Int)) := b
      have d' : (mtS (fun r => mx (raw (tbC M 9) r) (raw (tbC M 10) r)) k).2.2 ≤ mx (raw (tbC M 9) (k : Int)) (raw (tbC M 10) (k : Int)) := d
      rw [e1, wrs (x := (mtS (fun r => mx (raw (tbC M 9) r) (raw (tbC M 10) r)) k).1 + 1) (by omega) (by omega)]
      rw [if_neg b', if_pos d'] at ih'; exact ih'
    · have b' : ¬ 1439 < mx (raw (tbC M 9) (k : Int)) (raw (tbC M 10) (k : Int)) := b
      have d' : ¬ (mtS (fun r => mx (raw (tbC M 9) r) (raw (tbC M 10) r)) k).2.2 ≤ mx (raw (tbC M 9) (k : Int)) (raw (tbC M 10) (k : Int)) := d
      rw [e1, wrs (x := (mtS (fun r => mx (raw (tbC M 9) r) (raw (tbC M 10) r)) k).1 + 1) (by omega) (by omega)]
      rw [if_neg b', if_neg d'] at ih'; exact ih'
/-- the reference's first row, and then its meeting row -/
theorem l12_meet1 {Kx : Kx} {Q : Int → Mem → Prop} {x3 x4 x5 x6 : Int} (hs : sd M 0 ≤ 16)
    (h : ∀ M' : Mem, EqX [(0, 33)] M M' → (∀ j : Nat, (j : Int) < sd M 0 → M' 0 33 j = so (tbM M) (j : Int)) → OkV G (n + 3) mX12_spreads [vO 0, vI x3, vI x4, vI x5] M' (fun M1 => CW G Kx mX12_meeting (n + 4) 105 [some (vO 0), none, none, none, none, none, some (vI x6), some (vI 0), some (vI (-1)), some (vI 0)] [] M1 (qI Q))) :
    ∀ (f k : Nat) (Mc : Mem), (k : Int) ≤ sd M 0 → (sd M 0).toNat - k ≤ f → EqX [(0, 33)] M Mc → (∀ j : Nat, j < k → Mc 0 33 j = so (tbM M) (j : Int)) → CW G Kx mX12_meeting (n + 4) 57 [some (vO 0), none, none, some (vI x3), some (vI x4), some (vI x5), some (vI x6), some (vI (k : Int)), none, none] [] Mc (qI Q) := by
  intro f
  induction f with
  | zero =>
    intro k Mc h1 h2 h3 h4
    have es : Mc 0 26 0 = sd M 0 := congrFun (h3.sd (by decide)) 0
    refine bX12_meeting_57 ?_
    rw [es]
    exact ⟨fun _ => h Mc h3 (fun j hj => h4 j (by omega)), fun a => absurd (by omega) a⟩
  | succ f ih =>
    intro k Mc h1 h2 h3 h4
    have es : Mc 0 26 0 = sd M 0 := congrFun (h3.sd (by decide)) 0
    refine bX12_meeting_57 ?_
    rw [es]
    refine ⟨fun a => h Mc h3 (fun j hj => h4 j (by omega)), fun a => ?_⟩
    have et : tbM Mc = tbM M := by funext r u; exact h3 0 28 _ (by decide)
    refine c12_so (by omega) (by omega) ⟨⟨by omega, by omega⟩, fun M3 e3 => ?_⟩
    rw [et, Int.toNat_natCast] at e3
    rw [wrs (by omega) (by omega)]
    refine ih (k + 1) M3 (by omega) (by omega) (by rw [e3]; exact h3.trans (EqX.mset (by decide))) (fun j hj => ?_)
    rw [e3]
    by_cases e : j = k
    · subst e; rw [mset_self]
    · rw [mset_ne (fun z => e z.2.2)]; exact h4 j (by omega)
theorem l12_meet2 {Kx : Kx} {Q : Int → Mem → Prop} {x6 : Int} {D1 : Tb} (hs : sd M 0 ≤ 16) (hx : 0 ≤ x6 ∧ x6 ≤ 2) (hf : ∀ j : Nat, (j : Int) < sd M 0 → M 0 33 j = so D1 (j : Int))
    (h : ∀ M' : Mem, EqX [(0, 33)] M M' → Q (if x6 = 0 then (if (mtS (fun r => mx (so D1 r) (so (tbM M) r)) (sd M 0).toNat).2.2 ≤ 1439 then (mtS (fun r => mx (so D1 r) (so (tbM M) r)) (sd M 0).toNat).2.2 else -2) else if x6 = 1 then (mtS (fun r => mx (so D1 r) (so (tbM M) r)) (sd M 0).toNat).2.1 else (mtS (fun r => mx (so D1 r) (so (tbM M) r)) (sd M 0).toNat).1) M') :
    ∀ (f k : Nat) (Mc : Mem), (k : Int) ≤ sd M 0 → (sd M 0).toNat - k ≤ f → EqX [(0, 33)] M Mc → (∀ j : Nat, j < k → Mc 0 33 j = mx (so D1 (j : Int)) (so (tbM M) (j : Int))) → (∀ j : Nat, k ≤ j → (j : Int) < sd M 0 → Mc 0 33 j = so D1 (j : Int)) → CW G Kx mX12_meeting (n + 1) 105 [some (vO 0), none, none, none, none, none, some (vI x6), some (vI (mtS (fun r => mx (so D1 r) (so (tbM M) r)) k).1), some (vI (if (mtS (fun r => mx (so D1 r) (so (tbM M) r)) k).2.1 = -2 then -1 else (mtS (fun r => mx (so D1 r) (so (tbM M) r)) k).2.1)), some (vI (k : Int))] [] Mc (qI Q) := by
  have done : ∀ (k : Nat) (Mc : Mem), k = (sd M 0).toNat → EqX [(0, 33)] M Mc → (∀ j : Nat, j < k → Mc 0 33 j = mx (so D1 (j : Int)) (so (tbM M) (j : Int))) → (¬ x6 = 2 → (0 ≤ (if (mtS (fun r => mx (so D1 r) (so (tbM M) r)) k).2.1 = -2 then -1 else (mtS (fun r => mx (so D1 r) (so (tbM M) r)) k).2.1) → (¬ x6 = 0 → Q (if (mtS (fun r => mx (so D1 r) (so (tbM M) r)) k).2.1 = -2 then -1 else (mtS (fun r => mx (so D1 r) (so (tbM M) r)) k).2.1) Mc) ∧ (x6 = 0 → (0 ≤ (if (mtS (fun r => mx (so D1 r) (so (tbM M) r)) k).2.1 = -2 then -1 else (mtS (fun r => mx (so D1 r) (so (tbM M) r)) k).2.1) ∧ (if (mtS (fun r => mx (so D1 r) (so (tbM M) r)) k).2.1 = -2 then -1 else (mtS (fun r => mx (so D1 r) (so (tbM M) r)) k).2.1) < 16) ∧ (Q (Mc 0 33 (if (mtS (fun r => mx (so D1 r) (so (tbM M) r)) k).2.1 = -2 then -1 else (mtS (fun r => mx (so D1 r) (so (tbM M) r)) k).2.1).toNat) Mc))) ∧ (¬ (0 ≤ (if (mtS (fun r => mx (so D1 r) (so (tbM M) r)) k).2.1 = -2 then -1 else (mtS (fun r => mx (so D1 r) (so (tbM M) r)) k).2.1)) → Q (-2) Mc)) ∧ (x6 = 2 → Q (mtS (fun r => mx (so D1 r) (so (tbM M) r)) k).1 Mc) := by
    intro k Mc e h3 h4
    have h' := h Mc h3
    rw [← e] at h'
    obtain ⟨-, -, c⟩ := mtS_rng (fun r => mx (so D1 r) (so (tbM M) r)) k
    generalize hm : mtS (fun r => mx (so D1 r) (so (tbM M) r)) k = m at *
    obtain ⟨m1, m2, m3⟩ := m
    dsimp only at *
    rcases c with ⟨c1, c2⟩ | ⟨c1, c2, c3, c4⟩
    · rw [if_pos c1]
      refine ⟨fun a => ⟨fun b => absurd b (by decide), fun _ => ?_⟩, fun a => ?_⟩
      · by_cases z : x6 = 0
        · rw [if_pos z, if_neg (by omega)] at h'; exact h'
        · rw [if_neg z, if_pos (by omega), c1] at h'; exact h'
      · rw [if_neg (by omega), if_neg (by omega)] at h'; exact h'
    · rw [if_neg (show ¬ m2 = -2 by omega)]
      refine ⟨fun a => ⟨fun b => ⟨fun z => ?_, fun z => ⟨⟨c1, by omega⟩, ?_⟩⟩, fun b => absurd c1 b⟩, fun a => ?_⟩
      · rw [if_neg z, if_pos (by omega)] at h'; exact h'
      · rw [if_pos z, if_pos c4] at h'
        rw [h4 m2.toNat (by omega), Int.toNat_of_nonneg c1, ← c3]; exact h'
      · rw [if_neg (by omega), if_neg (by omega)] at h'; exact h'
  intro f
  induction f with
  | zero =>
    intro k Mc h1 h2 h3 h4 h5
    have es : Mc 0 26 0 = sd M 0 := congrFun (h3.sd (by decide)) 0
    refine bX12_meeting_105 ?_
    rw [es]
    exact ⟨fun _ => done k Mc (by omega) h3 h4, fun a => absurd (by omega) a⟩
  | succ f ih =>
    intro k Mc h1 h2 h3 h4 h5
    have es : Mc 0 26 0 = sd M 0 := congrFun (h3.sd (by decide)) 0
    refine bX12_meeting_105 ?_
    rw [es]
    refine ⟨fun a => done k Mc (by omega) h3 h4, fun a => ⟨⟨by omega, by omega⟩, ?_⟩⟩
    have et : tbM Mc = tbM M := by funext r u; exact h3 0 28 _ (by decide)
    have e1 : wr ((k : Int) + 1) = ((k + 1 : Nat) : Int) := by rw [wrs (by omega) (by omega)]; rfl
    rw [e1]
    refine c12_so (by omega) (by omega) (c12_later ⟨⟨by omega, by omega⟩, fun M3 e3 => ⟨⟨by omega, by omega⟩, ?_⟩⟩)
    rw [et, Int.toNat_natCast, h5 k (Nat.le_refl _) (by omega)] at e3
    have hmx : (if so D1 (k : Int) ≤ so (tbM M) (k : Int) then so (tbM M) (k : Int) else so D1 (k : Int)) = mx (so D1 (k : Int)) (so (tbM M) (k : Int)) := by
      unfold mx
      by_cases z : so D1 (k : Int) < so (tbM M) (k : Int)
      · rw [if_pos z, if_pos (by omega)]
      · rw [if_neg z]
        by_cases z2 : so D1 (k : Int) ≤ so (tbM M) (k : Int)
        · rw [if_pos z2]; omega
        · rw [if_neg z2]
    rw [hmx] at e3
    have eself : M3 0 33 k = mx (so D1 (k : Int)) (so (tbM M) (k : Int)) := by rw [e3, mset_self]
    have eold : ∀ j : Nat, j ≠ k → M3 0 33 j = Mc 0 33 j := fun j hj => by rw [e3]; exact mset_ne (fun z => hj z.2.2)
    have h3' : EqX [(0, 33)] M M3 := by rw [e3]; exact h3.trans (EqX.mset (by decide))
    have q4 : ∀ j : Nat, j < k + 1 → M3 0 33 j = mx (so D1 (j : Int)) (so (tbM M) (j : Int)) := by
      intro j hj
      by_cases e : j = k
      · subst e; exact eself
      · rw [eold j e]; exact h4 j (by omega)
    have q5 : ∀ j : Nat, k + 1 ≤ j → (j : Int) < sd M 0 → M3 0 33 j = so D1 (j : Int) := fun j hj hj2 => by rw [eold j (by omega)]; exact h5 j (by omega) hj2
    have ih' := ih (k + 1) M3 (by omega) (by omega) h3' q4 q5
    obtain ⟨r1, r2, c⟩ := mtS_rng (fun r => mx (so D1 r) (so (tbM M) r)) k
    unfold mtS at ih'
    rw [Int.toNat_natCast, eself]
    have hv : mx (so D1 (k : Int)) (so (tbM M) (k : Int)) ≤ 1439 ∨ mx (so D1 (k : Int)) (so (tbM M) (k : Int)) = 99999 := by
      unfold mx
      have p1 := so_rng trivial D1 (k : Int)
      have p2 := so_rng trivial (tbM M) (k : Int)
      split <;> assumption
    generalize hmv : mx (so D1 (k : Int)) (so (tbM M) (k : Int)) = v at *
    generalize hm : mtS (fun r => mx (so D1 r) (so (tbM M) r)) k = m at *
    obtain ⟨m1, m2, m3⟩ := m
    dsimp only at *
    refine ⟨fun b => ?_, fun b => ?_⟩
    · have b' : ¬ 1439 < v := by omega
      rw [if_neg b'] at ih'
      rw [wrs (x := m1 + 1) (by omega) (by omega)]
      rcases c with ⟨c1, c2⟩ | ⟨c1, c2, c3, c4⟩
      · rw [if_pos c1]
        rw [if_neg (show ¬ m3 ≤ v by omega)] at ih'
        dsimp only at ih'
        rw [if_neg (show ¬ (k : Int) = -2 by omega)] at ih'
        exact ⟨fun _ => ih', fun z => absurd (by decide) z⟩
      · rw [if_neg (show ¬ m2 = -2 by omega)]
        refine ⟨fun z => absurd z (by omega), fun _ => ⟨⟨by omega, by omega⟩, ⟨c1, by omega⟩, ?_⟩⟩
        rw [q4 m2.toNat (by omega), Int.toNat_of_nonneg c1, ← c3]
        refine ⟨fun d => ?_, fun d => ?_⟩
        · rw [if_pos d] at ih'
          dsimp only at ih'
          rw [if_neg (show ¬ m2 = -2 by omega)] at ih'
          exact ih'
        · rw [if_neg d] at ih'
          dsimp only at ih'
          rw [if_neg (show ¬ (k : Int) = -2 by omega)] at ih'
          exact ih'
    · rw [if_pos (show 1439 < v by omega)] at ih'
      exact ih'
theorem both_meeting {x1 x2 x3 x4 x5 x6 : Int} {P : Int → Int → Mem → Prop} (H : HR (M 4) (sd M)) (K : HOK (sd M)) (h : ∀ r M2, EqX [(9, 0), (10, 0), (0, 28), (0, 29), (0, 33)] M M2 → P r r M2) : OkI G (n + 5) mX11_meeting [vO 1, vI x1, vI x2, vI x3, vI x4, vI x5, vI x6] M (fun r1 M1 => OkI G (n + 5) mX12_meeting [vO 0, vI x1, vI x2, vI x3, vI x4, vI x5, vI x6] M1 (fun r2 M2 => P r1 r2 M2)) := by
  have k0 := K.1
  have k1 := K.2.1
  have two : ∀ (M1 : Mem) (P : Int → Mem → Prop), EqX [(9, 0), (10, 0)] M M1 → (¬ (0 ≤ x1 ∧ x1 < sd M 0 ∧ 0 ≤ x2 ∧ x2 ≤ 1439 ∧ 0 ≤ x3 ∧ x3 < sd M 0 ∧ 0 ≤ x4 ∧ x4 ≤ 1439 ∧ 0 ≤ x6 ∧ x6 ≤ 2) → P (-1) M1) → (0 ≤ x1 → x1 < sd M 0 → 0 ≤ x2 → x2 ≤ 1439 → 0 ≤ x3 → x3 < sd M 0 → 0 ≤ x4 → x4 ≤ 1439 → 0 ≤ x6 → x6 ≤ 2 → ∀ M2 : Mem, EqX [(0, 28), (0, 29), (0, 33)] M1 M2 → ∀ D D', Tab (sd M) (src1 x1 (if x5 = 0 then 1 else 0) x2) D → Tab (sd M) (src1 x3 (if x5 = 0 then 1 else 0) x4) D' → P (if x6 = 0 then (if (mtS (fun r => mx (so D r) (so D' r)) (sd M 0).toNat).2.2 ≤ 1439 then (mtS (fun r => mx (so D r) (so D' r)) (sd M 0).toNat).2.2 else -2) else if x6 = 1 then (mtS (fun r => mx (so D r) (so D' r)) (sd M 0).toNat).2.1 else (mtS (fun r => mx (so D r) (so D' r)) (sd M 0).toNat).1) M2) → OkI G (n + 5) mX12_meeting [vO 0, vI x1, vI x2, vI x3, vI x4, vI x5, vI x6] M1 P := by
    intro M1 P e p1 p2
    have es := e.sd (by decide)
    refine eX12_meeting (fun Kx => bX12_meeting_0 (c12_isRoom (fun a b => ⟨fun z => absurd z (by decide), fun _ => c12_isMinute (fun c d => ⟨fun z => absurd z (by decide), fun _ => c12_isRoom (fun a2 b2 => ⟨fun z => absurd z (by decide), fun _ => c12_isMinute (fun c2 d2 => ⟨fun z => absurd z (by decide), fun _ => c12_in (fun g i => ⟨fun _ => ?_, fun z => absurd z (by decide)⟩) (fun g => ⟨fun z => absurd rfl z, fun _ => ?_⟩)⟩) (fun c2 => ⟨fun _ => ?_, fun z => absurd rfl z⟩)⟩) (fun a2 => ⟨fun _ => ?_, fun z => absurd rfl z⟩)⟩) (fun c => ⟨fun _ => ?_, fun z => absurd rfl z⟩)⟩) (fun a => ⟨fun _ => ?_, fun z => absurd rfl z⟩)))
    · refine c12_spreads (by rw [es]; exact K) ⟨a, b⟩ c d (fun M2 i1 i2 i3 => ?_)
      have es2 := i1.sd (by decide)
      refine l12_meet1 (by rw [es2, es]; exact k1) (fun M3 j1 j2 => ?_) (sd M2 0).toNat 0 M2 (by rw [es2, es]; exact k0) (by omega) EqX.rf (fun j hj => absurd hj (Nat.not_lt_zero _))
      have es3 := j1.sd (by decide)
      refine c12_spreads (by rw [es3, es2, es]; exact K) ⟨a2, by rw [es3, es2]; exact b2⟩ c2 d2 (fun M4 l1 l2 l3 => ?_)
      have es4 := l1.sd (by decide)
      rw [es] at b b2 i2
      rw [es3, es2, es] at l2
      refine l12_meet2 (D1 := tbM M2) (by rw [es4, es3, es2, es]; exact k1) ⟨g, i⟩ (fun j hj => ?_) (fun M5 q1 => ?_) (sd M4 0).toNat 0 M4 (by rw [es4, es3, es2, es]; exact k0) (by omega) EqX.rf (fun j hj => absurd hj (Nat.not_lt_zero _)) (fun j _ hj => ?_)
      · rw [l1 0 33 j (by decide)]
        exact j2 j (by rw [es4, es3] at hj; exact hj)
      · rw [es4, es3, es2, es]
        exact p2 a b c d a2 b2 c2 d2 g i M5 ((((i1.sub (by decide)).trans (j1.sub (by decide))).trans (l1.sub (by decide))).trans (q1.sub (by decide))) _ _ i2 l2
      · rw [l1 0 33 j (by decide)]
        exact j2 j (by rw [es4, es3] at hj; exact hj)
    all_goals (rw [es] at *; exact p1 (by omega))
  refine eX11_meeting (fun Kx => bX11_meeting_0 (c11_isStart H K (fun a b c d => ⟨fun z => absurd z (by decide), fun _ => c11_isStart H K (fun a2 b2 c2 d2 => ⟨fun z => absurd z (by decide), fun _ => ⟨fun g => ?_, fun g => ⟨fun i => ?_, fun i => ?_⟩⟩⟩) (fun a2 => ⟨fun _ => ?_, fun z => absurd rfl z⟩)⟩) (fun a => ⟨fun _ => ?_, fun z => absurd rfl z⟩)))
  · exact two M _ EqX.rf (fun _ => h _ M EqX.rf) (fun _ _ _ _ _ _ _ _ z1 _ => absurd z1 (by omega))
  · refine c5_from rfl rfl H K ⟨a, b⟩ c d (fun M1 i1 i2 i3 => ?_)
    have e4 : M1 4 = M 4 := i1.obj (by decide)
    refine c5_from rfl rfl (by rw [e4]; exact H) K ⟨a2, b2⟩ c2 d2 (fun M2 j1 j2 j3 => ?_)
    have e42 : M2 4 = M1 4 := j1.obj (by decide)
    have e9 : tbC M2 9 = tbC M1 9 := by unfold tbC; rw [j1.obj (o := 9) (by decide)]
    refine l11_meet (s := sd M) (by rw [e42, e4]; exact H.1) k1 ⟨by omega, i⟩ ?_ (sd M 0).toNat 0 k0 (by omega)
    refine two M2 _ ((i1.sub (by decide)).trans (j1.sub (by decide))) (fun z => absurd ⟨a, b, c, d, a2, b2, c2, d2, by omega, i⟩ z) (fun _ _ _ _ _ _ _ _ _ _ M3 l1 D D' hD hD' => ?_)
    have em : mtS (fun r => mx (raw (tbC M2 9) r) (raw (tbC M2 10) r)) (sd M 0).toNat = mtS (fun r => mx (so D r) (so D' r)) (sd M 0).toNat := by
      refine mtS_congr _ (fun j hj => ?_)
      have q1 := so_one i3 hD (r := (j : Int)) (by omega) (by omega)
      have q2 := so_one j3 hD' (r := (j : Int)) (by omega) (by omega)
      have w1 := so_raw (tbC M1 9) (j : Int)
      have w2 := so_raw (tbC M2 10) (j : Int)
      rw [e9]
      rw [← q1, ← q2]
      unfold mx
      split <;> split <;> omega
    rw [em]
    exact h _ M3 (((i1.sub (by decide)).trans (j1.sub (by decide))).trans (l1.sub (by decide)))
  · exact two M _ EqX.rf (fun _ => h _ M EqX.rf) (fun _ _ _ _ _ _ _ _ _ z1 => absurd z1 (by omega))
  · exact two M _ EqX.rf (fun _ => h _ M EqX.rf) (fun _ _ _ _ z1 z2 z3 z4 _ _ => absurd ⟨z1, z2, z3, z4⟩ a2)
  · exact two M _ EqX.rf (fun _ => h _ M EqX.rf) (fun z1 z2 z3 z4 _ _ _ _ _ _ => absurd ⟨z1, z2, z3, z4⟩ a)
end BM
