/-! ===== beds ===== -/
def srcN : Src := fun _ _ _ => False
theorem Rch_none {s : Int → Int} {r u m : Int} : ¬ Rch s srcN r u m := by
  rintro ⟨k, h⟩
  induction k generalizing r u m with
  | zero => exact h
  | succ k ih =>
    rcases h with h | ⟨r0, u0, m0, h1, -⟩
    · exact ih h
    · exact ih h1
section BB
variable {G : Gx} {n : Nat} {M : Mem} {s : Int → Int}
theorem c5_fromX {Q : Mem → Prop} {o o1 : Nat} {r0 m0 hz : Int} (ho : oc o = 5) (h1 : oc o1 = 1) (H : HR (M o1) s) (K : HOK s) (hv : 0 ≤ r0 ∧ r0 < s 0) (hm1 : 1439 < m0)
    (h : ∀ M' : Mem, EqX [(o, 0)] M M' → (∀ r, 0 ≤ r → r < s 0 → 1439 < raw (tbC M' o) r) → Q M') : OkV G (n + 4) mX5_from [vO o, vO o1, vI r0, vI m0, vI hz] M Q := by
  have k1 := K.2.1
  have key : ∀ u : Int, (u = 0 ∨ u = 1) → OkI G (n + 3) mX5_put [vO o, vI r0, vI u, vI m0] (mfill M o 0 32 1000000) (fun _ M2 => OkV G (n + 3) mX5_spread [vO o, vO o1] M2 (fun M3 => Q M3)) := by
    intro u hu
    refine c5_put ho hv.1 (by omega) hu (fun _ => ?_) (fun z => absurd z (by omega))
    refine c5_spread (S := srcN) ho h1 (by rw [HR_far h1 ho (mfill_eqX (M := M) (o := o) (k := 0) (N := 32) (v := 1000000))]; exact H) K (fun r u m z => z.elim) (fun a b a1 a2 a3 => ?_) (fun a b hab hle => ?_) (fun r u m z => z.elim) (fun M' i1 i2 i3 => ?_)
    · rw [tbC_fill a1 a2 a3]; omega
    · rw [tbC_fill hab.1 (by have := hab.2.1; omega) hab.2.2] at hle; omega
    · refine h M' (mfill_eqX.trans i1) (fun r r1 r2 => ?_)
      have d0 : 1439 < tbC M' o r 0 := Int.not_le.mp (fun z => Rch_none (i3.1 r 0 ⟨r1, r2, Or.inl rfl⟩ z))
      have d1 : 1439 < tbC M' o r 1 := Int.not_le.mp (fun z => Rch_none (i3.1 r 1 ⟨r1, r2, Or.inr rfl⟩ z))
      unfold raw
      split <;> assumption
  refine eX5_from (fun Kx => bX5_from_0 ho (c5_clear ho ⟨fun _ => key 1 (Or.inr rfl), fun _ => key 0 (Or.inl rfl)⟩))
/-- does a person still come home -/
def CH (s : Int → Int) (p b : Int) : Prop :=
  (s 3 = 1440 ∧ ((s (172 + 5 * p + 0) = s (172 + 5 * p + 1) ∧ b = 1) ∨ (s (172 + 5 * p + 0) ≠ s (172 + 5 * p + 1) ∧ b = 0))) ∨
  (s 3 ≠ 1440 ∧ 1439 < (if s (172 + 5 * p + 0) < 0 then s (172 + 5 * p + 4) else s 3) ∧ b = 0) ∨
  (s 3 ≠ 1440 ∧ (if s (172 + 5 * p + 0) < 0 then s (172 + 5 * p + 4) else s 3) ≤ 1439 ∧ ∃ D, Tab s (src1 (if s (172 + 5 * p + 0) < 0 then s (172 + 5 * p + 3) else s (172 + 5 * p + 0)) (if 0 < s (172 + 5 * p + 2) then 1 else 0) (if s (172 + 5 * p + 0) < 0 then s (172 + 5 * p + 4) else s 3)) D ∧ ((so D (s (172 + 5 * p + 1)) ≤ 1439 ∧ b = 1) ∨ (¬ so D (s (172 + 5 * p + 1)) ≤ 1439 ∧ b = 0)))
theorem CH_one {p b b' : Int} (hh : 0 ≤ s (172 + 5 * p + 1) ∧ s (172 + 5 * p + 1) < s 0) (h : CH s p b) (h' : CH s p b') : b = b' := by
  rcases h with ⟨a, h⟩ | ⟨a, c, h⟩ | ⟨a, c, D, hD, h⟩ <;> rcases h' with ⟨a', h'⟩ | ⟨a', c', h'⟩ | ⟨a', c', D', hD', h'⟩
  · omega
  · exact absurd a a'
  · exact absurd a a'
  · exact absurd a' a
  · omega
  · omega
  · exact absurd a' a
  · omega
  · have := so_one hD hD' hh.1 hh.2
    rw [this] at h
    omega
theorem CH_01 {p b : Int} (h : CH s p b) : b = 0 ∨ b = 1 := by
  rcases h with ⟨a, h⟩ | ⟨a, c, h⟩ | ⟨a, c, D, hD, h⟩
  · omega
  · exact Or.inl h
  · omega
theorem c12_comesHome {Q : Int → Mem → Prop} {p : Int} (K : HOK (sd M)) (D0 : DOK (sd M)) (h1 : 0 ≤ p) (h2 : p < sd M 2) (h : ∀ b M', EqX [(0, 28), (0, 29)] M M' → CH (sd M) p b → Q b M') : OkI G (n + 4) mX12_comesHome [vO 0, vI p] M Q := by
  have k1 := K.2.1
  have k5 := K.2.2.2.2.2.1
  have hp8 : p < 8 := by omega
  have hho := K.2.2.2.2.2.2.2.2.2.2 p h1 h2
  obtain ⟨d1, d2, d3⟩ := D0
  obtain ⟨g1, g2, g3, g4, g5⟩ := d3 p h1 h2
  refine eX12_comesHome (fun Kx => bX12_comesHome_0 ⟨fun a => ?_, fun a => ?_⟩)
  · have a' : sd M 3 ≠ 1440 := a
    have last : ∀ (rm mi : Int), 0 ≤ rm → rm < sd M 0 → 0 ≤ mi → rm = (if sd M (172 + 5 * p + 0) < 0 then sd M (172 + 5 * p + 3) else sd M (172 + 5 * p + 0)) → mi = (if sd M (172 + 5 * p + 0) < 0 then sd M (172 + 5 * p + 4) else sd M 3) → CW G Kx mX12_comesHome (n + 4) 82 [some (vO 0), some (vI p), some (vI rm), none] [vI mi] M (qI Q) := by
      intro rm mi r1 r2 r3 e1 e2
      refine bX12_comesHome_82 ⟨fun b => ?_, fun b => h 0 M EqX.rf (Or.inr (Or.inl ⟨a', by omega, rfl⟩))⟩
      have fin : ∀ (M' : Mem) (D : Tb), EqX [(0, 28), (0, 29)] M M' → tbM M' = D → Tab (sd M) (src1 rm (if 0 < sd M (172 + 5 * p + 2) then 1 else 0) mi) D → OkI G (n + 3) mX12_personOf [vO 0, vI p, vI 1] M' (fun r_2 M3 => OkI G (n + 3) mX12_soonestTo [vO 0, vI r_2] M3 (fun r_3 M4 => (99999 ≤ r_3 → Q 0 M4) ∧ (¬ (99999 ≤ r_3) → Q 1 M4))) := by
        intro M' D i1 e i2
        have es := i1.sd (by decide)
        refine c12_personOf h1 hp8 (by decide) (by decide) ?_
        rw [es]
        subst e
        rw [e1, e2] at i2
        rw [e2] at b
        refine c12_so hho.1 (by omega) ⟨fun z => h 0 M' i1 (Or.inr (Or.inr ⟨a', b, _, i2, Or.inr ⟨by omega, rfl⟩⟩)), fun z => h 1 M' i1 (Or.inr (Or.inr ⟨a', b, _, i2, Or.inl ⟨?_, rfl⟩⟩))⟩
        rcases so_rng trivial (tbM M') (sd M (172 + 5 * p + 1)) with q | q
        · exact q
        · omega
      refine c12_ridden h1 hp8 (fun c => ⟨fun _ => ?_, fun z => absurd z (by decide)⟩) (fun c => ⟨fun z => absurd rfl z, fun _ => ?_⟩)
      · refine c12_spreads K ⟨r1, r2⟩ r3 b (fun M' i1 i2 _ => fin M' _ i1 rfl ?_)
        rw [if_pos c]; exact i2
      · refine c12_spreads K ⟨r1, r2⟩ r3 b (fun M' i1 i2 _ => fin M' _ i1 rfl ?_)
        rw [if_neg c]; exact i2
    have mid : ∀ rm : Int, 0 ≤ rm → rm < sd M 0 → rm = (if sd M (172 + 5 * p + 0) < 0 then sd M (172 + 5 * p + 3) else sd M (172 + 5 * p + 0)) → CW G Kx mX12_comesHome (n + 4) 57 [some (vO 0), some (vI p), none, none] [vI rm] M (qI Q) := by
      intro rm r1 r2 e1
      refine bX12_comesHome_57 (c12_personOf h1 hp8 (by decide) (by decide) ⟨fun b => ?_, fun b => ?_⟩)
      · have g6 := g5 (by omega)
        exact c12_personOf h1 hp8 (by decide) (by decide) (last rm _ r1 r2 (by omega) e1 (by rw [if_pos b]))
      · exact last rm _ r1 r2 d1 e1 (by rw [if_neg b]; rfl)
    refine c12_personOf h1 hp8 (by decide) (by decide) ⟨fun b => ?_, fun b => ?_⟩
    · have g6 := g5 (by omega)
      exact c12_personOf h1 hp8 (by decide) (by decide) (mid _ g6.1.1 g6.1.2 (by rw [if_pos b]))
    · exact c12_personOf h1 hp8 (by decide) (by decide) (mid _ (by omega) g2 (by rw [if_neg b]))
  · have a' : sd M 3 = 1440 := a
    refine c12_personOf h1 hp8 (by decide) (by decide) (c12_personOf h1 hp8 (by decide) (by decide) ⟨fun b => ?_, fun b => ?_⟩)
    · exact h 0 M EqX.rf (Or.inl ⟨a', Or.inr ⟨b, rfl⟩⟩)
    · exact h 1 M EqX.rf (Or.inl ⟨a', Or.inl ⟨b, rfl⟩⟩)
theorem c11_comesHome {Q : Int → Mem → Prop} {p : Int} (H : HR (M 4) s) (K : HOK s) (D : DR (M 5) s) (D0 : DOK s) (h1 : 0 ≤ p) (h2 : p < s 2) (h : ∀ b M', EqX [(9, 0)] M M' → CH s p b → Q b M') : OkI G (n + 5) mX11_comesHome [vO 1, vI p] M Q := by
  have k1 := K.2.1
  have k5 := K.2.2.2.2.2.1
  have hp8 : p < 8 := by omega
  have hho := K.2.2.2.2.2.2.2.2.2.2 p h1 h2
  obtain ⟨d1, d2, d3⟩ := D0
  obtain ⟨g1, g2, g3, g4, g5⟩ := d3 p h1 h2
  obtain ⟨f0, f1, f2, f3⟩ := D.2.2 p h1 h2
  have fh := H.2.2.2.2.2.2.2.2.1 p h1 h2
  have fn := D.1
  have last : ∀ (Kx : Kx) (rm mi : Int), s 3 ≠ 1440 → 0 ≤ rm → rm < s 0 → 0 ≤ mi → rm = (if s (172 + 5 * p + 0) < 0 then s (172 + 5 * p + 3) else s (172 + 5 * p + 0)) → mi = (if s (172 + 5 * p + 0) < 0 then s (172 + 5 * p + 4) else s 3) → CW G Kx mX11_comesHome (n + 5) 120 [some (vO 1), some (vI p), some (vO 5), some (vI (s (172 + 5 * p + 1))), none, some (vI rm), none] [vI mi] M (qI Q) := by
    intro Kx rm mi a' r1 r2 r3 e1 e2
    have go : ∀ hz : Int, (if hz = 0 then (1 : Int) else 0) = (if 0 < s (172 + 5 * p + 2) then 1 else 0) → OkV G (n + 4) mX5_from [vO 9, vO 4, vI rm, vI mi, vI hz] M (fun M1 => OkI G (n + 4) mX5_leastAt [vO 9, vI (s (172 + 5 * p + 1))] M1 (fun r_1 M2 => (1439 < r_1 → Q 0 M2) ∧ (¬ (1439 < r_1) → Q 1 M2))) := by
      intro hz ez
      by_cases b : mi ≤ 1439
      · refine c5_from rfl rfl H K ⟨r1, r2⟩ r3 b (fun M1 i1 i2 i3 => c5_la rfl hho.1 (by omega) ?_)
        rw [ez, e1, e2] at i3
        rw [e2] at b
        rcases so_raw (tbC M1 9) (s (172 + 5 * p + 1)) with ⟨q1, q2⟩ | ⟨q1, q2⟩
        · exact ⟨fun z => absurd z (by omega), fun _ => h 1 M1 i1 (Or.inr (Or.inr ⟨a', b, _, i3, Or.inl ⟨by omega, rfl⟩⟩))⟩
        · exact ⟨fun _ => h 0 M1 i1 (Or.inr (Or.inr ⟨a', b, _, i3, Or.inr ⟨by omega, rfl⟩⟩)), fun z => absurd q1 z⟩
      · refine c5_fromX rfl rfl H K ⟨r1, r2⟩ (by omega) (fun M1 i1 i2 => c5_la rfl hho.1 (by omega) ?_)
        have q := i2 _ hho.1 hho.2
        exact ⟨fun _ => h 0 M1 i1 (Or.inr (Or.inl ⟨a', by omega, rfl⟩)), fun z => absurd q z⟩
    refine bX11_comesHome_120 ⟨⟨h1, hp8⟩, ?_⟩
    rw [f1]
    by_cases c : 0 < s (172 + 5 * p + 2)
    · rw [if_pos c]
      exact ⟨fun _ => go 0 (by rw [if_pos rfl, if_pos c]), fun z => absurd z (by decide)⟩
    · rw [if_neg c]
      exact ⟨fun z => absurd rfl z, fun _ => go 1 (by rw [if_neg (by decide), if_neg c])⟩
  refine eX11_comesHome (fun Kx => bX11_comesHome_0 (c1_isPerson rfl H k5 (fun _ _ => ⟨fun _ => ⟨⟨h1, hp8⟩, ⟨h1, hp8⟩, ?_⟩, fun z => absurd z (by decide)⟩) (fun z => absurd ⟨h1, h2⟩ z)))
  rw [f0, fh]
  have mid : ∀ z0 : Int, ((z0 = 0 ∧ s (172 + 5 * p + 0) ≠ -1) ∨ (z0 = 1 ∧ s (172 + 5 * p + 0) = -1)) → CW G Kx mX11_comesHome (n + 5) 52 [some (vO 1), some (vI p), some (vO 5), some (vI (s (172 + 5 * p + 1))), none, none, none] [vI z0] M (qI Q) := by
    intro z0 hz
    refine bX11_comesHome_52 ?_
    rw [f0, f2, f3, fn]
    refine ⟨fun a => ⟨fun b => ⟨⟨h1, hp8⟩, fun _ => ?_, fun c => absurd b c⟩, fun b => ⟨⟨h1, hp8⟩, fun c => absurd c b, fun _ => ⟨⟨h1, hp8⟩, ?_⟩⟩⟩, fun a => ⟨⟨h1, hp8⟩, fun b => ?_, fun b => ?_⟩⟩
    · have hn : ¬ s (172 + 5 * p + 0) < 0 := by omega
      exact last Kx _ _ (by omega) (by omega) g2 d1 (by rw [if_neg hn]) (by rw [if_neg hn])
    · have hn : s (172 + 5 * p + 0) < 0 := by omega
      have g6 := g5 (by omega)
      exact last Kx _ _ (by omega) g6.1.1 g6.1.2 (by omega) (by rw [if_pos hn]) (by rw [if_pos hn])
    · exact h 0 M EqX.rf (Or.inl ⟨by omega, Or.inr ⟨b, rfl⟩⟩)
    · exact h 1 M EqX.rf (Or.inl ⟨by omega, Or.inl ⟨b, rfl⟩⟩)
  exact ⟨fun a => mid 0 (Or.inl ⟨rfl, a⟩), fun a => mid 1 (Or.inr ⟨rfl, a⟩)⟩
theorem DR_far {M' : Mem} (h : M' 5 = M 5) (D : DR (M 5) s) : DR (M' 5) s := by rw [h]; exact D
theorem l11_beds {Kx : Kx} {Q : Int → Mem → Prop} (H : HR (M 4) s) (K : HOK s) (D : DR (M 5) s) (D0 : DOK s) (h : ∀ (g : Int → Int) (M' : Mem), EqX [(9, 0)] M M' → (∀ p, 0 ≤ p → p < s 2 → CH s p (g p)) → Q (setF (fun p => decide (g p = 0)) (s 2).toNat) M') :
    ∀ (f k : Nat) (g : Int → Int) (Mc : Mem), (k : Int) ≤ s 2 → (s 2).toNat - k ≤ f → EqX [(9, 0)] M Mc → (∀ p, 0 ≤ p → p < (k : Int) → CH s p (g p)) → CW G Kx mX11_beds (n + 6) 19 [some (vO 1), some (vI (setF (fun p => decide (g p = 0)) k)), some (vI (k : Int))] [] Mc (qI Q) := by
  have k5 := K.2.2.2.2.2.1
  intro f
  induction f with
  | zero =>
    intro k g Mc h1 h2 h3 h4
    have e : k = (s 2).toNat := by omega
    have e4 : Mc 4 = M 4 := h3.obj (by decide)
    refine bX11_beds_19 ?_
    rw [e4, H.2.2.1]
    refine ⟨fun _ => ?_, fun a => absurd (by omega) a⟩
    rw [e]; exact h g Mc h3 (fun p p1 p2 => h4 p p1 (by omega))
  | succ f ih =>
    intro k g Mc h1 h2 h3 h4
    have e4 : Mc 4 = M 4 := h3.obj (by decide)
    have e5 : Mc 5 = M 5 := h3.obj (by decide)
    refine bX11_beds_19 ?_
    rw [e4, H.2.2.1]
    refine ⟨fun a => ?_, fun a => ⟨fun b => absurd b (by omega), fun _ => ?_⟩⟩
    · have e : k = (s 2).toNat := by omega
      rw [e]; exact h g Mc h3 (fun p p1 p2 => h4 p p1 (by omega))
    · rw [wrs (x := (k : Int) + 1) (by omega) (by omega)]
      refine c11_comesHome (s := s) (by rw [e4]; exact H) K (by rw [e5]; exact D) D0 (by omega) (by omega) (fun b M' i1 i2 => ?_)
      have hg : ∀ p, 0 ≤ p → p < ((k + 1 : Nat) : Int) → CH s p ((fun q => if q = (k : Int) then b else g q) p) := by
        intro p p1 p2
        by_cases e : p = (k : Int)
        · subst e; dsimp only; rw [if_pos rfl]; exact i2
        · dsimp only; rw [if_neg e]; exact h4 p p1 (by omega)
      have ih' := ih (k + 1) (fun q => if q = (k : Int) then b else g q) M' (by omega) (by omega) (h3.trans i1) hg
      unfold setF at ih'
      rw [setF_congr (g := fun p => decide (g p = 0)) k (fun j hj => by rw [if_neg (by omega)]), if_pos (rfl : (k : Int) = (k : Int))] at ih'
      refine ⟨fun c => ?_, fun c => ?_⟩
      · rw [if_neg (by simpa using c)] at ih'; exact ih'
      · rw [if_pos (by simpa using c)] at ih'; exact ih'
theorem l12_beds {Kx : Kx} {Q : Int → Mem → Prop} (K : HOK (sd M)) (D0 : DOK (sd M)) (h : ∀ (g : Int → Int) (M' : Mem), EqX [(0, 28), (0, 29)] M M' → (∀ p, 0 ≤ p → p < sd M 2 → CH (sd M) p (g p)) → Q (setF (fun p => decide (g p = 0)) (sd M 2).toNat) M') :
    ∀ (f k : Nat) (g : Int → Int) (Mc : Mem), (k : Int) ≤ sd M 2 → (sd M 2).toNat - k ≤ f → EqX [(0, 28), (0, 29)] M Mc → (∀ p, 0 ≤ p → p < (k : Int) → CH (sd M) p (g p)) → CW G Kx mX12_beds (n + 5) 15 [some (vO 0), some (vI (setF (fun p => decide (g p = 0)) k)), some (vI (k : Int))] [] Mc (qI Q) := by
  have k5 := K.2.2.2.2.2.1
  intro f
  induction f with
  | zero =>
    intro k g Mc h1 h2 h3 h4
    have e : k = (sd M 2).toNat := by omega
    have es : Mc 0 26 2 = sd M 2 := congrFun (h3.sd (by decide)) 2
    refine bX12_beds_15 ?_
    rw [es]
    refine ⟨fun _ => ?_, fun a => absurd (by omega) a⟩
    rw [e]; exact h g Mc h3 (fun p p1 p2 => h4 p p1 (by omega))
  | succ f ih =>
    intro k g Mc h1 h2 h3 h4
    have es' := h3.sd (by decide)
    have es : Mc 0 26 2 = sd M 2 := congrFun es' 2
    refine bX12_beds_15 ?_
    rw [es]
    refine ⟨fun a => ?_, fun a => ?_⟩
    · have e : k = (sd M 2).toNat := by omega
      rw [e]; exact h g Mc h3 (fun p p1 p2 => h4 p p1 (by omega))
    · rw [wrs (x := (k : Int) + 1) (by omega) (by omega)]
      refine c12_comesHome (by rw [es']; exact K) (by rw [es']; exact D0) (by omega) (by rw [es']; omega) (fun b M' i1 i2 => ?_)
      rw [es'] at i2
      have hg : ∀ p, 0 ≤ p → p < ((k + 1 : Nat) : Int) → CH (sd M) p ((fun q => if q = (k : Int) then b else g q) p) := by
        intro p p1 p2
        by_cases e : p = (k : Int)
        · subst e; dsimp only; rw [if_pos rfl]; exact i2
        · dsimp only; rw [if_neg e]; exact h4 p p1 (by omega)
      have ih' := ih (k + 1) (fun q => if q = (k : Int) then b else g q) M' (by omega) (by omega) (h3.trans i1) hg
      unfold setF at ih'
      rw [setF_congr (g := fun p => decide (g p = 0)) k (fun j hj => by rw [if_neg (by omega)]), if_pos (rfl : (k : Int) = (k : Int))] at ih'
      refine ⟨fun c => ?_, fun c => ?_⟩
      · rw [if_pos (by simpa using c)] at ih'; exact ih'
      · rw [if_neg (by simpa using c)] at ih'; rw [bOr_0 (setF_in _ _)]; exact ih'
theorem both_beds {P : Int → Int → Mem → Prop} (H : HR (M 4) (sd M)) (K : HOK (sd M)) (D : DR (M 5) (sd M)) (D0 : DOK (sd M)) (h : ∀ r M2, EqX [(9, 0), (0, 28), (0, 29)] M M2 → P r r M2) : OkI G (n + 6) mX11_beds [vO 1] M (fun r1 M1 => OkI G (n + 6) mX12_beds [vO 0] M1 (fun r2 M2 => P r1 r2 M2)) := by
  refine eX11_beds (fun Kx => bX11_beds_0 ?_)
  rw [H.1]
  refine ⟨fun a => ?_, fun a => ?_⟩
  · have st := l11_beds (G := G) (n := n) (Kx := Kx) (M := M) (Q := fun r1 M1 => OkI G (n + 6) mX12_beds [vO 0] M1 (fun r2 M2 => P r1 r2 M2)) H K D D0 (fun g M1 i1 i2 => ?_) (sd M 2).toNat 0 (fun _ => 0) M K.2.2.2.2.1 (by omega) EqX.rf (fun p p1 p2 => by omega)
    · exact st
    · have es := i1.sd (by decide)
      refine eX12_beds (fun Kx2 => bX12_beds_0 ⟨fun _ => ?_, fun z => absurd (show sd M 0 = 0 by rw [← es]; exact z) a⟩)
      have st2 := l12_beds (G := G) (n := n + 1) (Kx := Kx2) (M := M1) (Q := fun r2 M2 => P (setF (fun p => decide (g p = 0)) (sd M 2).toNat) r2 M2) (by rw [es]; exact K) (by rw [es]; exact D0) (fun g' M2 j1 j2 => ?_) (sd M1 2).toNat 0 (fun _ => 0) M1 (by rw [es]; exact K.2.2.2.2.1) (by omega) EqX.rf (fun p p1 p2 => by omega)
      · exact st2
      · rw [es] at j2 ⊢
        rw [setF_congr (f := fun p => decide (g' p = 0)) (g := fun p => decide (g p = 0)) (sd M 2).toNat (fun j hj => by rw [CH_one (K.2.2.2.2.2.2.2.2.2.2 (j : Int) (by omega) (by omega)) (j2 (j : Int) (by omega) (by omega)) (i2 (j : Int) (by omega) (by omega))])]
        exact h _ M2 ((i1.sub (by decide)).trans (j1.sub (by decide)))
  · exact eX12_beds (fun Kx2 => bX12_beds_0 ⟨fun z => absurd a z, fun _ => h _ M EqX.rf⟩)
end BB
