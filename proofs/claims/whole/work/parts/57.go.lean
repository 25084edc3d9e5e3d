/-! ===== one sets off: both sides; go ===== -/
section GOC
variable {G : Gx} {n : Nat} {M : Mem} {s : Int → Int} {d : Nat}
def EqO (d : Nat) (M M' : Mem) : Prop := ∀ o, o ≠ d → M' o = M o
theorem EqO.rf {M : Mem} : EqO d M M := fun _ _ => rfl
theorem EqO.trans {M M1 M2 : Mem} (h : EqO d M M1) (h' : EqO d M1 M2) : EqO d M M2 := fun o ho => (h' o ho).trans (h o ho)
theorem EqO.mset {k i : Nat} {x : Int} : EqO d M (mset M d k i x) := fun o ho => funext (fun a => funext (fun b => mset_ne (fun z => ho z.1)))
theorem d4 (hd : oc d = 0) : (4 : Nat) ≠ d := fun e => by rw [← e] at hd; exact absurd hd (by decide)
theorem DR.per {f : Nat → Nat → Int} (D : DR f s) {p : Int} (h1 : 0 ≤ p) (h2 : p < s 2) : f 2 p.toNat = s (172 + 5 * p + 0) ∧ f 3 p.toNat = (if 0 < s (172 + 5 * p + 2) then 1 else 0) ∧ f 4 p.toNat = s (172 + 5 * p + 3) ∧ f 5 p.toNat = s (172 + 5 * p + 4) := D.2.2 p h1 h2
theorem c0_canTake {Q : Int → Mem → Prop} {p w : Int} (hd : oc d = 0) (H : HR (M 4) s) (K : HOK s) (D : DR (M d) s) (D0 : 0 ≤ s 3) (h1 : 0 ≤ p) (h2 : p < s 2) (ht : canT s p w → Q 1 M) (hf : ¬ canT s p w → Q 0 M) : OkI G (n + 2) mX0_canTake [vO d, vO 4, vI p, vI w] M Q := by
  have k8 := K.2.2.2.2.2.1
  have k24 := K.2.2.2.1
  obtain ⟨g2, -⟩ := D.per h1 h2
  have g0 : M d 0 0 = s 3 := D.1
  refine eX0_canTake (fun Kx => bX0_canTake_0 rfl hd (c1_isPerson rfl H k8 (fun _ _ => ⟨fun z => absurd z (by decide), fun _ => c1_isWay rfl H k24 (fun w1 w2 => ⟨fun _ => ⟨⟨h1, by omega⟩, ?_⟩, fun z => absurd z (by decide)⟩) (fun z => ⟨fun y => absurd rfl y, fun _ => hf (fun c => z c.1)⟩)⟩) (fun z => absurd ⟨h1, h2⟩ z)))
  rw [g2]
  refine c1_leadsTo rfl H k24 (fun _ _ => ⟨fun z => hf (fun c => by have := c.2.1; omega), fun z => ?_⟩) (fun z => absurd ⟨w1, w2⟩ z)
  rw [g0]
  have he : 0 ≤ endW s w (s (172 + 5 * p + 0)) := by
    rcases endW_in K (r := s (172 + 5 * p + 0)) w1 w2 with q | q
    · exact absurd q z
    · exact q.1
  have hop := opC_now K w1 w2 D0
  refine c1_openFrom rfl H k24 (fun _ _ => ?_) (fun z => absurd ⟨w1, w2⟩ z)
  rw [g0]
  exact ⟨fun y => hf (fun c => y (hop.mpr c.2.2)), fun y => ht ⟨⟨w1, w2⟩, he, hop.mp y⟩⟩
theorem c0_canRide {Q : Int → Mem → Prop} {p : Int} (hd : oc d = 0) (H : HR (M 4) s) (K : HOK s) (D : DR (M d) s) (D2 : DOK2 s) (h14 : s 3 ≤ 1439) (h1 : 0 ≤ p) (h2 : p < s 2) (ht : canR s p → Q 1 M) (hf : ¬ canR s p → Q 0 M) : OkI G (n + 1) mX0_canRide [vO d, vO 4, vI p] M Q := by
  have k8 := K.2.2.2.2.2.1
  have hh := K.hoist
  have D0 := D2.1.1
  obtain ⟨-, g3, -⟩ := D.per h1 h2
  have g0 : M d 0 0 = s 3 := D.1
  have g1 : M d 1 0 = ridS s (s 2).toNat := D.2.1
  have e5 : M 4 5 0 = s 5 := H.2.2.2.2.1
  have hrn := (ridS_nn (s := s) (s 2).toNat).1
  refine eX0_canRide (fun Kx => bX0_canRide_0 rfl hd (c1_isPerson rfl H k8 (fun _ _ => ⟨fun z => absurd z (by decide), fun _ => ⟨⟨h1, by omega⟩, ?_⟩⟩) (fun z => absurd ⟨h1, h2⟩ z)))
  rw [g3, g0, g1, e5]
  refine ⟨fun z => ⟨fun y => hf (fun c => by have := c.2.2.2; have := D2.2; omega), fun y => ?_⟩, fun z => hf (fun c => by rw [if_neg c.2.2.1] at z; omega)⟩
  have nr : ¬ 0 < s (172 + 5 * p + 2) := fun q => by rw [if_pos q] at z; exact z rfl
  have h6 : 1 ≤ s 6 := by omega
  have hhn := hoM_now (s := s) h6 D0
  refine c1_hoistLeaves rfl H (by omega) (by omega) (fun y => ?_) (fun y1 y2 y3 => ?_)
  · rw [g0]
    refine ⟨fun _ => hf (fun c => ?_), fun x => by omega⟩
    have := hhn.mpr c.2.1
    exact y ⟨h6, D0, by omega⟩
  · rw [g0]
    exact ⟨fun x => hf (fun c => x (hhn.mpr c.2.1)), fun x => ht ⟨by omega, hhn.mp x, nr, by omega⟩⟩
theorem c0_leave {Q : Mem → Prop} {p e m : Int} (hd : oc d = 0) (h1 : 0 ≤ p) (h2 : p < 8) (h : Q (mset (mset (mset M d 2 p.toNat (-1)) d 4 p.toNat e) d 5 p.toNat m)) : OkV G n mX0_leave [vO d, vI p, vI e, vI m] M Q := by
  refine eX0_leave (fun Kx => bX0_leave_0 hd ⟨⟨h1, h2⟩, fun M1 e1 => ⟨⟨h1, h2⟩, fun M2 e2 => ⟨⟨h1, h2⟩, fun M3 e3 => ?_⟩⟩⟩)
  subst e1; subst e2; subst e3
  exact h
/-- the day's object, once one has set off -/
theorem DR_off {f f' : Nat → Nat → Int} {p e m mn0 : Int} (D : DR f s) (k8 : s 2 ≤ 8) (h1 : 0 ≤ p) (h2 : p < s 2) (hm : m = s 3 + mn0) (f0 : f' 0 = f 0) (f1 : f' 1 = f 1) (f3 : f' 3 = f 3) (f2 : ∀ i, f' 2 i = if i = p.toNat then -1 else f 2 i) (f4 : ∀ i, f' 4 i = if i = p.toNat then e else f 4 i) (f5 : ∀ i, f' 5 i = if i = p.toNat then m else f 5 i) : DR f' (sOff s p e mn0) := by
  obtain ⟨d0, d1, d2⟩ := D
  have e3 : sOff s p e mn0 3 = s 3 := sOff_i (by omega) (by omega) (by omega)
  have e2 : sOff s p e mn0 2 = s 2 := sOff_i (by omega) (by omega) (by omega)
  unfold DR
  rw [e3, e2, f0, f1, f3, ridS_cg (s := s) (s' := sOff s p e mn0) e3 _ (fun j hj => sOff_i (by omega) (by omega) (by omega))]
  refine ⟨d0, d1, fun q q1 q2 => ?_⟩
  obtain ⟨a, b, c, g⟩ := d2 q q1 q2
  rw [f2, f4, f5, sOff_i (i := 172 + 5 * q + 2) (by omega) (by omega) (by omega)]
  by_cases z : q = p
  · subst z
    rw [if_pos rfl, if_pos rfl, if_pos rfl, sOff_0, sOff_3, sOff_4]
    exact ⟨rfl, b, rfl, hm⟩
  · have hne : ¬ q.toNat = p.toNat := by omega
    rw [if_neg hne, if_neg hne, if_neg hne, sOff_i (i := 172 + 5 * q + 0) (by omega) (by omega) (by omega), sOff_i (i := 172 + 5 * q + 3) (by omega) (by omega) (by omega), sOff_i (i := 172 + 5 * q + 4) (by omega) (by omega) (by omega)]
    exact ⟨a, b, c, g⟩
theorem c0_takeWay {Q : Int → Mem → Prop} {p w : Int} (hd : oc d = 0) (H : HR (M 4) s) (K : HOK s) (D : DR (M d) s) (D0 : 0 ≤ s 3) (h14 : s 3 ≤ 1439) (h1 : 0 ≤ p) (h2 : p < s 2) (ht : canT s p w → ∀ M', EqO d M M' → DR (M' d) (tkS s p w) → Q 1 M') (hf : ¬ canT s p w → Q 0 M) : OkI G (n + 3) mX0_takeWay [vO d, vO 4, vI p, vI w] M Q := by
  have k8 := K.2.2.2.2.2.1
  have k24 := K.2.2.2.1
  obtain ⟨g2, -⟩ := D.per h1 h2
  have g0 : M d 0 0 = s 3 := D.1
  refine eX0_takeWay (fun Kx => bX0_takeWay_0 hd rfl (c0_canTake hd H K D D0 h1 h2 (fun c => ⟨fun _ => ⟨⟨h1, by omega⟩, ?_⟩, fun z => absurd z (by decide)⟩) (fun c => ⟨fun z => absurd rfl z, fun _ => hf c⟩)))
  rw [g2]
  refine c1_leadsTo rfl H k24 (fun w1 w2 => ⟨⟨w1, by omega⟩, ?_⟩) (fun z => absurd c.1 z)
  have g10 := (H.way w1 w2).2.2.1
  have hmn := (K.way w1 w2).2.2.1
  rw [g0, g10, wrs (x := s 3 + s (28 + 6 * w + 2)) (by omega) (by omega)]
  refine c0_leave hd h1 (by omega) (ht c _ ((EqO.mset.trans EqO.mset).trans EqO.mset) ?_)
  refine DR_off D k8 h1 h2 rfl ?_ ?_ ?_ (fun i => ?_) (fun i => ?_) (fun i => ?_)
  · funext i; rw [mset_ne (by simp), mset_ne (by simp), mset_ne (by simp)]
  · funext i; rw [mset_ne (by simp), mset_ne (by simp), mset_ne (by simp)]
  · funext i; rw [mset_ne (by simp), mset_ne (by simp), mset_ne (by simp)]
  · rw [mset_ne (by simp), mset_ne (by simp), mset_fn]
  · rw [mset_ne (by simp), mset_fn, mset_ne (by simp)]
  · rw [mset_fn, mset_ne (by simp), mset_ne (by simp)]
theorem c0_takeHoist {Q : Int → Mem → Prop} {p : Int} (hd : oc d = 0) (H : HR (M 4) s) (K : HOK s) (D : DR (M d) s) (D2 : DOK2 s) (h14 : s 3 ≤ 1439) (h1 : 0 ≤ p) (h2 : p < s 2) (ht : canR s p → ∀ M', EqO d M M' → DR (M' d) (rdS s p) → Q 1 M') (hf : ¬ canR s p → Q 0 M) : OkI G (n + 2) mX0_takeHoist [vO d, vO 4, vI p] M Q := by
  have k8 := K.2.2.2.2.2.1
  have hh := K.hoist
  have k7 := K.2.2.2.2.2.2.1
  have D0 := D2.1.1
  have g0 : M d 0 0 = s 3 := D.1
  have g1 : M d 1 0 = ridS s (s 2).toNat := D.2.1
  have e4 : M 4 4 0 = s 4 := H.2.2.2.1
  have hne4 := d4 hd
  have hrn := ridS_nn (s := s) (s 2).toNat
  refine eX0_takeHoist (fun Kx => bX0_takeHoist_0 hd rfl (c0_canRide hd H K D D2 h14 h1 h2 (fun c => ⟨fun _ M2 em2 => ⟨⟨h1, by omega⟩, fun M3 em3 => ?_⟩, fun z => absurd z (by decide)⟩) (fun c => ⟨fun z => absurd rfl z, fun _ => hf c⟩)))
  have htop : isTop s (M 4 3 0) := H.2.2.2.2.2.2.2.2.2 (by
    have := c.1
    have hk0 := K.1
    apply Classical.byContradiction
    intro z
    have := (k7 (by omega)).2.2
    omega)
  rw [g1, wrs (x := ridS s (s 2).toNat + 1) (by omega) (by omega)] at em2
  have f34 : M3 4 = M 4 := funext (fun k => funext (fun i => by rw [em3, mset_ne (fun z => hne4 z.1), em2, mset_ne (fun z => hne4 z.1)]))
  have f30 : M3 d 0 0 = s 3 := by rw [em3, mset_ne (by simp), em2, mset_ne (by simp)]; exact g0
  rw [f34, f30, e4, wrs (x := s 3 + s 4) (by omega) (by omega), ← topF_is htop]
  refine c0_leave hd h1 (by omega) (ht c _ ?_ ?_)
  · rw [em3, em2]; exact (((EqO.mset.trans EqO.mset).trans EqO.mset).trans EqO.mset).trans EqO.mset
  · obtain ⟨-, hr⟩ := rdS_ok K D2 h14 htop h1 h2 c
    have er : ∀ i, i ≠ 172 + 5 * p + 2 → rdS s p i = sOff s p (topF s) (s 4) i := fun i hi => us_ne hi
    obtain ⟨d0, d1, d2⟩ := D
    have e3 : rdS s p 3 = s 3 := by rw [er 3 (by omega)]; exact sOff_i (by omega) (by omega) (by omega)
    have e2 : rdS s p 2 = s 2 := by rw [er 2 (by omega)]; exact sOff_i (by omega) (by omega) (by omega)
    unfold DR
    rw [e3, e2, hr]
    have far : ∀ k i, k ≠ 2 → k ≠ 4 → k ≠ 5 → mset (mset (mset M3 d 2 p.toNat (-1)) d 4 p.toNat (topF s)) d 5 p.toNat (s 3 + s 4) d k i = M3 d k i := fun k i a b c => by rw [mset_ne (fun z => c z.2.1), mset_ne (fun z => b z.2.1), mset_ne (fun z => a z.2.1)]
    refine ⟨?_, ?_, fun q q1 q2 => ?_⟩
    · rw [far 0 0 (by decide) (by decide) (by decide)]; exact f30
    · rw [far 1 0 (by decide) (by decide) (by decide), em3, mset_ne (by simp), em2, mset_self]
    · obtain ⟨a, b, c', g⟩ := d2 q q1 q2
      rw [far 3 _ (by decide) (by decide) (by decide), mset_ne (k' := 2) (by simp), mset_ne (k' := 2) (by simp), mset_fn, mset_ne (k' := 4) (by simp), mset_fn (k := 4), mset_fn (k := 5), mset_ne (k' := 4) (by simp), mset_ne (k' := 5) (by simp), mset_ne (k' := 5) (by simp)]
      by_cases z : q = p
      · subst z
        have e22 : rdS s q (172 + 5 * q + 2) = s 3 + 1 := us_at
        rw [if_pos rfl, if_pos rfl, if_pos rfl, er (172 + 5 * q + 0) (by omega), er (172 + 5 * q + 3) (by omega), er (172 + 5 * q + 4) (by omega), sOff_0, sOff_3, sOff_4, e22, if_pos (show 0 < s 3 + 1 by omega), em3, mset_self]
        exact ⟨rfl, rfl, rfl, rfl⟩
      · have hne : ¬ q.toNat = p.toNat := by omega
        rw [if_neg hne, if_neg hne, if_neg hne, er (172 + 5 * q + 0) (by omega), er (172 + 5 * q + 2) (by omega), er (172 + 5 * q + 3) (by omega), er (172 + 5 * q + 4) (by omega), sOff_i (i := 172 + 5 * q + 0) (by omega) (by omega) (by omega), sOff_i (i := 172 + 5 * q + 2) (by omega) (by omega) (by omega), sOff_i (i := 172 + 5 * q + 3) (by omega) (by omega) (by omega), sOff_i (i := 172 + 5 * q + 4) (by omega) (by omega) (by omega)]
        have m3 : ∀ k i, k ≠ 1 → (k ≠ 3 ∨ i ≠ p.toNat) → M3 d k i = M d k i := fun k i a b => by rw [em3, mset_ne (by omega), em2, mset_ne (by omega)]
        rw [m3 2 _ (by decide) (by omega), m3 3 _ (by decide) (by omega), m3 4 _ (by decide) (by omega), m3 5 _ (by decide) (by omega)]
        exact ⟨a, b, c', g⟩
/-! the reference -/
theorem c12_setsOff {Q : Mem → Prop} {p e m : Int} (hs : sd M = s) (h1 : 0 ≤ p) (h2 : p < 8) (hm : -1000 ≤ s 3 + m ∧ s 3 + m ≤ 10000) (h : ∀ M', EqX [(0, 26)] M M' → sd M' = sOff s p e m → Q M') : OkV G n mX12_setsOff [vO 0, vI p, vI e, vI m] M Q := by
  have e0 : wr (172 + wr (5 * p)) = 172 + 5 * p + 0 := by rw [wrs (x := 5 * p) (by omega) (by omega), wrs (x := 172 + 5 * p) (by omega) (by omega)]; omega
  refine eX12_setsOff (fun Kx => bX12_setsOff_0 ?_)
  rw [e0, show 172 + 5 * p + 0 + 3 = 172 + 5 * p + 3 by omega, show 172 + 5 * p + 0 + 4 = 172 + 5 * p + 4 by omega, wrs (x := 172 + 5 * p + 3) (by omega) (by omega), wrs (x := 172 + 5 * p + 4) (by omega) (by omega)]
  refine ⟨⟨by omega, by omega⟩, fun M1 e1 => ⟨⟨by omega, by omega⟩, fun M2 e2 => ⟨⟨by omega, by omega⟩, fun M3 e3 => ?_⟩⟩⟩
  have s1 : sd M1 = us s (172 + 5 * p + 0) (-1) := by rw [e1, sd_us (by omega), hs]
  have s2 : sd M2 = us (us s (172 + 5 * p + 0) (-1)) (172 + 5 * p + 3) e := by rw [e2, sd_us (by omega), s1]
  have h3 : M2 0 26 3 = s 3 := by
    show sd M2 3 = s 3
    rw [s2, us_ne (by omega), us_ne (by omega)]
  rw [h3, wrs (x := s 3 + m) (by omega) (by omega)] at e3
  refine h M3 ?_ ?_
  · rw [e3, e2, e1]; exact ((EqX.mset (by decide)).trans (EqX.mset (by decide))).trans (EqX.mset (by decide))
  · rw [e3, sd_us (by omega), s2]; rfl
theorem c12_takes {Q : Int → Mem → Prop} {p w : Int} (hs : sd M = s) (K : HOK s) (D0 : 0 ≤ s 3) (h14 : s 3 ≤ 1440) (h1 : 0 ≤ p) (h2 : p < s 2) (ht : canT s p w → ∀ M', EqX [(0, 26)] M M' → sd M' = tkS s p w → Q 1 M') (hf : ¬ canT s p w → Q 0 M) : OkI G (n + 2) mX12_takes [vO 0, vI p, vI w] M Q := by
  have k8 := K.2.2.2.2.2.1
  have k24 := K.2.2.2.1
  have e3 : M 0 26 3 = s 3 := by rw [← hs]; rfl
  refine eX12_takes (fun Kx => bX12_takes_0 (c12_isWay (fun w1 w2 => ⟨fun z => absurd z (by decide), fun _ => c12_personOf h1 (by omega) (by decide) (by decide) ?_⟩) (fun z => ⟨fun _ => hf (fun c => z (by rw [hs]; exact c.1)), fun y => absurd rfl y⟩)))
  rw [hs] at w2 ⊢
  have wb : w < 24 := by omega
  refine c12_endOf w1 wb ?_
  rw [hs]
  refine ⟨fun z => hf (fun c => by have := c.2.1; omega), fun z => ?_⟩
  rw [e3]
  refine c12_isOpen w1 wb (fun y => ⟨fun _ => c12_personOf h1 (by omega) (by decide) (by decide) ?_, fun x => absurd x (by decide)⟩) (fun y => ⟨fun x => absurd rfl x, fun _ => hf (fun c => y (by rw [hs]; exact c.2.2))⟩)
  rw [hs] at y ⊢
  refine c12_endOf w1 wb ?_
  rw [hs]
  refine c12_wayOf w1 wb (by decide) (by decide) ?_
  rw [hs]
  have hmn := (K.way w1 w2).2.2.1
  exact c12_setsOff hs h1 (by omega) ⟨by omega, by omega⟩ (fun M' a b => ht ⟨⟨w1, w2⟩, by omega, y⟩ M' a b)
theorem c12_riding {Q : Int → Mem → Prop} (hs : sd M = s) (k0 : 0 ≤ s 2) (k8 : s 2 ≤ 8) (h3 : 0 ≤ s 3 ∧ s 3 ≤ 1440) (h : Q (ridS s (s 2).toNat) M) : OkI G (n + 1) mX12_riding [vO 0] M Q := by
  have e2 : M 0 26 2 = s 2 := by rw [← hs]; rfl
  have e3 : M 0 26 3 = s 3 := by rw [← hs]; rfl
  refine eX12_riding (fun Kx => bX12_riding_0 ?_)
  have loop : ∀ (k : Nat) (_ : Unit), k ≤ (s 2).toNat → True → CW G Kx mX12_riding (n + 1) 4 [some (vO 0), some (vI (ridS s k)), some (vI (k : Int))] [] M (qI Q) := by
    refine up_ind (fun _ _ => ?_) (fun k _ hk _ ih => ?_)
    · refine bX12_riding_4 ?_
      rw [e2]
      exact ⟨fun _ => h, fun z => absurd (by omega) z⟩
    · have ih' := ih () trivial
      have hr := ridS_nn (s := s) k
      unfold ridS at ih'
      refine bX12_riding_4 ?_
      rw [e2, wr_n (b := 9) (k := k) (by omega) (by omega)]
      refine ⟨fun z => absurd z (by omega), fun _ => c12_personOf (by omega) (by omega) (by decide) (by decide) ?_⟩
      rw [hs, e3, wrs (x := s 3 + 1) (by omega) (by omega)]
      refine ⟨fun z => ?_, fun z => ?_⟩
      · rw [if_neg z] at ih'
        rw [wrs (x := ridS s k + 0) (by omega) (by omega)]; exact ih'
      · rw [if_pos z] at ih'
        rw [wrs (x := ridS s k + 1) (by omega) (by omega)]; exact ih'
  exact loop 0 () (by omega) trivial
theorem c12_ridesUp {Q : Int → Mem → Prop} {p : Int} (hs : sd M = s) (K : HOK s) (D2 : DOK2 s) (h1 : 0 ≤ p) (h2 : p < s 2) (ht : canR s p → ∀ M', EqX [(0, 26)] M M' → sd M' = rdS s p → Q 1 M') (hf : ¬ canR s p → Q 0 M) : OkI G (n + 2) mX12_ridesUp [vO 0, vI p] M Q := by
  have k8 := K.2.2.2.2.2.1
  have k5 := K.2.2.2.2.1
  have k16 := K.2.1
  have k7 := K.2.2.2.2.2.2.1
  have hh := K.hoist
  have D0 := D2.1.1
  have D1 := D2.1.2.1
  have e3 : M 0 26 3 = s 3 := by rw [← hs]; rfl
  have e4 : M 0 26 4 = s 4 := by rw [← hs]; rfl
  have e5 : M 0 26 5 = s 5 := by rw [← hs]; rfl
  have e6 : M 0 26 6 = s 6 := by rw [← hs]; rfl
  refine eX12_ridesUp (fun Kx => bX12_ridesUp_0 ?_)
  rw [e4, e3, e6]
  refine ⟨fun z => hf (fun c => c.1 z), fun z => ⟨by omega, ?_⟩⟩
  have htm : -200 ≤ Int.tmod (s 3) (s 6) ∧ Int.tmod (s 3) (s 6) ≤ 200 := by
    rw [Int.tmod_eq_emod_of_nonneg D0]
    have a := Int.emod_nonneg (s 3) (show s 6 ≠ 0 by omega)
    have b := Int.emod_lt_of_pos (s 3) (show 0 < s 6 by omega)
    omega
  rw [wrs (x := Int.tmod (s 3) (s 6)) (by omega) (by omega)]
  refine ⟨fun y => hf (fun c => y c.2.1), fun y => c12_ridden h1 (by omega) (fun x => ⟨fun _ => hf (fun c => c.2.2.1 (by rw [hs] at x; exact x)), fun w => absurd w (by decide)⟩) (fun x => ⟨fun w => absurd rfl w, fun _ => ?_⟩)⟩
  rw [hs] at x
  refine c12_riding hs k5 k8 ⟨D0, D1⟩ ?_
  rw [e5]
  refine ⟨fun w => ?_, fun w => hf (fun c => c.2.2.2 w)⟩
  have hk0 : 1 ≤ s 0 := by
    have := K.1
    apply Classical.byContradiction
    intro q
    have := (k7 (by omega)).2.2
    omega
  refine c12_topRoom (by rw [hs]; exact k16) (by rw [hs]; exact hk0) (fun t htop => ?_)
  rw [hs] at htop
  rw [e4]
  have hc : canR s p := ⟨z, y, x, w⟩
  refine c12_setsOff hs h1 (by omega) ⟨by omega, by omega⟩ (fun M4 a b => ?_)
  have ei : wr (wr (172 + wr (5 * p)) + 2) = 172 + 5 * p + 2 := by
    have e0 : wr (172 + wr (5 * p)) = 172 + 5 * p := by rw [wrs (x := 5 * p) (by omega) (by omega), wrs (x := 172 + 5 * p) (by omega) (by omega)]
    rw [e0]; exact wrs (by omega) (by omega)
  have e34 : M4 0 26 3 = s 3 := by
    show sd M4 3 = s 3
    rw [b]; exact sOff_i (by omega) (by omega) (by omega)
  rw [ei, e34, wrs (x := s 3 + 1) (by omega) (by omega)]
  refine ⟨⟨by omega, by omega⟩, fun M5 em => ht hc M5 ?_ ?_⟩
  · rw [em]; exact a.trans (EqX.mset (by decide))
  · rw [em, sd_us (by omega), b, ← topF_is htop]; rfl
/-- go -/
theorem both_go {x1 x2 : Int} {P : Int → Int → Mem → Prop} (H : HR (M 4) (sd M)) (K : HOK (sd M)) (D : DR (M 5) (sd M)) (D2 : DOK2 (sd M)) (h : ∀ r M2, (∀ o k i, o ≠ 5 → (o, k) ≠ (0, 26) → M2 o k i = M o k i) → DX (sd M) (sd M2) → DR (M2 5) (sd M2) → DOK2 (sd M2) → P r r M2) : OkI G (n + 4) mX11_go [vO 1, vI x1, vI x2] M (fun r1 M1 => OkI G (n + 4) mX12_go [vO 0, vI x1, vI x2] M1 (fun r2 M2 => P r1 r2 M2)) := by
  have k8 := K.2.2.2.2.2.1
  have D0 := D2.1.1
  have D1 := D2.1.2.1
  have g0 : M 5 0 0 = sd M 3 := D.1
  have hM : ∀ r, P r r M := fun r => h r M (fun _ _ _ _ _ => rfl) DX.rf D D2
  have no : ¬ (0 ≤ x1 ∧ x1 < sd M 2 ∧ sd M 3 ≤ 1439 ∧ 0 ≤ sd M (172 + 5 * x1 + 0)) → OkI G (n + 4) mX12_go [vO 0, vI x1, vI x2] M (fun r2 M2 => P 0 r2 M2) := by
    intro z
    refine eX12_go (fun Kx => bX12_go_0 (c12_isPerson (fun a b => ⟨fun y => absurd y (by decide), fun _ => c12_personOf a (by omega) (by decide) (by decide) ⟨fun _ => hM 0, fun y => ⟨fun x => ?_, fun _ => hM 0⟩⟩⟩) (fun _ => ⟨fun _ => hM 0, fun y => absurd rfl y⟩)))
    have : ¬ sd M 3 = 1440 := x
    exact absurd ⟨a, b, by omega, by omega⟩ z
  refine eX11_go (fun Kx => bX11_go_0 (c1_isPerson rfl H k8 (fun a b => ⟨fun y => absurd y (by decide), fun _ => ?_⟩) (fun z => ⟨fun _ => no (fun w => z ⟨w.1, w.2.1⟩), fun y => absurd rfl y⟩)))
  obtain ⟨g2, -⟩ := D.per a b
  have dp := D2.1.2.2 x1 a b
  rw [g0, g2]
  refine ⟨fun z => no (by omega), fun z => ⟨⟨a, by omega⟩, fun y => ?_, fun y => no (by omega)⟩⟩
  have hr : 0 ≤ sd M (172 + 5 * x1 + 0) := by omega
  have h14 : sd M 3 ≤ 1439 := by omega
  have two : ∀ (M1 : Mem), sd M1 = sd M → (∀ {Q : Int → Mem → Prop}, (¬ x2 = 24 → OkI G (n + 3) mX12_takes [vO 0, vI x1, vI x2] M1 (fun r M' => (r = 0 ∨ r = 1) ∧ Q r M')) → (x2 = 24 → OkI G (n + 3) mX12_ridesUp [vO 0, vI x1] M1 (fun r M' => (r = 0 ∨ r = 1) ∧ Q r M')) → OkI G (n + 4) mX12_go [vO 0, vI x1, vI x2] M1 Q) := by
    intro M1 es Q q1 q2
    have e3 : M1 0 26 3 = sd M 3 := by rw [← es]; rfl
    refine eX12_go (fun Kx => bX12_go_0 (c12_isPerson (fun _ _ => ⟨fun y => absurd y (by decide), fun _ => c12_personOf a (by omega) (by decide) (by decide) ⟨fun w => absurd w (by rw [es]; omega), fun _ => ?_⟩⟩) (fun w => absurd ⟨a, by rw [es]; exact b⟩ w)))
    rw [e3]
    exact ⟨fun _ => ⟨q1, q2⟩, fun w => absurd w (by omega)⟩
  have fr : ∀ M1, EqO 5 M M1 → sd M1 = sd M := fun M1 e => by funext i; show M1 0 26 _ = M 0 26 _; rw [e 0 (by decide)]
  refine ⟨fun x => ?_, fun x => ?_⟩
  · refine c0_takeWay rfl H K D D0 h14 a b (fun c M1 i1 i2 => ⟨Or.inr rfl, two M1 (fr M1 i1) (fun _ => ?_) (fun w => absurd w x)⟩) (fun c => ⟨Or.inl rfl, two M rfl (fun _ => ?_) (fun w => absurd w x)⟩)
    · refine c12_takes (fr M1 i1) K D0 D1 a b (fun _ M2 j1 j2 => ⟨Or.inr rfl, ?_⟩) (fun w => absurd c w)
      refine h _ M2 (fun o k i ho hk => ?_) ?_ ?_ ?_
      · rw [j1 o k i (by simpa using hk), i1 o ho]
      · rw [j2]; exact sOff_DX a (by omega)
      · rw [j2, j1.obj (o := 5) (by decide)]; exact i2
      · rw [j2]; exact tkS_ok K D2 h14 a b c
    · exact c12_takes rfl K D0 D1 a b (fun w => absurd w c) (fun _ => ⟨Or.inl rfl, hM 0⟩)
  · refine c0_takeHoist rfl H K D D2 h14 a b (fun c M1 i1 i2 => ⟨Or.inr rfl, two M1 (fr M1 i1) (fun w => absurd x w) (fun _ => ?_)⟩) (fun c => ⟨Or.inl rfl, two M rfl (fun w => absurd x w) (fun _ => ?_)⟩)
    · have htop : isTop (sd M) (M 4 3 0) := H.2.2.2.2.2.2.2.2.2 (by
        have k7 := K.2.2.2.2.2.2.1
        have hk0 := K.1
        apply Classical.byContradiction
        intro q
        have := (k7 (by omega)).2.2
        exact c.1 this)
      refine c12_ridesUp (fr M1 i1) K D2 a b (fun _ M2 j1 j2 => ⟨Or.inr rfl, ?_⟩) (fun w => absurd c w)
      refine h _ M2 (fun o k i ho hk => ?_) ?_ ?_ ?_
      · rw [j1 o k i (by simpa using hk), i1 o ho]
      · rw [j2]; exact rdS_DX a (by omega)
      · rw [j2, j1.obj (o := 5) (by decide)]; exact i2
      · rw [j2]; exact (rdS_ok K D2 h14 htop a b c).1
    · exact c12_ridesUp rfl K D2 a b (fun w => absurd w c) (fun _ => ⟨Or.inl rfl, hM 0⟩)
end GOC
