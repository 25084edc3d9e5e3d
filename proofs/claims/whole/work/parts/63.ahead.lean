/-! ===== rows copied; how many are home, on the way, have ridden; ahead ===== -/
section CPY
variable {G : Gx} {n : Nat} {M M1 : Mem} {c j d e : Nat}
def ln (c k : Nat) : Nat := if fK c k = 0 then 1 else aL c k
def CpJ (c j d e : Nat) (M M' : Mem) : Prop := EqO d M M' ∧ ∀ k, k < j → ∀ i, i < ln c k → M' d k i = M e k i
theorem CpJ_0 : CpJ c 0 d e M M := ⟨EqO.rf, fun k hk => absurd hk (by omega)⟩
theorem CpJ_set (hne : e ≠ d) (h : CpJ c j d e M M1) (hl : ln c j = 1) : CpJ c (j + 1) d e M (mset M1 d j 0 (M1 e j 0)) := by
  refine ⟨h.1.trans EqO.mset, fun k hk i hi => ?_⟩
  by_cases q : k = j
  · subst q
    have : i = 0 := by omega
    subst this
    rw [mset_self, h.1 e hne]
  · rw [mset_ne (fun z => q z.2.1)]; exact h.2 k (by omega) i hi
theorem EqO.mcpy {o k k' N : Nat} : EqO d M (mcpy M o k d k' N) := fun a ha => funext (fun b => funext (fun i => if_neg (fun z => ha z.1)))
theorem CpJ_cpy {N : Nat} (hne : e ≠ d) (h : CpJ c j d e M M1) (hl : ln c j = N) : CpJ c (j + 1) d e M (mcpy M1 e j d j N) := by
  refine ⟨h.1.trans EqO.mcpy, fun k hk i hi => ?_⟩
  by_cases q : k = j
  · subst q
    show (if d = d ∧ k = k ∧ i < N then M1 e k i else M1 d k i) = M e k i
    rw [if_pos ⟨rfl, rfl, by omega⟩, h.1 e hne]
  · show (if d = d ∧ k = j ∧ i < N then M1 e j i else M1 d k i) = M e k i
    rw [if_neg (fun z => q z.2.1)]; exact h.2 k (by omega) i hi
theorem c11_copyRow {Q : Mem → Prop} {o k o' k' N : Nat} (hk : fK (oc o) k = 1) (hk' : fK (oc o') k' = 1) (hN : aL (oc o) k = N) (hN' : aL (oc o') k' = N) (hz : N ≤ 100000) (h : Q (mcpy M o k o' k' N)) : OkV G (n + 1) mX11_copyRow [vA o k, vA o' k'] M Q := by
  have e : (if (N : Int) < (N : Int) then (N : Int) else (N : Int)) = (N : Int) := by split <;> rfl
  refine eX11_copyRow (fun Kx => bX11_copyRow_0 (NA := (N : Int)) (NB := (N : Int)) hk (by rw [hN]) ⟨by omega, by omega⟩ hk' (by rw [hN']) ⟨by omega, by omega⟩ ?_)
  rw [e, Int.toNat_natCast]
  exact ⟨⟨by omega, by omega, by omega⟩, fun M1 m1 => by rw [m1]; exact h⟩
theorem c0_copyFrom {Q : Mem → Prop} (hd : oc d = 0) (he : oc e = 0) (hne : e ≠ d) (h : ∀ M', CpJ 0 6 d e M M' → Q M') : OkV G (n + 2) mX0_copyFrom [vO d, vO e] M Q := by
  refine eX0_copyFrom (fun Kx => bX0_copyFrom_0 he hd (fun M1 m1 M2 m2 => ?_))
  have c2 : CpJ 0 2 d e M M2 := by rw [m2]; exact CpJ_set hne (by rw [m1]; exact CpJ_set hne CpJ_0 rfl) rfl
  refine c11_copyRow (N := 8) (by rw [he]; rfl) (by rw [hd]; rfl) (by rw [he]; rfl) (by rw [hd]; rfl) (by decide) ?_
  refine c11_copyRow (N := 8) (by rw [he]; rfl) (by rw [hd]; rfl) (by rw [he]; rfl) (by rw [hd]; rfl) (by decide) ?_
  refine c11_copyRow (N := 8) (by rw [he]; rfl) (by rw [hd]; rfl) (by rw [he]; rfl) (by rw [hd]; rfl) (by decide) ?_
  refine c11_copyRow (N := 8) (by rw [he]; rfl) (by rw [hd]; rfl) (by rw [he]; rfl) (by rw [hd]; rfl) (by decide) ?_
  exact h _ (CpJ_cpy hne (CpJ_cpy hne (CpJ_cpy hne (CpJ_cpy hne c2 rfl) rfl) rfl) rfl)
theorem DR_cp {s : Int → Int} (h : CpJ 0 6 d e M M1) (k8 : s 2 ≤ 8) (D : DR (M e) s) : DR (M1 d) s := by
  obtain ⟨d0, d1, d2⟩ := D
  have l : ∀ p : Int, 0 ≤ p → p < s 2 → p.toNat < 8 := fun p a b => by omega
  refine ⟨(h.2 0 (by decide) 0 (by decide)).trans d0, (h.2 1 (by decide) 0 (by decide)).trans d1, fun p a b => ?_⟩
  obtain ⟨q2, q3, q4, q5⟩ := d2 p a b
  exact ⟨(h.2 2 (by decide) _ (l p a b)).trans q2, (h.2 3 (by decide) _ (l p a b)).trans q3, (h.2 4 (by decide) _ (l p a b)).trans q4, (h.2 5 (by decide) _ (l p a b)).trans q5⟩
end CPY
section AHD
variable {G : Gx} {n : Nat} {M : Mem} {s : Int → Int} {ρ : Nat → Nat → Int} {d : Nat}
def tlF (s : Int → Int) (w p : Int) : Bool := if w = 0 then decide (s (172 + 5 * p + 0) = s (172 + 5 * p + 1)) else if w = 1 then decide (s (172 + 5 * p + 0) < 0) else decide (0 < s (172 + 5 * p + 2))
def tlS (s : Int → Int) (w : Int) : Int := cb (tlF s w) (s 2).toNat
theorem cb_s (f : Int → Bool) (k : Nat) : cb f (k + 1) = cb f k + if f (k : Int) = true then 1 else 0 := rfl
theorem c0_tally {Q : Int → Mem → Prop} {w : Int} (hd : oc d = 0) (H : HR (M 4) s) (K : HOK s) (D : DR (M d) s) (D1 : DOK s) (w0 : 0 ≤ w) (w2 : w ≤ 2) (h : Q (tlS s w) M) : OkI G n mX0_tally [vO d, vO 4, vI w] M Q := by
  have k8 := K.2.2.2.2.2.1
  have k5 := K.2.2.2.2.1
  have g2 : M 4 2 0 = s 2 := H.2.2.1
  refine eX0_tally (fun Kx => bX0_tally_0 ?_)
  have loop : ∀ (k : Nat) (u : Unit), k ≤ (s 2).toNat → True → CW G Kx mX0_tally n 5 [some (vO d), some (vO 4), some (vI w), some (vI (cb (tlF s w) k)), some (vI (k : Int)), none] [] M (qI Q) := by
    refine up_ind (fun _ _ => ?_) (fun k _ hk _ ih => ?_)
    · refine bX0_tally_5 rfl hd ?_
      rw [g2]
      exact ⟨fun _ => h, fun z => absurd (by omega) z⟩
    · have hk' : (k : Int) < s 2 := by omega
      have kb : (0 : Int) ≤ (k : Int) ∧ (k : Int) < 8 := ⟨by omega, by omega⟩
      have hc := cb_rng (f := tlF s w) k
      obtain ⟨f2, f3, -, -⟩ := D.per (p := (k : Int)) (by omega) hk'
      have f14 : M 4 14 (k : Int).toNat = s (172 + 5 * (k : Int) + 1) := H.2.2.2.2.2.2.2.2.1 (k : Int) (by omega) hk'
      have hdp := D1.2.2 (k : Int) (by omega) hk'
      have ih' := ih () trivial
      rw [cb_s] at ih'
      have go : ∀ z0 : Int, (z0 = if tlF s w (k : Int) = true then 1 else 0) → CW G Kx mX0_tally n 90 [some (vO d), some (vO 4), some (vI w), some (vI (cb (tlF s w) k)), some (vI (k : Int)), none] [vI z0] M (qI Q) := by
        intro z0 hz
        refine bX0_tally_90 ?_
        rw [wr_n (b := 9) (k := k) (by omega) (by omega), wrs (x := cb (tlF s w) k + 0) (by omega) (by omega), wrs (x := cb (tlF s w) k + 1) (by omega) (by omega)]
        by_cases q : tlF s w (k : Int) = true
        · rw [if_pos q] at hz ih'
          exact ⟨fun z => absurd z (by omega), fun _ => ih'⟩
        · rw [if_neg q] at hz ih'
          exact ⟨fun _ => ih', fun z => absurd hz z⟩
      refine bX0_tally_5 rfl hd ?_
      rw [g2, f2, f3, f14]
      refine ⟨fun z => absurd z (by omega), fun _ => ⟨fun z => absurd z (by omega), fun _ => ⟨fun z => ⟨fun y => ⟨kb, fun x => go 0 ?_, fun x => go 1 ?_⟩, fun y => ⟨kb, fun x => go 0 ?_, fun x => go 1 ?_⟩⟩, fun z => ⟨kb, kb, fun x => go 0 ?_, fun x => go 1 ?_⟩⟩⟩⟩
      · unfold tlF; rw [if_neg z, if_neg y]
        by_cases q : 0 < s (172 + 5 * (k : Int) + 2)
        · rw [if_pos q] at x; exact absurd rfl x
        · rw [if_neg (by simpa using q)]
      · unfold tlF; rw [if_neg z, if_neg y]
        by_cases q : 0 < s (172 + 5 * (k : Int) + 2)
        · rw [if_pos (by simpa using q)]
        · rw [if_neg q] at x; omega
      · unfold tlF; rw [if_neg z, if_pos y, if_neg (by simp only [decide_eq_true_eq]; omega)]
      · unfold tlF; rw [if_neg z, if_pos y, if_pos (by simp only [decide_eq_true_eq]; omega)]
      · unfold tlF; rw [if_pos z, if_neg (by simp only [decide_eq_true_eq]; exact x)]
      · unfold tlF; rw [if_pos z, if_pos (by simp only [decide_eq_true_eq]; exact x)]
  exact loop 0 () (by omega) trivial
theorem c12_atHome {Q : Int → Mem → Prop} (hs : sd M = s) (k5 : 0 ≤ s 2) (k8 : s 2 ≤ 8) (h : Q (tlS s 0) M) : OkI G (n + 1) mX12_atHome [vO 0] M Q := by
  have g2 : M 0 26 2 = s 2 := by rw [← hs]; rfl
  refine eX12_atHome (fun Kx => bX12_atHome_0 ?_)
  have loop : ∀ (k : Nat) (u : Unit), k ≤ (s 2).toNat → True → CW G Kx mX12_atHome (n + 1) 4 [some (vO 0), some (vI (cb (tlF s 0) k)), some (vI (k : Int))] [] M (qI Q) := by
    refine up_ind (fun _ _ => ?_) (fun k _ hk _ ih => ?_)
    · refine bX12_atHome_4 ?_
      rw [g2]
      exact ⟨fun _ => h, fun z => absurd (by omega) z⟩
    · have hk' : (k : Int) < s 2 := by omega
      have hc := cb_rng (f := tlF s 0) k
      have ih' := ih () trivial
      rw [cb_s] at ih'
      refine bX12_atHome_4 ?_
      rw [g2, wr_n (b := 9) (k := k) (by omega) (by omega), wrs (x := cb (tlF s 0) k + 0) (by omega) (by omega), wrs (x := cb (tlF s 0) k + 1) (by omega) (by omega)]
      refine ⟨fun z => absurd z (by omega), fun _ => c12_personOf (by omega) (by omega) (by decide) (by decide) (c12_personOf (by omega) (by omega) (by decide) (by decide) ?_)⟩
      rw [hs]
      refine ⟨fun x => ?_, fun x => ?_⟩
      · rw [if_neg (by unfold tlF; simp only [if_pos, decide_eq_true_eq]; exact x)] at ih'; exact ih'
      · rw [if_pos (by unfold tlF; simp only [if_pos, decide_eq_true_eq]; exact x)] at ih'; exact ih'
  exact loop 0 () (by omega) trivial
theorem c12_onTheWay {Q : Int → Mem → Prop} (hs : sd M = s) (k5 : 0 ≤ s 2) (k8 : s 2 ≤ 8) (h : Q (tlS s 1) M) : OkI G (n + 1) mX12_onTheWay [vO 0] M Q := by
  have g2 : M 0 26 2 = s 2 := by rw [← hs]; rfl
  refine eX12_onTheWay (fun Kx => bX12_onTheWay_0 ?_)
  have loop : ∀ (k : Nat) (u : Unit), k ≤ (s 2).toNat → True → CW G Kx mX12_onTheWay (n + 1) 4 [some (vO 0), some (vI (cb (tlF s 1) k)), some (vI (k : Int))] [] M (qI Q) := by
    refine up_ind (fun _ _ => ?_) (fun k _ hk _ ih => ?_)
    · refine bX12_onTheWay_4 ?_
      rw [g2]
      exact ⟨fun _ => h, fun z => absurd (by omega) z⟩
    · have hk' : (k : Int) < s 2 := by omega
      have hc := cb_rng (f := tlF s 1) k
      have ih' := ih () trivial
      rw [cb_s] at ih'
      have e1 : tlF s 1 (k : Int) = decide (s (172 + 5 * (k : Int) + 0) < 0) := rfl
      rw [e1] at ih'
      refine bX12_onTheWay_4 ?_
      rw [g2, wr_n (b := 9) (k := k) (by omega) (by omega), wrs (x := cb (tlF s 1) k + 0) (by omega) (by omega), wrs (x := cb (tlF s 1) k + 1) (by omega) (by omega)]
      refine ⟨fun z => absurd z (by omega), fun _ => c12_personOf (by omega) (by omega) (by decide) (by decide) ?_⟩
      rw [hs]
      refine ⟨fun x => ?_, fun x => ?_⟩
      · rw [if_neg (by simp only [decide_eq_true_eq]; omega)] at ih'; exact ih'
      · rw [if_pos (by simp only [decide_eq_true_eq]; omega)] at ih'; exact ih'
  exact loop 0 () (by omega) trivial
theorem c12_haveRidden {Q : Int → Mem → Prop} (hs : sd M = s) (k5 : 0 ≤ s 2) (k8 : s 2 ≤ 8) (h : Q (tlS s 2) M) : OkI G (n + 2) mX12_haveRidden [vO 0] M Q := by
  have g2 : M 0 26 2 = s 2 := by rw [← hs]; rfl
  refine eX12_haveRidden (fun Kx => bX12_haveRidden_0 ?_)
  have loop : ∀ (k : Nat) (u : Unit), k ≤ (s 2).toNat → True → CW G Kx mX12_haveRidden (n + 2) 4 [some (vO 0), some (vI (cb (tlF s 2) k)), some (vI (k : Int))] [] M (qI Q) := by
    refine up_ind (fun _ _ => ?_) (fun k _ hk _ ih => ?_)
    · refine bX12_haveRidden_4 ?_
      rw [g2]
      exact ⟨fun _ => h, fun z => absurd (by omega) z⟩
    · have hk' : (k : Int) < s 2 := by omega
      have hc := cb_rng (f := tlF s 2) k
      have ih' := ih () trivial
      rw [cb_s] at ih'
      have e1 : tlF s 2 (k : Int) = decide (0 < s (172 + 5 * (k : Int) + 2)) := rfl
      rw [e1] at ih'
      refine bX12_haveRidden_4 ?_
      rw [g2, wr_n (b := 9) (k := k) (by omega) (by omega), wrs (x := cb (tlF s 2) k + 0) (by omega) (by omega), wrs (x := cb (tlF s 2) k + 1) (by omega) (by omega)]
      refine ⟨fun z => absurd z (by omega), fun _ => c12_ridden (by omega) (by omega) (fun x => ⟨fun z => absurd z (by decide), fun _ => ?_⟩) (fun x => ⟨fun _ => ?_, fun z => absurd rfl z⟩)⟩
      · rw [hs] at x; rw [if_pos (by simp only [decide_eq_true_eq]; exact x)] at ih'; exact ih'
      · rw [hs] at x; rw [if_neg (by simp only [decide_eq_true_eq]; exact x)] at ih'; exact ih'
  exact loop 0 () (by omega) trivial
theorem c12_keeps {Q : Mem → Prop} (h : ∀ M', EqX [(0, 27)] M M' → (∀ i, i < 328 → M' 0 27 i = M 0 26 i) → Q M') : OkV G n mX12_keeps [vO 0] M Q := by
  refine eX12_keeps (fun Kx => bX12_keeps_0 ?_)
  have loop : ∀ (k : Nat) (Mc : Mem), k ≤ 328 → (EqX [(0, 27)] M Mc ∧ ∀ i, i < k → Mc 0 27 i = M 0 26 i) → CW G Kx mX12_keeps n 2 [some (vO 0), some (vI (k : Int))] [] Mc (qV Q) := by
    refine up_ind (fun Mc i => ?_) (fun k Mc hk i ih => ?_)
    · exact bX12_keeps_2 ⟨fun _ => h Mc i.1 i.2, fun z => absurd (by decide) z⟩
    · refine bX12_keeps_2 ?_
      rw [wr_n (b := 329) (k := k) (by omega) (by omega), Int.toNat_natCast]
      refine ⟨fun z => absurd z (by omega), fun _ => ⟨⟨by omega, by omega⟩, ⟨by omega, by omega⟩, fun M1 m1 => ih M1 ⟨?_, fun j hj => ?_⟩⟩⟩
      · rw [m1]; exact i.1.trans (EqX.mset (by decide))
      · rw [m1, mset_fn, i.1 0 26 k (by decide)]
        by_cases e : j = k
        · rw [if_pos e, e]
        · rw [if_neg e]; exact i.2 j (by omega)
  exact loop 0 M (by omega) ⟨EqX.rf, fun i hi => absurd hi (by omega)⟩
theorem c12_putsBack {Q : Mem → Prop} (h : ∀ M', EqX [(0, 26)] M M' → (∀ i, i < 328 → M' 0 26 i = M 0 27 i) → (∀ i, 328 ≤ i → M' 0 26 i = M 0 26 i) → Q M') : OkV G n mX12_putsBack [vO 0] M Q := by
  refine eX12_putsBack (fun Kx => bX12_putsBack_0 ?_)
  have loop : ∀ (k : Nat) (Mc : Mem), k ≤ 328 → (EqX [(0, 26)] M Mc ∧ (∀ i, i < k → Mc 0 26 i = M 0 27 i) ∧ ∀ i, k ≤ i → Mc 0 26 i = M 0 26 i) → CW G Kx mX12_putsBack n 2 [some (vO 0), some (vI (k : Int))] [] Mc (qV Q) := by
    refine up_ind (fun Mc i => ?_) (fun k Mc hk i ih => ?_)
    · exact bX12_putsBack_2 ⟨fun _ => h Mc i.1 i.2.1 i.2.2, fun z => absurd (by decide) z⟩
    · refine bX12_putsBack_2 ?_
      rw [wr_n (b := 329) (k := k) (by omega) (by omega), Int.toNat_natCast]
      refine ⟨fun z => absurd z (by omega), fun _ => ⟨⟨by omega, by omega⟩, ⟨by omega, by omega⟩, fun M1 m1 => ih M1 ⟨?_, fun j hj => ?_, fun j hj => ?_⟩⟩⟩
      · rw [m1]; exact i.1.trans (EqX.mset (by decide))
      · rw [m1, mset_fn, i.1 0 27 k (by decide)]
        by_cases e : j = k
        · rw [if_pos e, e]
        · rw [if_neg e]; exact i.2.1 j (by omega)
      · rw [m1, mset_fn, if_neg (by omega)]; exact i.2.2 j (by omega)
  exact loop 0 M (by omega) ⟨EqX.rf, fun i hi => absurd hi (by omega), fun _ _ => rfl⟩
def AhP (M M2 : Mem) : Prop := (∀ o k i, o ≠ 8 → ¬ (15 ≤ o ∧ o < 21) → (o, k) ∉ ([(0, 23), (0, 24), (0, 25), (0, 27)] : List (Nat × Nat)) → M2 o k i = M o k i) ∧ RuAll M2
theorem top_of (H : HR (M 4) (sd M)) (K : HOK (sd M)) : 0 < sd M 2 → isTop (sd M) (M 4 3 0) := fun q => H.2.2.2.2.2.2.2.2.2 (by
    apply Classical.byContradiction
    intro z
    have := K.2.2.2.2.2.2.1 (by have := K.1; omega)
    omega)
/-- the reference's end of ahead and drawn -/
theorem ah_end {M1 Mk Mc M2 : Mem} {k : Nat} {r : Int → Int} (R : RuAll M) (hk : k < 6) (q2 : RuC ρ (M (15 + k))) (i1 : EqO2 8 (15 + k) M M1) (i2 : RuC ρ (M1 (15 + k))) (k1 : EqX [(0, 27)] M1 Mk) (k2 : ∀ i, i < 328 → Mk 0 27 i = M1 0 26 i) (j1 : EqX dyF Mk Mc) (j2 : sd Mc = r) (hr : DX (sd M) r) (b1 : EqX [(0, 26)] Mc M2) (b2 : ∀ i, i < 328 → M2 0 26 i = Mc 0 27 i) (b3 : ∀ i, 328 ≤ i → M2 0 26 i = Mc 0 26 i) : AhP M M2 := by
  have o0 : M1 0 = M 0 := i1 0 (by decide) (by omega)
  have hE : EqX [(0, 23), (0, 24), (0, 25), (0, 26), (0, 27)] M1 M2 := ((k1.sub (by decide)).trans (j1.sub (by decide))).trans (b1.sub (by decide))
  have z0 : ∀ a, 0 < a → M2 a = M1 a := fun a ha => hE.obj (by
    intro c hc
    have : c.1 = 0 := by
      rcases List.mem_cons.mp hc with e | hc
      · rw [e]
      rcases List.mem_cons.mp hc with e | hc
      · rw [e]
      rcases List.mem_cons.mp hc with e | hc
      · rw [e]
      rcases List.mem_cons.mp hc with e | hc
      · rw [e]
      rcases List.mem_cons.mp hc with e | hc
      · rw [e]
      cases hc
    omega)
  have e26 : ∀ i, M2 0 26 i = M 0 26 i := by
    intro i
    by_cases q : i < 328
    · rw [b2 i q, j1 0 27 i (by decide), k2 i q, o0]
    · rw [b3 i (by omega)]
      have e1 : sd Mc (i : Int) = r (i : Int) := by rw [j2]
      rw [hr (i : Int) (by omega) (by omega) (by omega)] at e1
      have e2 : Mc 0 26 ((i : Int).toNat) = M 0 26 ((i : Int).toNat) := e1
      rw [Int.toNat_natCast] at e2
      exact e2
  refine ⟨fun o q i p1 p2 p3 => ?_, ?_⟩
  · by_cases e : (o, q) = (0, 26)
    · cases e; exact e26 i
    · by_cases oo : o = 0
      · subst oo
        rw [hE 0 q i (fun z => ?_), o0]
        rcases List.mem_cons.mp z with z | z
        · exact p3 (by rw [z]; decide)
        rcases List.mem_cons.mp z with z | z
        · exact p3 (by rw [z]; decide)
        rcases List.mem_cons.mp z with z | z
        · exact p3 (by rw [z]; decide)
        rcases List.mem_cons.mp z with z | z
        · exact e z
        exact p3 (by rw [List.mem_singleton.mp z]; decide)
      · rw [z0 o (by omega), i1 o p1 (by omega)]
  · refine RuAll_cg (ρ := ρ) (k0 := k) R ?_ ?_ ?_ ?_ ?_ ?_ (fun k' hk' ne => ?_) (fun _ => by rw [z0 _ (by omega)]; exact i2) q2
    · rw [z0 1 (by decide), i1 1 (by decide) (by omega)]
    · rw [z0 1 (by decide), i1 1 (by decide) (by omega)]
    · rw [hE.fld (by decide), o0]
    · rw [hE.fld (by decide), o0]
    · rw [hE.fld (by decide), o0]
    · rw [hE.fld (by decide), o0]
    · rw [z0 _ (by omega), i1 (15 + k') (by omega) (by omega)]
theorem both_ahead {x1 x2 : Int} {P : Int → Int → Mem → Prop} (H : HR (M 4) (sd M)) (K : HOK (sd M)) (D : DR (M 5) (sd M)) (D2 : DOK2 (sd M)) (R : RuAll M) (h : ∀ r M2, AhP M M2 → P r r M2) : OkI G (n + 6) mX11_ahead [vO 1, vI x1, vI x2] M (fun r1 M1 => OkI G (n + 6) mX12_ahead [vO 0, vI x1, vI x2] M1 (fun r2 M2 => P r1 r2 M2)) := by
  have hM : AhP M M := ⟨fun _ _ _ _ _ _ => rfl, R⟩
  have d1 := D2.1.1
  have d2 := D2.1.2.1
  have k5 := K.2.2.2.2.1
  have k8 := K.2.2.2.2.2.1
  have htop := top_of H K
  have no : ¬ (0 ≤ x1 ∧ x1 < M 0 2 0 ∧ 0 ≤ x2 ∧ x2 ≤ 2) → OkI G (n + 6) mX12_ahead [vO 0, vI x1, vI x2] M (fun r2 M2 => P (-1) r2 M2) := by
    intro z
    exact eX12_ahead (fun Kz => bX12_ahead_0 (c12_isRule (fun a b => ⟨fun w => absurd w (by decide), fun _ => c12_in (fun c d => absurd ⟨a, b, c, d⟩ z) (fun c => ⟨fun w => absurd rfl w, fun _ => h _ M hM⟩)⟩) (fun a => ⟨fun _ => h _ M hM, fun w => absurd rfl w⟩)))
  refine eX11_ahead (fun Kx => bX11_ahead_0 (c11_ruleTold R (fun k hx hk hk2 => ⟨fun w => absurd w (by simp), fun c hc => ?_⟩) (fun a => ⟨fun _ => no (fun z => a ⟨z.1, z.2.1⟩), fun c hc => absurd hc (by simp)⟩)))
  refine ⟨fun w => no (by omega), fun a => ⟨fun d => ?_, fun w => no (by omega)⟩⟩
  obtain ⟨r1, r2, r3, r4⟩ := id R
  obtain ⟨q1, ρ, q2, q3, q4⟩ := r4 k hk2
  refine c0_copyFrom (d := 8) (e := 5) rfl rfl (by decide) (fun Ma ma => ?_)
  have Da := DR_cp ma k8 D
  have a0 : Ma 0 = M 0 := ma.1 0 (by decide)
  have a4 : Ma 4 = M 4 := ma.1 4 (by decide)
  have ak : Ma (15 + k) = M (15 + k) := ma.1 _ (by omega)
  have hN : sd M 3 + (((1440 - sd M 3).toNat : Nat) : Int) ≤ 1440 := by omega
  have eN : 1440 - sd M 3 = (((1440 - sd M 3).toNat : Nat) : Int) := by omega
  rw [show Ma 8 0 0 = sd M 3 from Da.1, wrs (x := 1440 - sd M 3) (by omega) (by omega), eN]
  generalize hNN : (1440 - sd M 3).toNat = N at *
  refine c0_pass (o := 15 + k) (d := 8) (oc_rule hk) rfl (by rw [a4]; exact H) K Da D2 htop hN (by rw [ak]; exact q2) q4 (fun M1 i1 i2 i3 => ?_)
  obtain ⟨a1, a2, a3⟩ := mnI_ok (ρ := ρ) K D2 htop N hN
  have hE1 : EqO2 8 (15 + k) M M1 := (EqO.two ma.1).trans i1
  have o0 : M1 0 = M 0 := hE1 0 (by decide) (by omega)
  have o4 : M1 4 = M 4 := hE1 4 (by decide) (by omega)
  refine c0_tally (s := mnI ρ (sd M) N) rfl (by rw [o4]; exact a2.he.hr K H) (a2.he.ok K) i3 a1.1 (by omega) d ?_
  have hs1 : sd M1 = sd M := by funext i; show M1 0 26 _ = M 0 26 _; rw [o0]
  have hR1 : RuM ρ M1 k := by unfold RuM; rw [o0]; exact q3
  refine eX12_ahead (fun Kz => bX12_ahead_0 (c12_isRule (fun u v => ⟨fun w => absurd w (by decide), fun _ => c12_in (fun u1 v1 => ⟨fun _ => ?_, fun w => absurd w (by decide)⟩) (fun c => absurd ⟨by omega, by omega⟩ c)⟩) (fun c => absurd ⟨by omega, by rw [o0]; omega⟩ c)))
  refine c12_keeps (fun Mk m1 m2 => ?_)
  have hsk : sd Mk = sd M := (m1.sd (by decide)).trans hs1
  have hRk : RuM ρ Mk k := by
    unfold RuM
    rw [m1.fld (o := 0) (k := 3) (by decide), m1.fld (o := 0) (k := 5) (by decide), m1.fld (o := 0) (k := 6) (by decide)]; exact hR1
  have loop : ∀ (j : Nat) (Mc : Mem), j ≤ N → (EqX dyF Mk Mc ∧ sd Mc = mnI ρ (sd M) j) → CW G Kz mX12_ahead (n + 6) 26 [some (vO 0), some (vI x1), some (vI x2), none] [] Mc (qI (fun r2 M2 => P (tlS (mnI ρ (sd M) N) x2) r2 M2)) := by
    refine up_ind (fun Mc i => ?_) (fun j Mc hj i ih => ?_)
    · obtain ⟨j1, j2⟩ := i
      have g3 : Mc 0 26 3 = sd M 3 + (N : Int) := by
        have : sd Mc 3 = mnI ρ (sd M) N 3 := by rw [j2]
        rw [a3] at this; exact this
      have fin : OkV G (n + 5) mX12_putsBack [vO 0] Mc (fun M2 => P (tlS (mnI ρ (sd M) N) x2) (tlS (mnI ρ (sd M) N) x2) M2) := c12_putsBack (fun M2 b1 b2 b3 => h _ M2 (ah_end (r := mnI ρ (sd M) N) R hk q2 hE1 i2 m1 m2 j1 j2 a2 b1 b2 b3))
      have e2 := a2.e2
      refine bX12_ahead_26 ?_
      rw [g3]
      refine ⟨fun _ => ⟨fun z => ⟨fun y => ?_, fun y => ?_⟩, fun z => ?_⟩, fun z => absurd (by omega) z⟩
      · have e : x2 = 2 := by omega
        rw [e] at fin ⊢
        exact c12_haveRidden j2 (by omega) (by omega) fin
      · rw [y] at fin ⊢
        exact c12_onTheWay j2 (by omega) (by omega) fin
      · rw [z] at fin ⊢
        exact c12_atHome j2 (by omega) (by omega) fin
    · obtain ⟨j1, j2⟩ := i
      obtain ⟨b1, b2, b3⟩ := mnI_ok (ρ := ρ) K D2 htop j (by omega)
      have g3 : Mc 0 26 3 = sd M 3 + (j : Int) := by
        have : sd Mc 3 = mnI ρ (sd M) j 3 := by rw [j2]
        rw [b3] at this; exact this
      refine bX12_ahead_26 ?_
      rw [g3]
      refine ⟨fun z => absurd z (by omega), fun _ => ?_⟩
      rw [hx]
      refine c12_minute hk j2 (b2.he.ok K) b1 (by omega) (fun q => b2.top K (htop (by rw [b2.e2] at q; exact q))) (RuM_cg hRk j1) q4 (fun M3 p1 p2 => ?_)
      rw [← hx]
      exact ih M3 ⟨j1.trans p1, p2⟩
  exact loop 0 Mk (by omega) ⟨EqX.rf, hsk⟩
end AHD
