section RDM
variable {G : Gx} {n : Nat} {M : Mem} {s : Int → Int}
theorem c12_nx {Q : Int → Mem → Prop} {A : Int → Int} (hs : sd M = s) (LO : LOK s) (hA : ∀ j : Int, 0 ≤ j → j < s 9 → M 0 41 j.toNat = A j) (h : Q (nxr s A (s 9).toNat) M) : OkI G n mX12_nextRider [vO 0] M Q := by
  have h9 := LO.2.2.1
  have e9 : M 0 26 9 = s 9 := by rw [← hs]; rfl
  have e2 : ∀ j : Int, M 0 26 (288 + j).toNat = s (288 + j) := fun j => by rw [← hs]; rfl
  refine eX12_nextRider (fun K => bX12_nextRider_0 ?_)
  have loop : ∀ (k : Nat) (_ : Unit), k ≤ (s 9).toNat → True → CW G K mX12_nextRider n 4 [some (vO 0), some (vI (nxr s A k)), some (vI (k : Int))] [] M (qI Q) := by
    refine up_ind (fun _ _ => ?_) (fun k _ hk _ ih => ?_)
    · refine bX12_nextRider_4 ?_
      rw [e9]
      exact ⟨fun _ => h, fun z => absurd (by omega) z⟩
    · have hk' : (k : Int) < s 9 := by omega
      have kb : (0 : Int) ≤ k ∧ (k : Int) < 20 := ⟨by omega, by omega⟩
      have ih' := ih () trivial
      unfold nxr at ih'
      refine bX12_nextRider_4 ?_
      rw [e9, hA (k : Int) kb.1 hk', wr_n hk' (by omega)]
      refine ⟨fun z => absurd z (by omega), fun _ => ⟨kb, fun a => ?_, fun a => ⟨fun b => ?_, fun b => ?_⟩⟩⟩
      · rw [if_neg a] at ih'; exact ih'
      · rw [if_pos a, if_pos (by have := nxr_in (s := s) (A := A) k; omega)] at ih'; exact ih'
      · rw [if_pos a, if_neg (by omega)] at ih'
        have z : 0 ≤ nxr s A k ∧ nxr s A k < (k : Int) := by have := nxr_in (s := s) (A := A) k; omega
        rw [wrs (x := 288 + (k : Int)) (by omega) (by omega), wrs (x := 288 + nxr s A k) (by omega) (by omega), e2, e2]
        refine ⟨⟨by omega, by omega⟩, ⟨by omega, by omega⟩, fun c => ?_, fun c => ?_⟩
        · rw [if_pos c] at ih'; exact ih'
        · rw [if_neg c] at ih'; exact ih'
  exact loop 0 () (by omega) trivial
theorem c12_ri {Q : Int → Mem → Prop} {A : Int → Int} {d : Int} (hs : sd M = s) (LO : LOK s) (hA : ∀ j : Int, 0 ≤ j → j < s 9 → M 0 41 j.toNat = A j) (h : Q (cA s A d) M) : OkI G n mX12_ridesIn [vO 0, vI d] M Q := by
  have h9 := LO.2.2.1
  have e9 : M 0 26 9 = s 9 := by rw [← hs]; rfl
  refine eX12_ridesIn (fun K => bX12_ridesIn_0 ?_)
  have loop : ∀ (k : Nat) (_ : Unit), k ≤ (s 9).toNat → True → CW G K mX12_ridesIn n 4 [some (vO 0), some (vI d), some (vI (cb (fun j => decide (A j = d)) k)), some (vI (k : Int))] [] M (qI Q) := by
    refine up_ind (fun _ _ => ?_) (fun k _ hk _ ih => ?_)
    · refine bX12_ridesIn_4 ?_
      rw [e9]
      exact ⟨fun _ => h, fun z => absurd (by omega) z⟩
    · have hk' : (k : Int) < s 9 := by omega
      have kb : (0 : Int) ≤ k ∧ (k : Int) < 20 := ⟨by omega, by omega⟩
      have ih' := ih () trivial
      unfold cb at ih'
      have cr := cb_rng (f := fun j => decide (A j = d)) k
      refine bX12_ridesIn_4 ?_
      rw [e9, hA (k : Int) kb.1 hk', wr_n hk' (by omega), wrs (x := cb (fun j => decide (A j = d)) k + 0) (by omega) (by omega), wrs (x := cb (fun j => decide (A j = d)) k + 1) (by omega) (by omega)]
      refine ⟨fun z => absurd z (by omega), fun _ => ⟨kb, fun a => ?_, fun a => ?_⟩⟩
      · rw [if_neg (by simpa using a)] at ih'; exact ih'
      · rw [if_pos (by simpa using a)] at ih'; exact ih'
  exact loop 0 () (by omega) trivial
theorem isMx_set {A : Int → Int} {v k m : Int} (h9 : k < s 9) (h0 : 0 ≤ k) (hA : A k = -1) (hm : 0 ≤ m) (h : isMx s A v (s 9)) : isMx s (setA A k m) (if 1439 < m then v else if v ≤ m - s (288 + k) then m - s (288 + k) else v) (s 9) := by
  obtain ⟨h1, h2, h3⟩ := h
  have hk : setA A k m k = m := by unfold setA; rw [if_pos rfl]
  have hne : ∀ j, j ≠ k → setA A k m j = A j := fun j hj => by unfold setA; rw [if_neg hj]
  refine ⟨fun j j1 j2 j3 j4 => ?_, ?_, ?_⟩
  · by_cases e : j = k
    · rw [e, hk] at j4 ⊢
      rw [if_neg (by omega)]; split <;> omega
    · rw [hne j e] at j3 j4 ⊢
      have := h1 j j1 j2 j3 j4
      split
      · exact this
      · split <;> omega
  · split
    · exact h2
    · split <;> omega
  · have old : (v = -2 ∨ ∃ j, 0 ≤ j ∧ j < s 9 ∧ ¬ setA A k m j = -1 ∧ setA A k m j ≤ 1439 ∧ v = setA A k m j - s (288 + j)) := by
      rcases h3 with z | ⟨j, j1, j2, j3, j4, j5⟩
      · exact Or.inl z
      · have e : j ≠ k := fun z => j3 (by rw [z]; exact hA)
        exact Or.inr ⟨j, j1, j2, by rw [hne j e]; exact j3, by rw [hne j e]; exact j4, by rw [hne j e]; exact j5⟩
    split
    · exact old
    · rename_i c
      split
      · exact Or.inr ⟨k, h0, h9, by rw [hk]; omega, by rw [hk]; omega, by rw [hk]⟩
      · exact old
theorem c12_rides {x : Int} {P : Int → Mem → Prop} (K : HOK (sd M)) (LO : LOK (sd M)) (p1 : ¬ (sd M 4 ≠ 0 ∧ 0 ≤ x ∧ x ≤ 20 ∧ (x < 20 → x < sd M 9)) → P (-1) M) (p2 : sd M 4 ≠ 0 → 0 ≤ x → x ≤ 20 → (x < 20 → x < sd M 9) → ∀ M2 : Mem, EqX [(0, 41)] M M2 → (x < 20 → P (cvt ((prS (sd M) (sd M 9).toNat).1 x)) M2) ∧ (x = 20 → ∀ v, isMx (sd M) (prS (sd M) (sd M 9).toNat).1 v (sd M 9) → P v M2)) : OkI G (n + 1) mX12_rides [vO 0, vI x] M P := by
  have h9 := LO.2.2.1
  have hh := K.hoist
  refine eX12_rides (fun Kx => bX12_rides_0 ⟨fun a => p1 (fun z => z.1 a), fun a => c12_in (fun b c => ⟨fun z => absurd z (by decide), fun _ => ?_⟩) (fun b => ⟨fun _ => p1 (by omega), fun z => absurd rfl z⟩)⟩)
  have main : (x < 20 → x < sd M 9) → CW G Kx mX12_rides (n + 1) 42 [some (vO 0), some (vI x), some (vI 0), none, none, none] [] M (qI P) := by
    intro d
    have a4 : sd M 4 ≠ 0 := a
    have q2 := p2 a b c d
    have h6 : 1 ≤ sd M 6 := by omega
    have h6' : sd M 6 ≤ 120 := by omega
    have h5 : 1 ≤ sd M 5 := by omega
    have h5' : sd M 5 ≤ 9 := by omega
    clear p1 p2
    generalize hs : sd M = s at *
    have rides : ∀ (k : Nat) (a : Int × Mem), k ≤ (s 9).toNat → (EqX [(0, 41)] M a.2 ∧ (∀ j : Int, 0 ≤ j → j < s 9 → a.2 0 41 j.toNat = (prS s k).1 j) ∧ isMx s (prS s k).1 a.1 (s 9)) → CW G Kx mX12_rides (n + 1) 71 [some (vO 0), some (vI x), some (vI a.1), some (vI (k : Int)), none, none] [] a.2 (qI P) := by
      refine up_ind (fun a i => ?_) (fun k a hk i ih => ?_)
      · obtain ⟨v, Mc⟩ := a
        obtain ⟨i1, i2, i3⟩ := i
        dsimp only at i1 i2 i3 ⊢
        have e9 : Mc 0 26 9 = s 9 := by rw [← hs]; exact sd_eq i1 (by decide) 9
        refine bX12_rides_71 ?_
        rw [e9]
        refine ⟨fun _ => ⟨fun y => ?_, fun y => (q2 Mc i1).2 y v i3⟩, fun z => absurd (by omega) z⟩
        have xb : 0 ≤ x ∧ x < 20 := ⟨b, by omega⟩
        have qq := (q2 Mc i1).1 (by omega)
        rw [i2 x b (d (by omega))]
        unfold cvt at qq
        refine ⟨xb, fun z => ⟨xb, ?_⟩, fun z => ?_⟩
        · rw [if_pos z] at qq; exact qq
        · rw [if_neg z] at qq; exact qq
      · obtain ⟨v, Mc⟩ := a
        obtain ⟨i1, i2, i3⟩ := i
        dsimp only at i1 i2 i3 ⊢
        have es : sd Mc = s := by rw [← hs]; exact DR4 i1 (by decide)
        have e9 : Mc 0 26 9 = s 9 := by rw [← es]; rfl
        have e6 : Mc 0 26 6 = s 6 := by rw [← es]; rfl
        have e2 : ∀ j : Int, Mc 0 26 (288 + j).toNat = s (288 + j) := fun j => by rw [← es]; rfl
        have hk' : (k : Int) < s 9 := by omega
        have hPI := prS_PI LO h6 h6' h5 k (by omega)
        have hPn := prS_PI LO h6 h6' h5 (k + 1) (by omega)
        have hnx := PI_nx hPI hk
        have hA1 : (prS s (k + 1)).1 = setA (prS s k).1 (nxr s (prS s k).1 (s 9).toNat) (mR s (prS s k).2.1 (prS s k).2.2.1 (nxr s (prS s k).1 (s 9).toNat)) := rfl
        have hA2 : (prS s (k + 1)).2.1 = mR s (prS s k).2.1 (prS s k).2.2.1 (nxr s (prS s k).1 (s 9).toNat) := rfl
        rw [hA1] at ih
        have hb7 : mR s (prS s k).2.1 (prS s k).2.2.1 (nxr s (prS s k).1 (s 9).toNat) ≤ 1558 + 120 * ((k + 1 : Nat) : Int) := by rw [← hA2]; exact hPn.2.2.2.2.2.2
        clear hA1 hA2 hPn
        have hin := nxr_in (s := s) (A := (prS s k).1) (s 9).toNat
        have hww := nxr_w (s := s) (A := (prS s k).1) hnx
        generalize prS s k = pk at *
        obtain ⟨A, L0, c0, μ⟩ := pk
        dsimp only at *
        generalize hx : nxr s A (s 9).toNat = y at *
        have xb : 0 ≤ y ∧ y < s 9 := by omega
        have x20 : 0 ≤ y ∧ y < 20 := ⟨xb.1, by omega⟩
        refine bX12_rides_71 ?_
        rw [e9]
        refine ⟨fun z => absurd z (by omega), fun _ => ?_⟩
        refine c12_nx (A := A) es LO i2 ?_
        rw [hx, wrs (x := 288 + y) (by omega) (by omega), e2, e6]
        have hmn := LO.rid xb.1 xb.2
        have hg := hoM_le (s := s) hmn.1 h6
        have ehm : wr (wr (Int.tdiv (wr (wr (s (288 + y) + s 6) - 1)) (s 6)) * s 6) = hoM s (s (288 + y)) := by
          have e1 : wr (wr (s (288 + y) + s 6) - 1) = s (288 + y) + s 6 - 1 := by unfold wr; omega
          have e2 : Int.tdiv (s (288 + y) + s 6 - 1) (s 6) = (s (288 + y) + s 6 - 1) / s 6 := Int.tdiv_eq_ediv_of_nonneg (by omega)
          have e3 : 0 ≤ (s (288 + y) + s 6 - 1) / s 6 := Int.ediv_nonneg (by omega) (by omega)
          have e4 : (s (288 + y) + s 6 - 1) / s 6 ≤ s (288 + y) + s 6 - 1 := Int.ediv_le_self _ (by omega)
          have e5 : wr (Int.tdiv (wr (wr (s (288 + y) + s 6) - 1)) (s 6)) = Int.tdiv (s (288 + y) + s 6 - 1) (s 6) := by rw [e1, e2]; exact wrs (by omega) (by omega)
          rw [e5]; exact wrs (by unfold hoM at hg; omega) (by unfold hoM at hg; omega)
        rw [ehm]
        clear ehm
        refine ⟨⟨by omega, by omega⟩, by omega, ?_⟩
        have hm : mR s L0 c0 y = if hoM s (s (288 + y)) ≤ L0 then (if c0 < s 5 then L0 else L0 + s 6) else hoM s (s (288 + y)) := rfl
        have hmge := mR_ge (s := s) (L := L0) (c := c0) (k := y) (by omega)
        have hmge2 : hoM s (s (288 + y)) ≤ mR s L0 c0 y := by rw [hm]; split <;> (try split) <;> omega
        obtain ⟨q1, q2, q3, q4, q5, q6, q7⟩ := hPI
        have hmono := hoM_mono (s := s) (q2 y xb.1 xb.2 hww) q3 h6
        have hcz : ∀ d, L0 < d → cA s A d = 0 := fun d hd => cb_zero _ (fun i i1 i2 => decide_eq_false (by have := q5 i i1 (by omega); omega))
        have hmq : ∃ p, mR s L0 c0 y = p * s 6 := by
          rw [hm]
          split
          · rcases q4 with ⟨z, -⟩ | ⟨-, ⟨q, hq⟩, -⟩
            · omega
            · split
              · exact ⟨q, hq⟩
              · exact ⟨q + 1, by rw [Int.add_mul, Int.one_mul]; omega⟩
          · exact hoM_q
        have hfull : ∀ p, hoM s (s (288 + y)) ≤ p * s 6 → p * s 6 < mR s L0 c0 y → cA s A (p * s 6) = s 5 := by
          intro p g1 g2
          by_cases w : hoM s (s (288 + y)) ≤ L0
          · rw [hm, if_pos w] at g2
            by_cases w2 : c0 < s 5
            · rw [if_pos w2] at g2
              exact q6 p (by omega) g2
            · rw [if_neg w2] at g2
              rcases q4 with ⟨z, -⟩ | ⟨z1, ⟨r, z2⟩, z3, z4, z5⟩
              · omega
              · by_cases w3 : p * s 6 < L0
                · exact q6 p (by omega) w3
                · have : p * s 6 = L0 := by
                    rcases Int.lt_trichotomy (p * s 6) L0 with u | u | u
                    · omega
                    · exact u
                    · rw [z2] at u
                      have := mul_gap h6 u
                      omega
                  rw [this, z5]; omega
          · rw [hm, if_neg w] at g2; omega
        have hnf : ¬ cA s A (mR s L0 c0 y) = s 5 := by
          by_cases w : mR s L0 c0 y = L0
          · rcases q4 with ⟨z, -⟩ | ⟨z1, -, z3, z4, z5⟩
            · omega
            · rw [w, z5]
              rw [hm] at w
              by_cases w1 : hoM s (s (288 + y)) ≤ L0
              · rw [if_pos w1] at w
                by_cases w2 : c0 < s 5
                · omega
                · rw [if_neg w2] at w; omega
              · rw [if_neg w1] at w; omega
          · rw [hcz _ (by omega)]; omega
        clear q4
        obtain ⟨p, hp⟩ := hmq
        obtain ⟨p0, hp0⟩ := hoM_q (s := s) (x := s (288 + y))
        have ih' : ∀ (v' : Int) (M' : Mem), EqX [(0, 41)] M M' → (∀ j : Int, 0 ≤ j → j < s 9 → M' 0 41 j.toNat = setA A y (mR s L0 c0 y) j) → isMx s (setA A y (mR s L0 c0 y)) v' (s 9) → CW G Kx mX12_rides (n + 1) 71 [some (vO 0), some (vI x), some (vI v'), some (vI ((k + 1 : Nat) : Int)), none, none] [] M' (qI P) := fun v' M' g1 g2 g3 => ih (v', M') ⟨g1, g2, g3⟩
        clear ih
        have walk : ∀ (f : Nat) (g : Int), p - g ≤ (f : Int) → p0 ≤ g → g ≤ p → CW G Kx mX12_rides (n + 1) 127 [some (vO 0), some (vI x), some (vI v), some (vI (k : Int)), some (vI y), some (vI (g * s 6))] [] Mc (qI P) := by
          intro f
          have leaf : CW G Kx mX12_rides (n + 1) 127 [some (vO 0), some (vI x), some (vI v), some (vI (k : Int)), some (vI y), some (vI (p * s 6))] [] Mc (qI P) := by
            refine bX12_rides_127 (c12_ri (A := A) es LO i2 ?_)
            rw [← hp]
            have e5 : Mc 0 26 5 = s 5 := by rw [← es]; rfl
            rw [e5]
            refine ⟨fun _ => ⟨x20, fun M2 em => ?_⟩, fun z => absurd z hnf⟩
            have hE : EqX [(0, 41)] M M2 := by rw [em]; exact i1.trans (EqX.mset (by decide))
            have hT : ∀ j : Int, 0 ≤ j → j < s 9 → M2 0 41 j.toNat = setA A y (mR s L0 c0 y) j := by
              intro j j1 j2
              unfold setA
              by_cases e : j = y
              · rw [if_pos e, em, e, mset_self]
              · rw [if_neg e, em, mset_ne (fun w => e (by have := w.2.2; omega))]; exact i2 j j1 j2
            have hx2 := isMx_set (m := mR s L0 c0 y) xb.2 xb.1 hww (by omega) i3
            rw [wr_n hk' (by omega)]
            refine ⟨fun z => ?_, fun z => ?_⟩
            · rw [if_pos z] at hx2; exact ih' v M2 hE hT hx2
            · rw [if_neg z] at hx2
              rw [wrs (x := 288 + y) (by omega) (by omega)]
              have e2' : M2 0 26 (288 + y).toNat = s (288 + y) := by rw [← hs]; exact sd_eq hE (by decide) _
              rw [e2', wrs (x := mR s L0 c0 y - s (288 + y)) (by omega) (by omega)]
              refine ⟨⟨by omega, by omega⟩, c12_later (ih' _ M2 hE hT hx2)⟩
          induction f with
          | zero =>
            intro g g1 g2 g3
            have : g = p := by omega
            rw [this]; exact leaf
          | succ f ihf =>
            intro g g1 g2 g3
            by_cases e : g = p
            · rw [e]; exact leaf
            · refine bX12_rides_127 (c12_ri (A := A) es LO i2 ?_)
              have e5 : Mc 0 26 5 = s 5 := by rw [← es]; rfl
              have hlt : g * s 6 < p * s 6 := Int.mul_lt_mul_of_pos_right (by omega) (by omega)
              have hge : p0 * s 6 ≤ g * s 6 := Int.mul_le_mul_of_nonneg_right g2 (by omega)
              rw [e5, e6]
              refine ⟨fun z => absurd (hfull g (by omega) (by omega)) z, fun _ => ?_⟩
              have hgap := mul_gap h6 hlt
              rw [wrs (x := g * s 6 + s 6) (by omega) (by omega), show g * s 6 + s 6 = (g + 1) * s 6 by rw [Int.add_mul, Int.one_mul]]
              exact ihf (g + 1) (by omega) (by omega) (by omega)
        have hpp : p0 ≤ p := by
          apply Classical.byContradiction
          intro z
          have : p * s 6 < p0 * s 6 := Int.mul_lt_mul_of_pos_right (by omega) (by omega)
          omega
        rw [hp0]
        exact walk (p - p0).toNat p0 (by omega) (by omega) hpp
    have init : ∀ (k : Nat) (Mc : Mem), k ≤ (s 9).toNat → (EqX [(0, 41)] M Mc ∧ ∀ j : Int, 0 ≤ j → j < (k : Int) → Mc 0 41 j.toNat = -1) → CW G Kx mX12_rides (n + 1) 42 [some (vO 0), some (vI x), some (vI (k : Int)), none, none, none] [] Mc (qI P) := by
      refine up_ind (fun Mc i => ?_) (fun k Mc hk i ih => ?_)
      · have e9 : Mc 0 26 9 = s 9 := by rw [← hs]; exact sd_eq i.1 (by decide) 9
        refine bX12_rides_42 ?_
        rw [e9]
        refine ⟨fun _ => rides 0 (-2, Mc) (by omega) ⟨i.1, fun j j1 j2 => i.2 j j1 (by omega), fun j _ _ z => absurd rfl z, Int.le_refl _, Or.inl rfl⟩, fun z => absurd (by omega) z⟩
      · have e9 : Mc 0 26 9 = s 9 := by rw [← hs]; exact sd_eq i.1 (by decide) 9
        have hk' : (k : Int) < s 9 := by omega
        refine bX12_rides_42 ?_
        rw [e9, wr_n hk' (by omega)]
        refine ⟨fun z => absurd z (by omega), fun _ => ⟨⟨by omega, by omega⟩, fun M1 e1 => ih M1 ⟨?_, fun j j1 j2 => ?_⟩⟩⟩
        · rw [e1]; exact i.1.trans (EqX.mset (by decide))
        · by_cases e : j = (k : Int)
          · rw [e1, e, mset_self]
          · rw [e1, mset_ne (fun z => e (by have := z.2.2; omega))]; exact i.2 j j1 (by omega)
    exact init 0 M (by omega) ⟨EqX.rf, fun j j1 j2 => by omega⟩
  refine ⟨fun d => main (fun z => absurd z (by omega)), fun d => ⟨fun e => main (fun _ => e), fun e => p1 (fun z => e (z.2.2.2 (by omega)))⟩⟩
end RDM
