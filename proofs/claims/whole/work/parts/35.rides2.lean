section RDC
variable {G : Gx} {n : Nat} {M : Mem} {s : Int → Int}
def nxr (s : Int → Int) (A : Int → Int) : Nat → Int
  | 0 => -1
  | k + 1 => if A (k : Int) = -1 then (if nxr s A k = -1 then (k : Int) else if s (288 + nxr s A k) ≤ s (288 + (k : Int)) then nxr s A k else (k : Int)) else nxr s A k
theorem nxr_PB {A : Int → Int} : ∀ k : Nat, PB (Wt A) (fun j => s (288 + j)) (k : Int) (nxr s A k)
  | 0 => Or.inl ⟨rfl, fun j h1 h2 => by omega⟩
  | k + 1 => by
    have ih := nxr_PB (A := A) k
    rw [show ((k + 1 : Nat) : Int) = (k : Int) + 1 by omega]
    unfold nxr
    by_cases a : A (k : Int) = -1
    · rw [if_pos a]
      by_cases b : nxr s A k = -1
      · rw [if_pos b]; exact PB_take (by omega) ih a (Or.inl b)
      · rw [if_neg b]
        by_cases c : s (288 + nxr s A k) ≤ s (288 + (k : Int))
        · rw [if_pos c]; exact PB_keep ih b c
        · rw [if_neg c]; exact PB_take (by omega) ih a (Or.inr (by show s (288 + (k : Int)) < s (288 + nxr s A k); omega))
    · rw [if_neg a]; exact PB_skip ih a
theorem nxr_in {A : Int → Int} (k : Nat) : nxr s A k = -1 ∨ (0 ≤ nxr s A k ∧ nxr s A k < (k : Int)) := by
  rcases nxr_PB (s := s) (A := A) k with h | h
  · exact Or.inl h.1
  · exact Or.inr ⟨h.1, h.2.1⟩
theorem nxr_w {A : Int → Int} {k : Nat} (h : ¬ nxr s A k = -1) : A (nxr s A k) = -1 := by
  rcases nxr_PB (s := s) (A := A) k with q | q
  · exact absurd q.1 h
  · exact q.2.2.1
def prS (s : Int → Int) : Nat → (Int → Int) × Int × Int × Int
  | 0 => (fun _ => -1, -1, 0, 0)
  | n + 1 => (setA (prS s n).1 (nxr s (prS s n).1 (s 9).toNat) (mR s (prS s n).2.1 (prS s n).2.2.1 (nxr s (prS s n).1 (s 9).toNat)), mR s (prS s n).2.1 (prS s n).2.2.1 (nxr s (prS s n).1 (s 9).toNat), cR (prS s n).2.1 (prS s n).2.2.1 (mR s (prS s n).2.1 (prS s n).2.2.1 (nxr s (prS s n).1 (s 9).toNat)), s (288 + nxr s (prS s n).1 (s 9).toNat))
theorem PI_nx {A : Int → Int} {L c μ : Int} {m : Nat} (h : PI s A L c μ m) (hm : m < (s 9).toNat) : ¬ nxr s A (s 9).toNat = -1 := by
  intro z
  obtain ⟨i, i1, i2, i3⟩ := cb_lt (f := fun j => decide (¬ A j = -1)) (s 9).toNat (by rw [h.1]; omega)
  have i4 : A i = -1 := by simpa using i3
  rcases nxr_PB (s := s) (A := A) (s 9).toNat with ⟨-, q⟩ | ⟨q, -⟩
  · exact q i i1 i2 i4
  · omega
theorem prS_PI (LO : LOK s) (h6 : 1 ≤ s 6) (h6' : s 6 ≤ 120) (h5 : 1 ≤ s 5) : ∀ m : Nat, m ≤ (s 9).toNat → PI s (prS s m).1 (prS s m).2.1 (prS s m).2.2.1 (prS s m).2.2.2 m
  | 0, _ => PI_0 LO h6
  | m + 1, hm => by
    have ih := prS_PI LO h6 h6' h5 m (by omega)
    have h9 := LO.2.2.1
    have hp := nxr_PB (s := s) (A := (prS s m).1) (s 9).toNat
    rw [Int.toNat_of_nonneg h9.1] at hp
    exact PI_step LO h6 h6' h5 ih hp (PI_nx ih (by omega))
/-! the class -/
theorem c3_fw {Q : Int → Mem → Prop} {A : Int → Int} (L : LR (M 6) s) (LO : LOK s) (hA : ∀ j : Int, 0 ≤ j → j < s 9 → M 1 15 j.toNat = cvt (A j)) (h : Q (nxr s A (s 9).toNat) M) : OkI G n mX3_firstWaiting [vO 6, vA 1 15] M Q := by
  have h9 := LO.2.2.1
  have e3 : M 6 3 0 = s 9 := L.2.2.2.1
  refine eX3_firstWaiting (fun K => bX3_firstWaiting_0 ?_)
  have loop : ∀ (k : Nat) (_ : Unit), k ≤ (s 9).toNat → True → CW G K mX3_firstWaiting n 4 [some (vO 6), some (vA 1 15), some (vI (nxr s A k)), some (vI (k : Int))] [] M (qI Q) := by
    refine up_ind (fun _ _ => ?_) (fun k _ hk _ ih => ?_)
    · refine bX3_firstWaiting_4 rfl ?_
      rw [e3]
      exact ⟨fun _ => h, fun z => absurd (by omega) z⟩
    · have hk' : (k : Int) < s 9 := by omega
      have kb : (0 : Int) ≤ k ∧ (k : Int) < 20 := ⟨by omega, by omega⟩
      have ih' := ih () trivial
      unfold nxr at ih'
      refine bX3_firstWaiting_4 rfl ?_
      rw [e3, hA (k : Int) kb.1 hk', wr_n hk' (by omega)]
      refine ⟨fun z => absurd z (by omega), fun _ => ⟨fun z => absurd z (by omega), fun _ => ⟨fun z => absurd z (by omega), fun _ => ⟨kb, fun a => ?_, fun a => ⟨fun b => ?_, fun b => ⟨kb, ?_⟩⟩⟩⟩⟩⟩
      · rw [if_neg (fun z => a (cvt_w.mpr z))] at ih'; exact ih'
      · rw [if_pos (cvt_w.mp a), if_pos b] at ih'; exact ih'
      · rw [if_pos (cvt_w.mp a), if_neg b] at ih'
        rcases nxr_in (s := s) (A := A) k with z | z
        · exact absurd z b
        · rw [L.rid z.1 (by omega), L.rid kb.1 hk']
          refine ⟨⟨z.1, by omega⟩, fun c => ?_, fun c => ?_⟩
          · rw [if_pos c] at ih'; exact ih'
          · rw [if_neg c] at ih'; exact ih'
  exact loop 0 () (by omega) trivial
theorem c11_seat {Q : Mem → Prop} (H : HR (M 4) s) (K : HOK s) (L : LR (M 6) s) (LO : LOK s) (h6 : 1 ≤ s 6) (hQ : ∀ M' : Mem, EqX [(1, 15)] M M' → (∀ j : Int, 0 ≤ j → j < s 9 → M' 1 15 j.toNat = cvt ((prS s (s 9).toNat).1 j)) → Q M') : OkV G (n + 1) mX11_seatRiders [vO 1] M Q := by
  have h9 := LO.2.2.1
  have hh := K.hoist
  have h6' : s 6 ≤ 120 := by omega
  have h5 : 1 ≤ s 5 := by omega
  have e3 : M 6 3 0 = s 9 := L.2.2.2.1
  have e45 : M 4 5 0 = s 5 := H.2.2.2.2.1
  refine eX11_seatRiders (fun Kx => bX11_seatRiders_0 ?_)
  have loop : ∀ (k : Nat) (a : Int × Int × Mem), k ≤ (s 9).toNat → (EqX [(1, 15)] M a.2.2 ∧ (∀ j : Int, 0 ≤ j → j < s 9 → a.2.2 1 15 j.toNat = cvt ((prS s k).1 j)) ∧ CI s a.1 a.2.1 (prS s k).2.1 (prS s k).2.2.1 (prS s k).2.2.2) → CW G Kx mX11_seatRiders (n + 1) 23 [some (vO 1), some (vO 4), some (vI a.1), some (vI a.2.1), some (vI (k : Int)), none, none] [] a.2.2 (qV Q) := by
    refine up_ind (fun a i => ?_) (fun k a hk i ih => ?_)
    · obtain ⟨lv, st, Mc⟩ := a
      obtain ⟨i1, i2, i3⟩ := i
      dsimp only at i1 i2 i3 ⊢
      have e6 : Mc 6 = M 6 := i1.obj (by decide)
      refine bX11_seatRiders_23 ?_
      rw [e6, e3]
      exact ⟨fun _ => hQ Mc i1 i2, fun z => absurd (by omega) z⟩
    · obtain ⟨lv, st, Mc⟩ := a
      obtain ⟨i1, i2, i3⟩ := i
      dsimp only at i1 i2 i3 ⊢
      have e6 : Mc 6 = M 6 := i1.obj (by decide)
      have e4 : Mc 4 = M 4 := i1.obj (by decide)
      have hk' : (k : Int) < s 9 := by omega
      have hPI := prS_PI LO h6 h6' h5 k (by omega)
      have hPn := prS_PI LO h6 h6' h5 (k + 1) (by omega)
      have hnx := PI_nx hPI hk
      have hA1 : (prS s (k + 1)).1 = setA (prS s k).1 (nxr s (prS s k).1 (s 9).toNat) (mR s (prS s k).2.1 (prS s k).2.2.1 (nxr s (prS s k).1 (s 9).toNat)) := rfl
      have hA2 : (prS s (k + 1)).2.1 = mR s (prS s k).2.1 (prS s k).2.2.1 (nxr s (prS s k).1 (s 9).toNat) := rfl
      have hA3 : (prS s (k + 1)).2.2.1 = cR (prS s k).2.1 (prS s k).2.2.1 (mR s (prS s k).2.1 (prS s k).2.2.1 (nxr s (prS s k).1 (s 9).toNat)) := rfl
      have hA4 : (prS s (k + 1)).2.2.2 = s (288 + nxr s (prS s k).1 (s 9).toNat) := rfl
      rw [hA1, hA2, hA3, hA4] at hPn ih
      clear hA1 hA2 hA3 hA4
      have hin := nxr_in (s := s) (A := (prS s k).1) (s 9).toNat
      have hww := nxr_w (s := s) (A := (prS s k).1) hnx
      generalize prS s k = pk at *
      obtain ⟨A, L0, c, μ⟩ := pk
      dsimp only at *
      generalize hx : nxr s A (s 9).toNat = x at *
      have xb : 0 ≤ x ∧ x < s 9 := by omega
      have x20 : 0 ≤ x ∧ x < 20 := ⟨xb.1, by omega⟩
      refine bX11_seatRiders_23 ?_
      rw [e6, e3]
      refine ⟨fun z => absurd z (by omega), fun _ => ?_⟩
      refine c3_fw (s := s) (A := A) (by rw [e6]; exact L) LO i2 ?_
      rw [hx]
      refine ⟨fun _ => ⟨x20, ?_⟩, fun z => absurd z hnx⟩
      rw [e6, L.rid xb.1 xb.2]
      have hmn := LO.rid xb.1 xb.2
      have put : ∀ (off z lv' st' : Int), z = cvt (mR s L0 c x) → CI s lv' st' (mR s L0 c x) (cR L0 c (mR s L0 c x)) (s (288 + x)) → (off = -1 → lv' = lv ∧ st' = st) → (¬ off = -1 → lv' = off ∧ ((¬ off = lv ∧ st' = 1) ∨ (off = lv ∧ st' = st + 1 ∧ 0 ≤ st ∧ st ≤ 20))) → CW G Kx mX11_seatRiders (n + 1) 132 [some (vO 1), some (vO 4), some (vI lv), some (vI st), some (vI (k : Int)), none, some (vI off)] [vI z, vI x, vA 1 15] Mc (qV Q) := by
        intro off z lv' st' hz hC hn hs
        refine bX11_seatRiders_132 ⟨x20, fun M1 em => ?_⟩
        rw [wr_n hk' (by omega)]
        have hE : EqX [(1, 15)] M M1 := by rw [em]; exact i1.trans (EqX.mset (by decide))
        have hT : ∀ j : Int, 0 ≤ j → j < s 9 → M1 1 15 j.toNat = cvt (setA A x (mR s L0 c x) j) := by
          intro j j1 j2
          unfold setA
          by_cases e : j = x
          · rw [if_pos e, em, e, mset_self, hz]
          · rw [if_neg e, em, mset_ne (fun w => e (by have := w.2.2; omega))]; exact i2 j j1 j2
        have g := ih (lv', st', M1) ⟨hE, hT, hC⟩
        dsimp only at g
        refine ⟨fun a => ?_, fun a => ?_⟩
        · obtain ⟨q1, q2⟩ := hn a
          rw [q1, q2] at g; exact g
        · obtain ⟨q1, q2⟩ := hs a
          rw [q1] at g
          refine ⟨fun b => ?_, fun b => ?_⟩
          · rcases q2 with q2 | q2
            · rw [q2.2] at g; exact g
            · exact absurd q2.1 b
          · rcases q2 with q2 | q2
            · exact absurd b q2.1
            · rw [q2.2.1] at g
              rw [wrs (x := st + 1) (by omega) (by omega)]; exact g
      have H' : HR (Mc 4) s := by rw [e4]; exact H
      have e4' : Mc 4 5 0 = s 5 := by rw [e4]; exact e45
      have hsix : s 6 = 0 ∨ (1 ≤ s 6 ∧ s 6 ≤ 120) := Or.inr ⟨h6, h6'⟩
      have lvb : -1 ≤ lv ∧ lv ≤ 1439 := by
        rcases i3 with ⟨a, b, -⟩ | ⟨-, q1, q2, -⟩
        · rcases hPI.2.2.2.1 with ⟨z, -⟩ | ⟨z, -⟩ <;> omega
        · exact ⟨q1, q2⟩
      have h0 : 0 ≤ (if s (288 + x) < lv then lv else s (288 + x)) := by split <;> omega
      have h1 : (if s (288 + x) < lv then lv else s (288 + x)) ≤ 1439 := by split <;> omega
      have g0 := (hoM_le (s := s) h0 h6).1
      rcases i3 with ⟨a, b1, b2⟩ | ⟨a, fz⟩
      · have hl := ho_live LO h6 hPI xb.1 xb.2
        subst b1
        subst b2
        have hmR : mR s lv st x = if hoM s (s (288 + x)) ≤ lv then (if st < s 5 then lv else lv + s 6) else hoM s (s (288 + x)) := rfl
        have hcR : cR lv st (mR s lv st x) = if mR s lv st x = lv then st + 1 else 1 := rfl
        have hst : 0 ≤ st ∧ st ≤ 20 := by
          rcases hPI.2.2.2.1 with ⟨-, z⟩ | ⟨-, -, z1, z2, -⟩ <;> omega
        refine c1_hoistLeaves rfl H' hsix (by omega) (fun z => ⟨fun _ => ⟨fun y => absurd rfl y, fun _ => ?_⟩, fun y => absurd rfl y⟩) (fun _ _ z => ⟨fun y => absurd y (by omega), fun _ => ⟨fun y => ⟨fun _ => ?_, fun w => absurd w (by omega)⟩, fun y => ⟨fun w => ⟨fun _ => ?_, fun q => absurd q (by omega)⟩, fun w => ?_⟩⟩⟩)
        · have z1 : 1439 < hoM s (if s (288 + x) < lv then lv else s (288 + x)) := by
            apply Classical.byContradiction
            intro q
            exact z ⟨h6, h0, by omega⟩
          have hn : ¬ hoM s (s (288 + x)) ≤ lv := by
            intro q; rw [hl, if_pos q] at z1; omega
          have z2 : 1439 < mR s lv st x := by rw [hmR, if_neg hn]; rw [hl, if_neg hn] at z1; exact z1
          exact put (-1) (-2) lv st (by unfold cvt; rw [if_neg (by omega)]) (Or.inr ⟨z2, lvb.1, lvb.2, hst.1, hst.2, Or.inl z1⟩) (fun _ => ⟨rfl, rfl⟩) (fun q => absurd rfl q)
        · have hn : ¬ hoM s (s (288 + x)) ≤ lv := by
            intro q; rw [hl, if_pos q] at y; exact y rfl
          have hm : mR s lv st x = hoM s (if s (288 + x) < lv then lv else s (288 + x)) := by rw [hmR, if_neg hn, hl, if_neg hn]
          rw [← hm] at y z ⊢
          exact put _ _ (mR s lv st x) 1 (by unfold cvt; rw [if_pos z]) (Or.inl ⟨z, rfl, by rw [hcR, if_neg y]⟩) (fun q => absurd q (by rw [hm]; omega)) (fun _ => ⟨rfl, Or.inl ⟨y, rfl⟩⟩)
        · have hy : hoM s (s (288 + x)) ≤ lv := by
            apply Classical.byContradiction
            intro q; rw [hl, if_neg q] at y; omega
          have hm : mR s lv st x = lv := by rw [hmR, if_pos hy, if_pos (by rw [← e4']; exact w)]
          rw [y]
          exact put _ _ lv (st + 1) (by rw [hm]; unfold cvt; rw [if_pos lvb.2]) (Or.inl ⟨by rw [hm]; exact lvb.2, hm.symm, by rw [hcR, if_pos hm]⟩) (fun q => absurd q (by omega)) (fun _ => ⟨rfl, Or.inr ⟨rfl, rfl, hst⟩⟩)
        · have hy : hoM s (s (288 + x)) ≤ lv := by
            apply Classical.byContradiction
            intro q; rw [hl, if_neg q] at y; omega
          have w' : ¬ st < s 5 := by rw [← e4']; exact w
          have hm : mR s lv st x = lv + s 6 := by rw [hmR, if_pos hy, if_neg w']
          have hnx2 : hoM s (lv + 1) = lv + s 6 := by
            rcases hPI.2.2.2.1 with ⟨z, -⟩ | ⟨z1, ⟨q, z2⟩, -⟩
            · omega
            · rw [z2]; exact hoM_next (by omega) h6
          rw [wrs (x := lv + 1) (by omega) (by omega)]
          refine c1_hoistLeaves rfl H' hsix (by omega) (fun z2 => ⟨fun q => absurd rfl q, fun _ => ?_⟩) (fun _ _ z2 => ⟨fun _ => ?_, fun q => absurd q (by omega)⟩)
          · have z3 : 1439 < hoM s (lv + 1) := by
              apply Classical.byContradiction
              intro q
              exact z2 ⟨h6, by omega, by omega⟩
            exact put (-1) (-2) lv st (by unfold cvt; rw [if_neg (by omega)]) (Or.inr ⟨by omega, lvb.1, lvb.2, hst.1, hst.2, Or.inr ⟨y, by omega, z3⟩⟩) (fun _ => ⟨rfl, rfl⟩) (fun q => absurd rfl q)
          · rw [hnx2] at z2 ⊢
            rw [← hm] at z2 ⊢
            have hne : ¬ mR s lv st x = lv := by omega
            exact put _ _ (mR s lv st x) 1 (by unfold cvt; rw [if_pos z2]) (Or.inl ⟨z2, rfl, by rw [hcR, if_neg hne]⟩) (fun q => absurd q (by omega)) (fun _ => ⟨rfl, Or.inl ⟨hne, rfl⟩⟩)
      · have fz' := ho_frz h6 hPI.2.2.1 (hPI.2.1 x xb.1 xb.2 hww) fz
        have hm : 1439 < mR s L0 c x := by have := mR_ge (s := s) (L := L0) (c := c) (k := x) (by omega); omega
        have hv : (-2 : Int) = cvt (mR s L0 c x) := by unfold cvt; rw [if_neg (by omega)]
        have putN : CW G Kx mX11_seatRiders (n + 1) 132 [some (vO 1), some (vO 4), some (vI lv), some (vI st), some (vI (k : Int)), none, some (vI (-1))] [vI (-2), vI x, vA 1 15] Mc (qV Q) :=
          put (-1) (-2) lv st hv (Or.inr ⟨hm, fz'⟩) (fun _ => ⟨rfl, rfl⟩) (fun z => absurd rfl z)
        obtain ⟨-, -, s1, s2, fe⟩ := fz'
        refine c1_hoistLeaves rfl H' hsix (by omega) (fun z => ⟨fun _ => ⟨fun y => absurd rfl y, fun _ => putN⟩, fun y => absurd rfl y⟩) (fun _ _ z => ?_)
        rcases fe with fe | ⟨f1, f2, f3⟩
        · omega
        · refine ⟨fun y => absurd y (by omega), fun _ => ⟨fun y => absurd f1 y, fun y => ⟨fun w => absurd w (by rw [e4']; omega), fun w => ?_⟩⟩⟩
          rw [wrs (x := lv + 1) (by omega) (by omega)]
          exact c1_hoistLeaves rfl H' hsix (by omega) (fun _ => ⟨fun q => absurd rfl q, fun _ => putN⟩) (fun _ _ z2 => absurd z2 (by omega))
  refine c_fill rfl rfl (by decide) ?_
  refine loop 0 (-1, 0, mfill M 1 15 20 (-1)) (by omega) ⟨fun o k i h => ?_, fun j j1 j2 => ?_, Or.inl ⟨show (-1 : Int) ≤ 1439 by decide, rfl, rfl⟩⟩
  · show (if o = 1 ∧ k = 15 ∧ i < 20 then _ else M o k i) = M o k i
    rw [if_neg (fun z => h (by rw [z.1, z.2.1]; decide))]
  · show (if 1 = 1 ∧ 15 = 15 ∧ j.toNat < 20 then (-1 : Int) else M 1 15 j.toNat) = cvt (-1)
    rw [if_pos ⟨rfl, rfl, by omega⟩]
    rfl
end RDC
