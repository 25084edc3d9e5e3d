/-! ===== the reference reads a house ===== -/
section MHR
variable {G : Gx} {n : Nat} {M M' : Mem} {b : Nat → Int} {L f : Nat} {h : Int → Int} {c : Nat}
def RdM (h : Int → Int) (M : Mem) : Prop :=
  M 0 7 0 = h 0 ∧ M 0 8 0 = h 1 ∧ M 0 9 0 = h 2 ∧ M 0 10 0 = h 4 ∧ M 0 10 1 = h 5 ∧ M 0 10 2 = h 6 ∧
  (∀ r : Int, 0 ≤ r → r < h 0 → M 0 11 r.toNat = h (12 + r)) ∧ (∀ x : Int, 0 ≤ x → x < 6 * h 1 → M 0 12 x.toNat = h (28 + x)) ∧
  (∀ p : Int, 0 ≤ p → p < h 2 → M 0 13 p.toNat = h (172 + 5 * p + 1))
abbrev hdF : List (Nat × Nat) := [(0, 7), (0, 8), (0, 9), (0, 10), (0, 11), (0, 12), (0, 13), (0, 14), (0, 15), (0, 16)]
theorem RdM_eq {l : List (Nat × Nat)} (R : RdM h M) (e : EqX l M M') (h7 : (0, 7) ∉ l) (h8 : (0, 8) ∉ l) (h9 : (0, 9) ∉ l) (h10 : (0, 10) ∉ l) (h11 : (0, 11) ∉ l) (h12 : (0, 12) ∉ l) (h13 : (0, 13) ∉ l) : RdM h M' := by
  unfold RdM
  rw [e.fld h7, e.fld h8, e.fld h9, e.fld h10, e.fld h11, e.fld h12, e.fld h13]
  exact R
theorem RdM_14 (R : RdM h M) (e : EqX [(0, 14)] M M') : RdM h M' := RdM_eq R e (by decide) (by decide) (by decide) (by decide) (by decide) (by decide) (by decide)
theorem RdM_16 (R : RdM h M) (e : EqX [(0, 14), (0, 16)] M M') : RdM h M' := RdM_eq R e (by decide) (by decide) (by decide) (by decide) (by decide) (by decide) (by decide)
theorem c12_isRoomHere {Q : Int → Mem → Prop} (T : Te b L M f) (hw : kd b L f = 1) (R : RdM h M) (K : HOKr h) (h15 : M 0 15 0 = 0)
    (ht : (cI (h 0 = 16) (tooM f h) (pRoom b L (nx b L f) h)).1 = 0 → ∀ M', EqX hdF M M' → M' 0 15 0 = 0 → Tm b L M' (cI (h 0 = 16) (tooM f h) (pRoom b L (nx b L f) h)).2.1 → RdM (cI (h 0 = 16) (tooM f h) (pRoom b L (nx b L f) h)).2.2 M' → Q 1 M')
    (hf : (cI (h 0 = 16) (tooM f h) (pRoom b L (nx b L f) h)).1 ≠ 0 → ∀ M', EqX hdF M M' → M' 0 15 0 = (cI (h 0 = 16) (tooM f h) (pRoom b L (nx b L f) h)).1 → Q 0 M') : OkI G (n + 2) mX12_isRoomHere [vO 0, vI (f : Int)] M Q := by
  obtain ⟨k1, k2, k3, k4, k5, k6, -⟩ := id K
  obtain ⟨r0, r1, r2, r4, r5, r6, s1, s2, s3⟩ := id R
  have f400 : f ≤ 400 := by have := T.2.2.1; have := T.1.2.1; omega
  refine eX12_isRoomHere (fun Kx => bX12_isRoomHere_0 ?_)
  rw [r0]
  refine ⟨fun z => ?_, fun z => ?_⟩
  · rw [cI_f z] at ht hf
    unfold pRoom at ht hf
    refine c12_passWord T hw (fun M1 e1 T1 => c12_numberHere T1 (by rw [e1 0 15 0 (by decide)]; exact h15) (fun y M2 e2 T2 g2 => ⟨fun _ => ?_, fun w => absurd w (by decide)⟩) (fun y M2 e2 g2 => ⟨fun w => absurd rfl w, fun _ => ?_⟩))
    · rw [if_pos y] at ht
      have R2 := RdM_16 (RdM_14 R e1) e2
      obtain ⟨q0, q1, q2, q4, q5, q6, u1, u2, u3⟩ := id R2
      rw [q0, g2]
      refine ⟨⟨k1, by omega⟩, fun M3 m3 M4 m4 => ?_⟩
      have g30 : M3 0 7 0 = h 0 := by rw [m3, mset_ne (by simp)]; exact q0
      rw [g30, wrs (x := h 0 + 1) (by omega) (by omega)] at m4
      have e4 : EqX [(0, 7), (0, 11)] M2 M4 := by rw [m4, m3]; exact (EqX.mset (by decide)).trans (EqX.mset (by decide))
      have E4 : EqX hdF M M4 := ((e1.sub (by decide)).trans (e2.sub (by decide))).trans (e4.sub (by decide))
      refine ht rfl M4 E4 ?_ (T2.eq e4 (by decide) (by decide) (by decide)) ?_
      · rw [e4 0 15 0 (by decide), e2 0 15 0 (by decide), e1 0 15 0 (by decide)]; exact h15
      · have a0 : rmA h (nv b L (nx b L f)) 0 = h 0 + 1 := us_at
        have ri : ∀ i, i ≠ 0 → i ≠ 12 + h 0 → rmA h (nv b L (nx b L f)) i = h i := fun i a c => by unfold rmA; rw [us_ne a, us_ne c]
        have rn : rmA h (nv b L (nx b L f)) (12 + h 0) = nv b L (nx b L f) := by unfold rmA; rw [us_ne (by omega), us_at]
        have g11 : ∀ i, M4 0 11 i = if i = (h 0).toNat then nv b L (nx b L f) else M2 0 11 i := fun i => by rw [m4, mset_ne (by simp), m3, mset_fn]
        show RdM (rmA h (nv b L (nx b L f))) M4
        refine ⟨?_, ?_, ?_, ?_, ?_, ?_, fun r x y => ?_, fun x p q => ?_, fun p x y => ?_⟩
        · rw [m4, mset_self, a0]
        · rw [e4 0 8 0 (by decide), ri 1 (by omega) (by omega)]; exact q1
        · rw [e4 0 9 0 (by decide), ri 2 (by omega) (by omega)]; exact q2
        · rw [e4 0 10 0 (by decide), ri 4 (by omega) (by omega)]; exact q4
        · rw [e4 0 10 1 (by decide), ri 5 (by omega) (by omega)]; exact q5
        · rw [e4 0 10 2 (by decide), ri 6 (by omega) (by omega)]; exact q6
        · rw [a0] at y
          rw [g11]
          by_cases e : r = h 0
          · rw [e, if_pos rfl, rn]
          · rw [if_neg (by omega), ri (12 + r) (by omega) (by omega)]; exact u1 r x (by omega)
        · rw [ri 1 (by omega) (by omega)] at q
          rw [e4 0 12 _ (by decide), ri (28 + x) (by omega) (by omega)]; exact u2 x p q
        · rw [ri 2 (by omega) (by omega)] at y
          rw [e4 0 13 _ (by decide), ri (172 + 5 * p + 1) (by omega) (by omega)]; exact u3 p x y
    · rw [if_neg y] at hf
      exact hf y M2 ((e1.sub (by decide)).trans (e2.sub (by decide))) g2
  · rw [cI_t z] at hf
    exact c12_fails h15 (by decide) f400 (fun M1 e1 g1 => ⟨Or.inl rfl, hf (by show ¬ (1 + 8 * (f : Int) + 4 = 0); omega) M1 (e1.sub (by decide)) g1⟩)
theorem RdM_way {a d m q : Int} (R : RdM h M) (K : HOKr h) (h24 : h 1 < 24) (f8 : M' 0 8 0 = h 1 + 1) (g : ∀ i, M' 0 12 i = if i = (6 * h 1 + 5).toNat then -1 else if i = (6 * h 1 + 4).toNat then -1 else if i = (6 * h 1 + 3).toNat then q else if i = (6 * h 1 + 2).toNat then m else if i = (6 * h 1 + 1).toNat then d else if i = (6 * h 1).toNat then a else M 0 12 i) (e : ∀ k i, k ≠ 8 → k ≠ 12 → 7 ≤ k → k ≤ 13 → M' 0 k i = M 0 k i) : RdM (wyA h a d m q) M' := by
  obtain ⟨k1, k2, k3, k4, k5, k6, -⟩ := id K
  obtain ⟨r0, r1, r2, r4, r5, r6, s1, s2, s3⟩ := R
  obtain ⟨e1, z0, z1, z2, z3, z4, z5⟩ := wyA_at (h := h) (a := a) (c := d) (m := m) (q := q) k3
  have ei : ∀ i, i ≠ 1 → (i < 28 + 6 * h 1 ∨ 28 + 6 * h 1 + 5 < i) → wyA h a d m q i = h i := fun i x y => wyA_i x y
  refine ⟨?_, by rw [f8, e1], ?_, ?_, ?_, ?_, fun r x y => ?_, fun x p y => ?_, fun p x y => ?_⟩
  · rw [e 7 0 (by decide) (by decide) (by decide) (by decide), ei 0 (by omega) (by omega)]; exact r0
  · rw [e 9 0 (by decide) (by decide) (by decide) (by decide), ei 2 (by omega) (by omega)]; exact r2
  · rw [e 10 0 (by decide) (by decide) (by decide) (by decide), ei 4 (by omega) (by omega)]; exact r4
  · rw [e 10 1 (by decide) (by decide) (by decide) (by decide), ei 5 (by omega) (by omega)]; exact r5
  · rw [e 10 2 (by decide) (by decide) (by decide) (by decide), ei 6 (by omega) (by omega)]; exact r6
  · rw [ei 0 (by omega) (by omega)] at y
    rw [e 11 _ (by decide) (by decide) (by decide) (by decide), ei (12 + r) (by omega) (by omega)]; exact s1 r x y
  · rw [e1] at y
    rw [g]
    by_cases q5 : x = 6 * h 1 + 5
    · rw [q5, if_pos rfl, show 28 + (6 * h 1 + 5) = 28 + 6 * h 1 + 5 by omega, z5]
    rw [if_neg (by omega)]
    by_cases q4 : x = 6 * h 1 + 4
    · rw [q4, if_pos rfl, show 28 + (6 * h 1 + 4) = 28 + 6 * h 1 + 4 by omega, z4]
    rw [if_neg (by omega)]
    by_cases q3 : x = 6 * h 1 + 3
    · rw [q3, if_pos rfl, show 28 + (6 * h 1 + 3) = 28 + 6 * h 1 + 3 by omega, z3]
    rw [if_neg (by omega)]
    by_cases q2 : x = 6 * h 1 + 2
    · rw [q2, if_pos rfl, show 28 + (6 * h 1 + 2) = 28 + 6 * h 1 + 2 by omega, z2]
    rw [if_neg (by omega)]
    by_cases q1 : x = 6 * h 1 + 1
    · rw [q1, if_pos rfl, show 28 + (6 * h 1 + 1) = 28 + 6 * h 1 + 1 by omega, z1]
    rw [if_neg (by omega)]
    by_cases q0 : x = 6 * h 1
    · rw [q0, if_pos rfl, show 28 + (6 * h 1) = 28 + 6 * h 1 + 0 by omega, z0]
    rw [if_neg (by omega), ei (28 + x) (by omega) (by omega)]
    exact s2 x p (by omega)
  · rw [ei 2 (by omega) (by omega)] at y
    rw [e 13 _ (by decide) (by decide) (by decide) (by decide), ei (172 + 5 * p + 1) (by omega) (by omega)]; exact s3 p x y
theorem c12_isWayHere {Q : Int → Mem → Prop} {q : Int} (hq : q = 0 ∨ q = 1) (T : Te b L M f) (hw : kd b L f = 1) (R : RdM h M) (K : HOKr h) (h15 : M 0 15 0 = 0)
    (ht : (cI (h 1 = 24) (tooM f h) (pWay b L (nx b L f) h q)).1 = 0 → ∀ M', EqX hdF M M' → M' 0 15 0 = 0 → Tm b L M' (cI (h 1 = 24) (tooM f h) (pWay b L (nx b L f) h q)).2.1 → RdM (cI (h 1 = 24) (tooM f h) (pWay b L (nx b L f) h q)).2.2 M' → Q 1 M')
    (hf : (cI (h 1 = 24) (tooM f h) (pWay b L (nx b L f) h q)).1 ≠ 0 → ∀ M', EqX hdF M M' → M' 0 15 0 = (cI (h 1 = 24) (tooM f h) (pWay b L (nx b L f) h q)).1 → Q 0 M') : OkI G (n + 2) mX12_isWayHere [vO 0, vI q, vI (f : Int)] M Q := by
  obtain ⟨k1, k2, k3, k4, k5, k6, -⟩ := id K
  obtain ⟨r0, r1, r2, r4, r5, r6, s1, s2, s3⟩ := id R
  have tL := T.2.2.1
  have t400 := T.1.2.1
  refine eX12_isWayHere (fun Kx => bX12_isWayHere_0 ?_)
  rw [r1]
  refine ⟨fun z => ?_, fun z => ?_⟩
  · rw [cI_f z] at ht hf
    unfold pWay at ht hf
    have n1L : nx b L f ≤ L := nx2 tL
    have n2L : nx b L (nx b L f) ≤ L := nx2 n1L
    refine c12_passWord T hw (fun M1 e1 T1 => ?_)
    have g17 : M1 0 7 0 = h 0 := by rw [e1 0 7 0 (by decide)]; exact r0
    have g18 : M1 0 8 0 = h 1 := by rw [e1 0 8 0 (by decide)]; exact r1
    rw [g17, g18, wrs (x := h 0 - 1) (by omega) (by omega), wrs (x := 6 * h 1) (by omega) (by omega)]
    refine c12_numberHere T1 (by rw [e1 0 15 0 (by decide)]; exact h15) (fun y M2 e2 T2 g2 => ⟨fun _ => ?_, fun w => absurd w (by decide)⟩) (fun y M2 e2 g2 => ⟨fun w => absurd rfl w, fun _ => ?_⟩)
    · rw [if_pos y] at ht hf
      obtain ⟨-, -, a0, a1⟩ := nF_ok y
      rw [g2]
      refine c12_see T2 (fun M3 e3 T3 => ?_)
      have E3 : EqX hdF M M3 := ((e1.sub (by decide)).trans (e2.sub (by decide))).trans (e3.sub (by decide))
      have g37 : M3 0 7 0 = h 0 := by rw [e3 0 7 0 (by decide), e2 0 7 0 (by decide)]; exact g17
      have g315 : M3 0 15 0 = 0 := by rw [e3 0 15 0 (by decide), e2 0 15 0 (by decide), e1 0 15 0 (by decide)]; exact h15
      have g314 := T3.2.1
      rw [g37, wrs (x := h 0 - 1) (by omega) (by omega), g314]
      refine c12_numberHere T3.tm g315 (fun y2 M4 e4 T4 g4 => ⟨fun _ => ?_, fun w => absurd w (by decide)⟩) (fun y2 M4 e4 g4 => ⟨fun w => absurd rfl w, fun _ => ?_⟩)
      · rw [if_pos y2] at ht hf
        obtain ⟨-, -, c0, c1⟩ := nF_ok y2
        have R4 : RdM h M4 := RdM_16 (RdM_14 (RdM_16 (RdM_14 R e1) e2) e3) e4
        have E4 : EqX hdF M M4 := E3.trans (e4.sub (by decide))
        have g415 : M4 0 15 0 = 0 := by rw [e4 0 15 0 (by decide)]; exact g315
        obtain ⟨q0, q1, q2, q4, q5, q6, u1, u2, u3⟩ := id R4
        rw [g4, u1 _ c0 (by omega), u1 _ a0 (by omega)]
        have bc : 0 ≤ nv b L (nx b L (nx b L f)) ∧ nv b L (nx b L (nx b L f)) < 16 := ⟨c0, by omega⟩
        have ba : 0 ≤ nv b L (nx b L f) ∧ nv b L (nx b L f) < 16 := ⟨a0, by omega⟩
        have no : ¬ jns h (nv b L (nx b L f)) (nv b L (nx b L (nx b L f))) q → OkI G (n + 1) mX12_fails [vO 0, vI 1, vI ((nx b L (nx b L f) : Nat) : Int)] M4 (fun r_4 M5 => (r_4 = 0 ∨ r_4 = 1) ∧ Q r_4 M5) := by
          intro nj
          rw [cI_f nj] at hf
          exact c12_fails g415 (by decide) (by omega) (fun M5 e5 g5 => ⟨Or.inl rfl, hf (by show ¬ (1 + 8 * ((nx b L (nx b L f) : Nat) : Int) + 1 = 0); omega) M5 (E4.trans (e5.sub (by decide))) g5⟩)
        have yes : jns h (nv b L (nx b L f)) (nv b L (nx b L (nx b L f))) q → CW G Kx mX12_isWayHere (n + 2) 139 [some (vO 0), some (vI q), none, some (vI (6 * h 1)), some (vI (nv b L (nx b L f))), none] [] M4 (qI Q) := by
          intro yj
          rw [cI_t yj] at ht hf
          refine bX12_isWayHere_139 ?_
          rw [wrs (x := 6 * h 1 + 1) (by omega) (by omega), wrs (x := 6 * h 1 + 2) (by omega) (by omega), wrs (x := 6 * h 1 + 3) (by omega) (by omega)]
          refine ⟨⟨by omega, by omega⟩, fun N1 n1 => ⟨⟨by omega, by omega⟩, fun N2 n2 => ?_⟩⟩
          have g116 : N1 0 16 0 = nv b L (nx b L (nx b L f)) := by rw [n1, mset_ne (by simp)]; exact g4
          rw [g116] at n2
          have x2 : EqX [(0, 12)] M4 N2 := by rw [n2, n1]; exact (EqX.mset (by decide)).trans (EqX.mset (by decide))
          refine c12_numberHere (T4.eq x2 (by decide) (by decide) (by decide)) (by rw [x2 0 15 0 (by decide)]; exact g415) (fun y4 N3 e5 T5 g5 => ⟨fun _ => ?_, fun w => absurd w (by decide)⟩) (fun y4 N3 e5 g5 => ⟨fun w => absurd rfl w, fun _ => ?_⟩)
          · rw [if_pos y4] at ht
            rw [g5]
            refine ⟨⟨by omega, by omega⟩, fun N4 n4 => ?_⟩
            have fin : CW G Kx mX12_isWayHere (n + 2) 199 [some (vO 0), none, none, some (vI (6 * h 1)), none, none] [vI q, vI (6 * h 1 + 3), vA 0 12] N4 (qI Q) := by
              refine bX12_isWayHere_199 ?_
              rw [wrs (x := 6 * h 1 + 4) (by omega) (by omega), wrs (x := 6 * h 1 + 5) (by omega) (by omega)]
              refine ⟨⟨by omega, by omega⟩, fun P1 p1 => ⟨⟨by omega, by omega⟩, fun P2 p2 => ⟨⟨by omega, by omega⟩, fun P3 p3 P4 p4 => ?_⟩⟩⟩
              have g8 : P3 0 8 0 = h 1 := by rw [p3, mset_ne (by simp), p2, mset_ne (by simp), p1, mset_ne (by simp), n4, mset_ne (by simp), e5 0 8 0 (by decide), x2 0 8 0 (by decide)]; exact q1
              rw [g8, wrs (x := h 1 + 1) (by omega) (by omega)] at p4
              have x4 : EqX [(0, 8), (0, 12)] N3 P4 := by rw [p4, p3, p2, p1, n4]; exact ((((EqX.mset (by decide)).trans (EqX.mset (by decide))).trans (EqX.mset (by decide))).trans (EqX.mset (by decide))).trans (EqX.mset (by decide))
              refine ht rfl P4 (((E4.trans (x2.sub (by decide))).trans (e5.sub (by decide))).trans (x4.sub (by decide))) ?_ (T5.eq x4 (by decide) (by decide) (by decide)) (RdM_way R4 K (by omega) (by rw [p4, mset_self]) (fun i => ?_) (fun k i x y l1 l2 => ?_))
              · rw [x4 0 15 0 (by decide), e5 0 15 0 (by decide), x2 0 15 0 (by decide)]; exact g415
              · rw [p4, mset_ne (by simp), p3, mset_fn, p2, mset_fn, p1, mset_fn, n4, mset_fn, e5 0 12 i (by decide), n2, mset_fn, n1, mset_fn]
              · rw [x4 0 k i (by simp; omega), e5 0 k i (by simp; omega), x2 0 k i (by simp; omega)]
            refine ⟨fun w => ?_, fun w => ?_⟩
            · rw [w] at fin; exact fin
            · have : q = 1 := by omega
              rw [this] at fin; exact fin
          · rw [if_neg y4] at hf
            exact hf y4 N3 ((E4.trans (x2.sub (by decide))).trans (e5.sub (by decide))) g5
        refine ⟨fun w => ⟨bc, ba, fun x => yes ⟨fun _ => x, fun u => absurd w u⟩, fun x => no (fun u => x (u.1 w))⟩, fun w => ⟨fun x => no (fun u => (u.2 w).1 x.symm), fun x => ⟨bc, ba, fun v => yes ⟨fun u => absurd u w, fun _ => ⟨fun u => x u.symm, v.symm⟩⟩, fun v => no (fun u => v (u.2 w).2.symm)⟩⟩⟩
      · rw [if_neg y2] at hf
        exact hf y2 M4 (E3.trans (e4.sub (by decide))) g4
    · rw [if_neg y] at hf
      exact hf y M2 ((e1.sub (by decide)).trans (e2.sub (by decide))) g2
  · rw [cI_t z] at hf
    exact c12_fails h15 (by decide) (by omega) (fun M1 e1 g1 => ⟨Or.inl rfl, hf (by show ¬ (1 + 8 * (f : Int) + 4 = 0); omega) M1 (e1.sub (by decide)) g1⟩)
theorem c12_isDoorHere {Q : Int → Mem → Prop} (T : Te b L M f) (hw : kd b L f = 1) (R : RdM h M) (K : HOKr h) (h15 : M 0 15 0 = 0)
    (ht : (pDoor b L (nx b L f) h).1 = 0 → ∀ M', EqX hdF M M' → M' 0 15 0 = 0 → Tm b L M' (pDoor b L (nx b L f) h).2.1 → RdM (pDoor b L (nx b L f) h).2.2 M' → Q 1 M')
    (hf : (pDoor b L (nx b L f) h).1 ≠ 0 → ∀ M', EqX hdF M M' → M' 0 15 0 = (pDoor b L (nx b L f) h).1 → Q 0 M') : OkI G (n + 2) mX12_isDoorHere [vO 0] M Q := by
  obtain ⟨k1, k2, k3, k4, k5, k6, -⟩ := id K
  obtain ⟨r0, r1, r2, r4, r5, r6, s1, s2, s3⟩ := id R
  refine eX12_isDoorHere (fun Kx => bX12_isDoorHere_0 (c12_passWord T hw (fun M1 e1 T1 => ?_)))
  unfold pDoor at ht hf
  have g18 : M1 0 8 0 = h 1 := by rw [e1 0 8 0 (by decide)]; exact r1
  have g115 : M1 0 15 0 = 0 := by rw [e1 0 15 0 (by decide)]; exact h15
  rw [g18, wrs (x := h 1 - 1) (by omega) (by omega)]
  refine c12_numberHere T1 g115 (fun y M2 e2 T2 g2 => ⟨fun _ => ?_, fun w => absurd w (by decide)⟩) (fun y M2 e2 g2 => ⟨fun w => absurd rfl w, fun _ => ?_⟩)
  · rw [if_pos y] at ht hf
    obtain ⟨-, -, a0, a1⟩ := nF_ok y
    have g215 : M2 0 15 0 = 0 := by rw [e2 0 15 0 (by decide)]; exact g115
    refine c12_numberHere T2 g215 (fun y2 M3 e3 T3 g3 => ⟨fun _ => ?_, fun w => absurd w (by decide)⟩) (fun y2 M3 e3 g3 => ⟨fun w => absurd rfl w, fun _ => ?_⟩)
    · rw [if_pos y2] at ht hf
      have g315 : M3 0 15 0 = 0 := by rw [e3 0 15 0 (by decide)]; exact g215
      rw [g3]
      refine c12_numberHere T3 g315 (fun y4 M4 e4 T4 g4 => ⟨fun _ => ?_, fun w => absurd w (by decide)⟩) (fun y4 M4 e4 g4 => ⟨fun w => absurd rfl w, fun _ => ?_⟩)
      · rw [if_pos y4] at ht
        rw [g2, wrs (x := 6 * nv b L (nx b L f)) (by omega) (by omega), wrs (x := 6 * nv b L (nx b L f) + 4) (by omega) (by omega), wrs (x := 6 * nv b L (nx b L f) + 5) (by omega) (by omega)]
        refine ⟨⟨by omega, by omega⟩, fun M5 m5 => ⟨⟨by omega, by omega⟩, fun M6 m6 => ?_⟩⟩
        have g516 : M5 0 16 0 = nv b L (nx b L (nx b L (nx b L f))) := by rw [m5, mset_ne (by simp)]; exact g4
        rw [g516] at m6
        have x6 : EqX [(0, 12)] M4 M6 := by rw [m6, m5]; exact (EqX.mset (by decide)).trans (EqX.mset (by decide))
        have R4 : RdM h M4 := RdM_16 (RdM_16 (RdM_16 (RdM_14 R e1) e2) e3) e4
        obtain ⟨q0, q1, q2, q4, q5, q6, u1, u2, u3⟩ := id R4
        refine ht rfl M6 ((((e1.sub (by decide)).trans (e2.sub (by decide))).trans (e3.sub (by decide))).trans ((e4.sub (by decide)).trans (x6.sub (by decide)))) ?_ (T4.eq x6 (by decide) (by decide) (by decide)) ?_
        · rw [x6 0 15 0 (by decide), e4 0 15 0 (by decide)]; exact g315
        · obtain ⟨z4, z5⟩ := drA_at (h := h) (w := nv b L (nx b L f)) (a := nv b L (nx b L (nx b L f))) (c := nv b L (nx b L (nx b L (nx b L f))))
          have ei : ∀ i, i ≠ 28 + 6 * nv b L (nx b L f) + 4 → i ≠ 28 + 6 * nv b L (nx b L f) + 5 → drA h (nv b L (nx b L f)) (nv b L (nx b L (nx b L f))) (nv b L (nx b L (nx b L (nx b L f)))) i = h i := fun i x y => drA_i x y
          show RdM (drA h (nv b L (nx b L f)) (nv b L (nx b L (nx b L f))) (nv b L (nx b L (nx b L (nx b L f))))) M6
          refine ⟨?_, ?_, ?_, ?_, ?_, ?_, fun r x y => ?_, fun x p q => ?_, fun p x y => ?_⟩
          · rw [x6 0 7 0 (by decide), ei 0 (by omega) (by omega)]; exact q0
          · rw [x6 0 8 0 (by decide), ei 1 (by omega) (by omega)]; exact q1
          · rw [x6 0 9 0 (by decide), ei 2 (by omega) (by omega)]; exact q2
          · rw [x6 0 10 0 (by decide), ei 4 (by omega) (by omega)]; exact q4
          · rw [x6 0 10 1 (by decide), ei 5 (by omega) (by omega)]; exact q5
          · rw [x6 0 10 2 (by decide), ei 6 (by omega) (by omega)]; exact q6
          · rw [ei 0 (by omega) (by omega)] at y
            rw [x6 0 11 _ (by decide), ei (12 + r) (by omega) (by omega)]; exact u1 r x y
          · rw [ei 1 (by omega) (by omega)] at q
            rw [m6, mset_fn, m5, mset_fn]
            by_cases w5 : x = 6 * nv b L (nx b L f) + 5
            · rw [w5, if_pos rfl, show 28 + (6 * nv b L (nx b L f) + 5) = 28 + 6 * nv b L (nx b L f) + 5 by omega, z5]
            rw [if_neg (by omega)]
            by_cases w4 : x = 6 * nv b L (nx b L f) + 4
            · rw [w4, if_pos rfl, show 28 + (6 * nv b L (nx b L f) + 4) = 28 + 6 * nv b L (nx b L f) + 4 by omega, z4]
            rw [if_neg (by omega), ei (28 + x) (by omega) (by omega)]
            exact u2 x p q
          · rw [ei 2 (by omega) (by omega)] at y
            rw [x6 0 13 _ (by decide), ei (172 + 5 * p + 1) (by omega) (by omega)]; exact u3 p x y
      · rw [if_neg y4] at hf
        exact hf y4 M4 (((e1.sub (by decide)).trans (e2.sub (by decide))).trans ((e3.sub (by decide)).trans (e4.sub (by decide)))) g4
    · rw [if_neg y2] at hf
      exact hf y2 M3 (((e1.sub (by decide)).trans (e2.sub (by decide))).trans (e3.sub (by decide))) g3
  · rw [if_neg y] at hf
    exact hf y M2 ((e1.sub (by decide)).trans (e2.sub (by decide))) g2
theorem c12_isHoistHere {Q : Int → Mem → Prop} (T : Te b L M f) (hw : kd b L f = 1) (R : RdM h M) (K : HOKr h) (h15 : M 0 15 0 = 0)
    (ht : (cI (h 6 ≠ 0) (tooM f h) (pHoist b L (nx b L f) h)).1 = 0 → ∀ M', EqX hdF M M' → M' 0 15 0 = 0 → Tm b L M' (cI (h 6 ≠ 0) (tooM f h) (pHoist b L (nx b L f) h)).2.1 → RdM (cI (h 6 ≠ 0) (tooM f h) (pHoist b L (nx b L f) h)).2.2 M' → Q 1 M')
    (hf : (cI (h 6 ≠ 0) (tooM f h) (pHoist b L (nx b L f) h)).1 ≠ 0 → ∀ M', EqX hdF M M' → M' 0 15 0 = (cI (h 6 ≠ 0) (tooM f h) (pHoist b L (nx b L f) h)).1 → Q 0 M') : OkI G (n + 2) mX12_isHoistHere [vO 0, vI (f : Int)] M Q := by
  obtain ⟨k1, k2, k3, k4, k5, k6, k8, -⟩ := id K
  obtain ⟨r0, r1, r2, r4, r5, r6, s1, s2, s3⟩ := id R
  have tL := T.2.2.1
  have t400 := T.1.2.1
  refine eX12_isHoistHere (fun Kx => bX12_isHoistHere_0 ?_)
  rw [r4]
  refine ⟨fun z => ?_, fun z => ?_⟩
  · rw [cI_f (by omega)] at ht hf
    unfold pHoist at ht hf
    refine c12_passWord T hw (fun M1 e1 T1 => ?_)
    have g115 : M1 0 15 0 = 0 := by rw [e1 0 15 0 (by decide)]; exact h15
    refine c12_numberHere T1 g115 (fun y M2 e2 T2 g2 => ⟨fun _ => ?_, fun w => absurd w (by decide)⟩) (fun y M2 e2 g2 => ⟨fun w => absurd rfl w, fun _ => ?_⟩)
    · rw [if_pos y] at ht hf
      have g215 : M2 0 15 0 = 0 := by rw [e2 0 15 0 (by decide)]; exact g115
      rw [g2]
      refine c12_numberHere T2 g215 (fun y2 M3 e3 T3 g3 => ⟨fun _ M4 m4 => ?_, fun w => absurd w (by decide)⟩) (fun y2 M3 e3 g3 => ⟨fun w => absurd rfl w, fun _ => ?_⟩)
      · rw [if_pos y2] at ht hf
        rw [g3] at m4
        have x4 : EqX [(0, 10)] M3 M4 := by rw [m4]; exact EqX.mset (by decide)
        have g415 : M4 0 15 0 = 0 := by rw [x4 0 15 0 (by decide), e3 0 15 0 (by decide)]; exact g215
        refine c12_numberHere (T3.eq x4 (by decide) (by decide) (by decide)) g415 (fun y4 M5 e5 T5 g5 => ⟨fun _ M6 m6 M7 m7 => ?_, fun w => absurd w (by decide)⟩) (fun y4 M5 e5 g5 => ⟨fun w => absurd rfl w, fun _ => ?_⟩)
        · rw [if_pos y4] at ht
          rw [g5] at m6
          have x7 : EqX [(0, 10)] M5 M7 := by rw [m7, m6]; exact (EqX.mset (by decide)).trans (EqX.mset (by decide))
          have xa : EqX [(0, 10), (0, 14), (0, 16)] M M7 := ((((e1.sub (by decide)).trans (e2.sub (by decide))).trans (e3.sub (by decide))).trans (x4.sub (by decide))).trans ((e5.sub (by decide)).trans (x7.sub (by decide)))
          refine ht rfl M7 (xa.sub (by decide)) ?_ (T5.eq x7 (by decide) (by decide) (by decide)) ?_
          · rw [xa 0 15 0 (by decide)]; exact h15
          · obtain ⟨z4, z5, z6⟩ := hoA_at (h := h) (a := nv b L (nx b L f)) (c := nv b L (nx b L (nx b L f))) (e := nv b L (nx b L (nx b L (nx b L f))))
            have ei : ∀ i, i ≠ 4 → i ≠ 5 → i ≠ 6 → hoA h (nv b L (nx b L f)) (nv b L (nx b L (nx b L f))) (nv b L (nx b L (nx b L (nx b L f)))) i = h i := fun i x y z => hoA_i x y z
            show RdM (hoA h (nv b L (nx b L f)) (nv b L (nx b L (nx b L f))) (nv b L (nx b L (nx b L (nx b L f))))) M7
            refine ⟨?_, ?_, ?_, ?_, ?_, ?_, fun r x y => ?_, fun x p q => ?_, fun p x y => ?_⟩
            · rw [xa 0 7 0 (by decide), ei 0 (by omega) (by omega) (by omega)]; exact r0
            · rw [xa 0 8 0 (by decide), ei 1 (by omega) (by omega) (by omega)]; exact r1
            · rw [xa 0 9 0 (by decide), ei 2 (by omega) (by omega) (by omega)]; exact r2
            · rw [m7, mset_self, z4]
            · rw [m7, mset_ne (by simp), m6, mset_ne (by simp), e5 0 10 1 (by decide), m4, mset_self, z5]
            · rw [m7, mset_ne (by simp), m6, mset_self, z6]
            · rw [ei 0 (by omega) (by omega) (by omega)] at y
              rw [xa 0 11 _ (by decide), ei (12 + r) (by omega) (by omega) (by omega)]; exact s1 r x y
            · rw [ei 1 (by omega) (by omega) (by omega)] at q
              rw [xa 0 12 _ (by decide), ei (28 + x) (by omega) (by omega) (by omega)]; exact s2 x p q
            · rw [ei 2 (by omega) (by omega) (by omega)] at y
              rw [xa 0 13 _ (by decide), ei (172 + 5 * p + 1) (by omega) (by omega) (by omega)]; exact s3 p x y
        · rw [if_neg y4] at hf
          exact hf y4 M5 (((((e1.sub (by decide)).trans (e2.sub (by decide))).trans (e3.sub (by decide))).trans (x4.sub (by decide))).trans (e5.sub (by decide))) g5
      · rw [if_neg y2] at hf
        exact hf y2 M3 (((e1.sub (by decide)).trans (e2.sub (by decide))).trans (e3.sub (by decide))) g3
    · rw [if_neg y] at hf
      exact hf y M2 ((e1.sub (by decide)).trans (e2.sub (by decide))) g2
  · rw [cI_t (by omega)] at hf
    exact c12_fails h15 (by decide) (by omega) (fun M1 e1 g1 => ⟨Or.inl rfl, hf (by show ¬ (1 + 8 * (f : Int) + 4 = 0); omega) M1 (e1.sub (by decide)) g1⟩)
theorem c12_isPersonHere {Q : Int → Mem → Prop} (T : Te b L M f) (hw : kd b L f = 1) (R : RdM h M) (K : HOKr h) (h15 : M 0 15 0 = 0)
    (ht : (cI (h 2 = 8) (tooM f h) (pPerson b L (nx b L f) h)).1 = 0 → ∀ M', EqX hdF M M' → M' 0 15 0 = 0 → Tm b L M' (cI (h 2 = 8) (tooM f h) (pPerson b L (nx b L f) h)).2.1 → RdM (cI (h 2 = 8) (tooM f h) (pPerson b L (nx b L f) h)).2.2 M' → Q 1 M')
    (hf : (cI (h 2 = 8) (tooM f h) (pPerson b L (nx b L f) h)).1 ≠ 0 → ∀ M', EqX hdF M M' → M' 0 15 0 = (cI (h 2 = 8) (tooM f h) (pPerson b L (nx b L f) h)).1 → Q 0 M') : OkI G (n + 2) mX12_isPersonHere [vO 0, vI (f : Int)] M Q := by
  obtain ⟨k1, k2, k3, k4, k5, k6, k8, -⟩ := id K
  obtain ⟨r0, r1, r2, r4, r5, r6, s1, s2, s3⟩ := id R
  have tL := T.2.2.1
  have t400 := T.1.2.1
  refine eX12_isPersonHere (fun Kx => bX12_isPersonHere_0 ?_)
  rw [r2]
  refine ⟨fun z => ?_, fun z => ?_⟩
  · rw [cI_f z] at ht hf
    unfold pPerson at ht hf
    refine c12_passWord T hw (fun M1 e1 T1 => ?_)
    have g115 : M1 0 15 0 = 0 := by rw [e1 0 15 0 (by decide)]; exact h15
    have g17 : M1 0 7 0 = h 0 := by rw [e1 0 7 0 (by decide)]; exact r0
    rw [g17, wrs (x := h 0 - 1) (by omega) (by omega)]
    refine c12_numberHere T1 g115 (fun y M2 e2 T2 g2 => ⟨fun _ => ?_, fun w => absurd w (by decide)⟩) (fun y M2 e2 g2 => ⟨fun w => absurd rfl w, fun _ => ?_⟩)
    · rw [if_pos y] at ht
      have R2 := RdM_16 (RdM_14 R e1) e2
      obtain ⟨q0, q1, q2, q4, q5, q6, u1, u2, u3⟩ := id R2
      rw [q2, g2]
      refine ⟨⟨k5, by omega⟩, fun M3 m3 M4 m4 => ?_⟩
      have g32 : M3 0 9 0 = h 2 := by rw [m3, mset_ne (by simp)]; exact q2
      rw [g32, wrs (x := h 2 + 1) (by omega) (by omega)] at m4
      have e4 : EqX [(0, 9), (0, 13)] M2 M4 := by rw [m4, m3]; exact (EqX.mset (by decide)).trans (EqX.mset (by decide))
      refine ht rfl M4 (((e1.sub (by decide)).trans (e2.sub (by decide))).trans (e4.sub (by decide))) ?_ (T2.eq e4 (by decide) (by decide) (by decide)) ?_
      · rw [e4 0 15 0 (by decide), e2 0 15 0 (by decide)]; exact g115
      · have p2' : peA h (nv b L (nx b L f)) 2 = h 2 + 1 := us_at
        have en : peA h (nv b L (nx b L f)) (172 + 5 * h 2 + 1) = nv b L (nx b L f) := by unfold peA; rw [us_ne (by omega), us_at]
        have ei : ∀ i, i ≠ 2 → i ≠ 172 + 5 * h 2 + 1 → peA h (nv b L (nx b L f)) i = h i := fun i x y => peA_i x y
        show RdM (peA h (nv b L (nx b L f))) M4
        refine ⟨?_, ?_, ?_, ?_, ?_, ?_, fun r x y => ?_, fun x p q => ?_, fun p x y => ?_⟩
        · rw [e4 0 7 0 (by decide), ei 0 (by omega) (by omega)]; exact q0
        · rw [e4 0 8 0 (by decide), ei 1 (by omega) (by omega)]; exact q1
        · rw [m4, mset_self, p2']
        · rw [e4 0 10 0 (by decide), ei 4 (by omega) (by omega)]; exact q4
        · rw [e4 0 10 1 (by decide), ei 5 (by omega) (by omega)]; exact q5
        · rw [e4 0 10 2 (by decide), ei 6 (by omega) (by omega)]; exact q6
        · rw [ei 0 (by omega) (by omega)] at y
          rw [e4 0 11 _ (by decide), ei (12 + r) (by omega) (by omega)]; exact u1 r x y
        · rw [ei 1 (by omega) (by omega)] at q
          rw [e4 0 12 _ (by decide), ei (28 + x) (by omega) (by omega)]; exact u2 x p q
        · rw [p2'] at y
          rw [m4, mset_ne (by simp), m3, mset_fn]
          by_cases e : p = h 2
          · rw [e, if_pos rfl, en]
          · rw [if_neg (by omega), ei (172 + 5 * p + 1) (by omega) (by omega)]; exact u3 p x (by omega)
    · rw [if_neg y] at hf
      exact hf y M2 ((e1.sub (by decide)).trans (e2.sub (by decide))) g2
  · rw [cI_t z] at hf
    exact c12_fails h15 (by decide) (by omega) (fun M1 e1 g1 => ⟨Or.inl rfl, hf (by show ¬ (1 + 8 * (f : Int) + 4 = 0); omega) M1 (e1.sub (by decide)) g1⟩)
end MHR
