/-! ===== the class's reader of a house: ways, doors, the hoist, people; a clause; all ===== -/
section HRW
variable {b : Nat → Int} {L f : Nat} {h s' : Int → Int} {F F' : Nat → Nat → Int}
theorem isTop_cg {t : Int} (e0 : s' 0 = h 0) (eh : ∀ r, 0 ≤ r → r < h 0 → s' (12 + r) = h (12 + r)) (ht : isTop h t) : isTop s' t := by
  obtain ⟨a, c, d, e⟩ := ht
  refine ⟨a, by rw [e0]; exact c, fun r r1 r2 => ?_, fun r r1 r2 => ?_⟩
  · rw [e0] at r2
    rw [eh r r1 r2, eh t a c]; exact d r r1 r2
  · rw [eh r r1 (by omega), eh t a c]; exact e r r1 r2
theorem HRd_way {a c m q : Int} (H : HRd F h) (K : HOKr h) (h24 : h 1 < 24) (f1 : F' 1 0 = h 1 + 1) (f8 : ∀ i, F' 8 i = if i = (h 1).toNat then a else F 8 i) (f9 : ∀ i, F' 9 i = if i = (h 1).toNat then c else F 9 i) (f10 : ∀ i, F' 10 i = if i = (h 1).toNat then m else F 10 i) (f11 : ∀ i, F' 11 i = if i = (h 1).toNat then q else F 11 i) (f12 : ∀ i, F' 12 i = if i = (h 1).toNat then -1 else F 12 i) (f13 : ∀ i, F' 13 i = if i = (h 1).toNat then -1 else F 13 i)
    (fo : ∀ k i, k ≠ 1 → (k < 8 ∨ 13 < k) → F' k i = F k i) : HRd F' (wyA h a c m q) := by
  obtain ⟨k1, k2, k3, k4, k5, k6, -⟩ := id K
  obtain ⟨⟨c0, c1, c2, c4, c5, c6, d1, d2, d3, d4⟩, hz⟩ := H
  obtain ⟨e1, z0, z1, z2, z3, z4, z5⟩ := wyA_at (h := h) (a := a) (c := c) (m := m) (q := q) k3
  have ei : ∀ i, i ≠ 1 → (i < 28 + 6 * h 1 ∨ 28 + 6 * h 1 + 5 < i) → wyA h a c m q i = h i := fun i x y => wyA_i x y
  have w0 := ei 0 (by omega) (by omega)
  refine ⟨⟨?_, ?_, ?_, ?_, ?_, ?_, fun r r1 r2 => ?_, fun w w1 w2 => ?_, fun p p1 p2 => ?_, fun z => ?_⟩, fun z => ?_⟩
  · rw [fo 0 0 (by decide) (by omega), w0]; exact c0
  · rw [f1, e1]
  · rw [fo 2 0 (by decide) (by omega), ei 2 (by omega) (by omega)]; exact c2
  · rw [fo 4 0 (by decide) (by omega), ei 4 (by omega) (by omega)]; exact c4
  · rw [fo 5 0 (by decide) (by omega), ei 5 (by omega) (by omega)]; exact c5
  · rw [fo 6 0 (by decide) (by omega), ei 6 (by omega) (by omega)]; exact c6
  · rw [w0] at r2
    rw [fo 7 _ (by decide) (by omega), ei (12 + r) (by omega) (by omega)]; exact d1 r r1 r2
  · rw [e1] at w2
    rw [f8, f9, f10, f11, f12, f13]
    by_cases e : w = h 1
    · rw [e, if_pos rfl, if_pos rfl, if_pos rfl, if_pos rfl, if_pos rfl, if_pos rfl, z0, z1, z2, z3, z4, z5]
      exact ⟨rfl, rfl, rfl, rfl, rfl, rfl⟩
    · have en : ¬ w.toNat = (h 1).toNat := by omega
      rw [if_neg en, if_neg en, if_neg en, if_neg en, if_neg en, if_neg en, ei (28 + 6 * w + 0) (by omega) (by omega), ei (28 + 6 * w + 1) (by omega) (by omega), ei (28 + 6 * w + 2) (by omega) (by omega), ei (28 + 6 * w + 3) (by omega) (by omega), ei (28 + 6 * w + 4) (by omega) (by omega), ei (28 + 6 * w + 5) (by omega) (by omega)]
      exact d2 w w1 (by omega)
  · rw [ei 2 (by omega) (by omega)] at p2
    rw [fo 14 _ (by decide) (by omega), ei (172 + 5 * p + 1) (by omega) (by omega)]; exact d3 p p1 p2
  · rw [fo 3 0 (by decide) (by omega)]
    rw [w0] at z
    exact isTop_cg w0 (fun r r1 r2 => ei (12 + r) (by omega) (by omega)) (d4 z)
  · rw [fo 3 0 (by decide) (by omega)]
    rw [w0] at z; exact hz z
theorem HRd_door {w a c : Int} (H : HRd F h) (K : HOKr h) (w0 : 0 ≤ w) (w1 : w < h 1) (f12 : ∀ i, F' 12 i = if i = w.toNat then a else F 12 i) (f13 : ∀ i, F' 13 i = if i = w.toNat then c else F 13 i) (fo : ∀ k i, k ≠ 12 → k ≠ 13 → F' k i = F k i) : HRd F' (drA h w a c) := by
  obtain ⟨k1, k2, k3, k4, k5, k6, -⟩ := id K
  obtain ⟨⟨c0, c1, c2, c4, c5, c6, d1, d2, d3, d4⟩, hz⟩ := H
  obtain ⟨z4, z5⟩ := drA_at (h := h) (w := w) (a := a) (c := c)
  have ei : ∀ i, i ≠ 28 + 6 * w + 4 → i ≠ 28 + 6 * w + 5 → drA h w a c i = h i := fun i x y => drA_i x y
  have e0 := ei 0 (by omega) (by omega)
  refine ⟨⟨?_, ?_, ?_, ?_, ?_, ?_, fun r r1 r2 => ?_, fun v v1 v2 => ?_, fun p p1 p2 => ?_, fun z => ?_⟩, fun z => ?_⟩
  · rw [fo 0 0 (by decide) (by decide), e0]; exact c0
  · rw [fo 1 0 (by decide) (by decide), ei 1 (by omega) (by omega)]; exact c1
  · rw [fo 2 0 (by decide) (by decide), ei 2 (by omega) (by omega)]; exact c2
  · rw [fo 4 0 (by decide) (by decide), ei 4 (by omega) (by omega)]; exact c4
  · rw [fo 5 0 (by decide) (by decide), ei 5 (by omega) (by omega)]; exact c5
  · rw [fo 6 0 (by decide) (by decide), ei 6 (by omega) (by omega)]; exact c6
  · rw [e0] at r2
    rw [fo 7 _ (by decide) (by decide), ei (12 + r) (by omega) (by omega)]; exact d1 r r1 r2
  · rw [ei 1 (by omega) (by omega)] at v2
    obtain ⟨q0, q1, q2, q3, q4, q5⟩ := d2 v v1 v2
    rw [fo 8 _ (by decide) (by decide), fo 9 _ (by decide) (by decide), fo 10 _ (by decide) (by decide), fo 11 _ (by decide) (by decide), f12, f13, ei (28 + 6 * v + 0) (by omega) (by omega), ei (28 + 6 * v + 1) (by omega) (by omega), ei (28 + 6 * v + 2) (by omega) (by omega), ei (28 + 6 * v + 3) (by omega) (by omega)]
    refine ⟨q0, q1, q2, q3, ?_⟩
    by_cases e : v = w
    · rw [e, if_pos rfl, if_pos rfl, z4, z5]; exact ⟨rfl, rfl⟩
    · have en : ¬ v.toNat = w.toNat := by omega
      rw [if_neg en, if_neg en, ei (28 + 6 * v + 4) (by omega) (by omega), ei (28 + 6 * v + 5) (by omega) (by omega)]; exact ⟨q4, q5⟩
  · rw [ei 2 (by omega) (by omega)] at p2
    rw [fo 14 _ (by decide) (by decide), ei (172 + 5 * p + 1) (by omega) (by omega)]; exact d3 p p1 p2
  · rw [fo 3 0 (by decide) (by decide)]
    rw [e0] at z
    exact isTop_cg e0 (fun r r1 r2 => ei (12 + r) (by omega) (by omega)) (d4 z)
  · rw [fo 3 0 (by decide) (by decide)]
    rw [e0] at z; exact hz z
theorem HRd_hoist {a c e : Int} (H : HRd F h) (K : HOKr h) (f4 : F' 4 0 = a) (f5 : F' 5 0 = c) (f6 : F' 6 0 = e) (fo : ∀ k i, k ≠ 4 → k ≠ 5 → k ≠ 6 → F' k i = F k i) : HRd F' (hoA h a c e) := by
  obtain ⟨k1, k2, k3, k4, k5, k6, -⟩ := id K
  obtain ⟨⟨c0, c1, c2, c4, c5, c6, d1, d2, d3, d4⟩, hz⟩ := H
  obtain ⟨z4, z5, z6⟩ := hoA_at (h := h) (a := a) (c := c) (e := e)
  have ei : ∀ i, i ≠ 4 → i ≠ 5 → i ≠ 6 → hoA h a c e i = h i := fun i x y z => hoA_i x y z
  have e0 := ei 0 (by omega) (by omega) (by omega)
  have fo' : ∀ k i, 6 < k → F' k i = F k i := fun k i x => fo k i (by omega) (by omega) (by omega)
  refine ⟨⟨?_, ?_, ?_, by rw [f4, z4], by rw [f5, z5], by rw [f6, z6], fun r r1 r2 => ?_, fun v v1 v2 => ?_, fun p p1 p2 => ?_, fun z => ?_⟩, fun z => ?_⟩
  · rw [fo 0 0 (by decide) (by decide) (by decide), e0]; exact c0
  · rw [fo 1 0 (by decide) (by decide) (by decide), ei 1 (by omega) (by omega) (by omega)]; exact c1
  · rw [fo 2 0 (by decide) (by decide) (by decide), ei 2 (by omega) (by omega) (by omega)]; exact c2
  · rw [e0] at r2
    rw [fo' 7 _ (by decide), ei (12 + r) (by omega) (by omega) (by omega)]; exact d1 r r1 r2
  · rw [ei 1 (by omega) (by omega) (by omega)] at v2
    rw [fo' 8 _ (by decide), fo' 9 _ (by decide), fo' 10 _ (by decide), fo' 11 _ (by decide), fo' 12 _ (by decide), fo' 13 _ (by decide), ei (28 + 6 * v + 0) (by omega) (by omega) (by omega), ei (28 + 6 * v + 1) (by omega) (by omega) (by omega), ei (28 + 6 * v + 2) (by omega) (by omega) (by omega), ei (28 + 6 * v + 3) (by omega) (by omega) (by omega), ei (28 + 6 * v + 4) (by omega) (by omega) (by omega), ei (28 + 6 * v + 5) (by omega) (by omega) (by omega)]
    exact d2 v v1 v2
  · rw [ei 2 (by omega) (by omega) (by omega)] at p2
    rw [fo' 14 _ (by decide), ei (172 + 5 * p + 1) (by omega) (by omega) (by omega)]; exact d3 p p1 p2
  · rw [fo 3 0 (by decide) (by decide) (by decide)]
    rw [e0] at z
    exact isTop_cg e0 (fun r r1 r2 => ei (12 + r) (by omega) (by omega) (by omega)) (d4 z)
  · rw [fo 3 0 (by decide) (by decide) (by decide)]
    rw [e0] at z; exact hz z
theorem HRd_person {v : Int} (H : HRd F h) (K : HOKr h) (h8 : h 2 < 8) (f2 : F' 2 0 = h 2 + 1) (f14 : ∀ i, F' 14 i = if i = (h 2).toNat then v else F 14 i) (fo : ∀ k i, k ≠ 2 → k ≠ 14 → F' k i = F k i) : HRd F' (peA h v) := by
  obtain ⟨k1, k2, k3, k4, k5, k6, -⟩ := id K
  obtain ⟨⟨c0, c1, c2, c4, c5, c6, d1, d2, d3, d4⟩, hz⟩ := H
  have e2 : peA h v 2 = h 2 + 1 := us_at
  have en : peA h v (172 + 5 * h 2 + 1) = v := by unfold peA; rw [us_ne (by omega), us_at]
  have ei : ∀ i, i ≠ 2 → i ≠ 172 + 5 * h 2 + 1 → peA h v i = h i := fun i x y => peA_i x y
  have e0 := ei 0 (by omega) (by omega)
  refine ⟨⟨?_, ?_, by rw [f2, e2], ?_, ?_, ?_, fun r r1 r2 => ?_, fun w w1 w2 => ?_, fun p p1 p2 => ?_, fun z => ?_⟩, fun z => ?_⟩
  · rw [fo 0 0 (by decide) (by decide), e0]; exact c0
  · rw [fo 1 0 (by decide) (by decide), ei 1 (by omega) (by omega)]; exact c1
  · rw [fo 4 0 (by decide) (by decide), ei 4 (by omega) (by omega)]; exact c4
  · rw [fo 5 0 (by decide) (by decide), ei 5 (by omega) (by omega)]; exact c5
  · rw [fo 6 0 (by decide) (by decide), ei 6 (by omega) (by omega)]; exact c6
  · rw [e0] at r2
    rw [fo 7 _ (by decide) (by decide), ei (12 + r) (by omega) (by omega)]; exact d1 r r1 r2
  · rw [ei 1 (by omega) (by omega)] at w2
    rw [fo 8 _ (by decide) (by decide), fo 9 _ (by decide) (by decide), fo 10 _ (by decide) (by decide), fo 11 _ (by decide) (by decide), fo 12 _ (by decide) (by decide), fo 13 _ (by decide) (by decide), ei (28 + 6 * w + 0) (by omega) (by omega), ei (28 + 6 * w + 1) (by omega) (by omega), ei (28 + 6 * w + 2) (by omega) (by omega), ei (28 + 6 * w + 3) (by omega) (by omega), ei (28 + 6 * w + 4) (by omega) (by omega), ei (28 + 6 * w + 5) (by omega) (by omega)]
    exact d2 w w1 w2
  · rw [e2] at p2
    rw [f14]
    by_cases e : p = h 2
    · rw [e, if_pos rfl, en]
    · rw [if_neg (by omega), ei (172 + 5 * p + 1) (by omega) (by omega)]; exact d3 p p1 (by omega)
  · rw [fo 3 0 (by decide) (by decide)]
    rw [e0] at z
    exact isTop_cg e0 (fun r r1 r2 => ei (12 + r) (by omega) (by omega)) (d4 z)
  · rw [fo 3 0 (by decide) (by decide)]
    rw [e0] at z; exact hz z
end HRW
section HRE
variable {G : Gx} {n : Nat} {M : Mem} {b : Nat → Int} {L f : Nat} {h : Int → Int}
theorem c2_joins {Q : Int → Mem → Prop} {a c q : Int} (H : HRd (M 7) h) (K : HOKr h) (a0 : 0 ≤ a) (a1 : a < h 0) (c0 : 0 ≤ c) (c1 : c < h 0) (ht : jns h a c q → Q 1 M) (hf : ¬ jns h a c q → Q 0 M) : OkI G (n + 1) mX2_joins [vO 14, vI a, vI c, vI q] M Q := by
  have k2 := K.2.1
  have ga : M 7 7 a.toNat = h (12 + a) := H.1.2.2.2.2.2.2.1 a a0 a1
  have gc : M 7 7 c.toNat = h (12 + c) := H.1.2.2.2.2.2.2.1 c c0 c1
  refine eX2_joins (fun Kx => bX2_joins_0 (c1_isRoom rfl H.1 k2 (fun _ _ => ⟨fun z => absurd z (by decide), fun _ => c1_isRoom rfl H.1 k2 (fun _ _ => ⟨fun _ => ?_, fun z => absurd z (by decide)⟩) (fun z => absurd ⟨c0, c1⟩ z)⟩) (fun z => absurd ⟨a0, a1⟩ z)))
  rw [ga, gc]
  unfold jns at ht hf
  refine ⟨fun z => ⟨⟨c0, by omega⟩, ⟨a0, by omega⟩, fun y => hf (fun w => by have := w.1 z; omega), fun y => ht ⟨fun _ => by omega, fun w => absurd z w⟩⟩, fun z => ⟨fun y => hf (fun w => (w.2 z).1 y), fun y => ⟨⟨a0, by omega⟩, ⟨c0, by omega⟩, fun x => hf (fun w => x (w.2 z).2), fun x => ht ⟨fun w => absurd w z, fun _ => ⟨y, x⟩⟩⟩⟩⟩
theorem Tk.val (T : Tk b L M f) (hk : kd b L f = 2) : M 2 6 0 = nv b L f := (T.2.2.2.2.2.2.2.1 hk).2
theorem c2_readWay {Q : Int → Mem → Prop} {q : Int} (T : Tk b L M f) (H : HRd (M 7) h) (K : HOKr h) (h24 : h 1 < 24) (ht : (pWay b L f h q).1 = 0 → ∀ M', EqR M M' → Tk b L M' (pWay b L f h q).2.1 → HRd (M' 7) (pWay b L f h q).2.2 → Q 1 M') (hf : (pWay b L f h q).1 ≠ 0 → ∀ M', EqR M M' → M' 2 7 0 = (pWay b L f h q).1 → Q 0 M') (hq : q = 0 ∨ q = 1) : OkI G (n + 3) mX2_readWay [vO 14, vI q] M Q := by
  obtain ⟨k1, k2, k3, k4, -⟩ := id K
  have e0 : M 7 0 0 = h 0 := H.1.1
  have e1 : M 7 1 0 = h 1 := H.1.2.1
  have kb : 0 ≤ h 1 ∧ h 1 < 24 := ⟨k3, h24⟩
  unfold pWay at ht hf
  refine eX2_readWay (fun Kx => bX2_readWay_0 ?_)
  rw [e0, e1, wrs (x := h 0 - 1) (by omega) (by omega)]
  refine c9_isNumber T (fun z => ⟨fun w => absurd w (by decide), fun _ => ⟨fun _ => ?_, fun w => absurd h24 w⟩⟩) (fun z Ma ea g => ⟨fun _ => ?_, fun w => absurd rfl w⟩)
  · rw [if_pos z] at ht hf
    obtain ⟨hk, -, a0, a1⟩ := nF_ok z
    refine c9_take T hk (fun M2 E2 T2 => ?_)
    have H2 : HRd (M2 7) h := HRd_eq H E2 (by decide)
    have g20 : M2 7 0 0 = h 0 := H2.1.1
    rw [g20, wrs (x := h 0 - 1) (by omega) (by omega)]
    refine c9_isNumber T2 (fun z2 => ⟨fun _ => ?_, fun w => absurd w (by decide)⟩) (fun z2 Ma ea g => ⟨fun w => absurd rfl w, fun _ => ?_⟩)
    · rw [if_pos z2] at ht hf
      obtain ⟨hk2, -, c0, c1⟩ := nF_ok z2
      rw [(T2.2.2.2.2.2.2.2.1 hk2).2]
      refine c2_joins H2 K a0 (by omega) c0 (by omega) (fun z3 => ⟨fun _ => ?_, fun w => absurd w (by decide)⟩) (fun z3 => ⟨fun w => absurd rfl w, fun _ => ?_⟩)
      · rw [cI_t z3] at ht hf
        refine c9_take T2 hk2 (fun M5 E5 T5 => ?_)
        refine c9_isNumber T5 (fun z4 => ⟨fun _ => ⟨kb, fun M7 m7 => ⟨kb, fun M8 m8 => ?_⟩⟩, fun w => absurd w (by decide)⟩) (fun z4 Ma ea g => ⟨fun w => absurd rfl w, fun _ => ?_⟩)
        · rw [if_pos z4] at ht
          obtain ⟨hk4, -, -, -⟩ := nF_ok z4
          have T8 : Tk b L M8 (nx b L (nx b L f)) := by rw [m8, m7]; exact (T5.mset (by decide)).mset (by decide)
          refine c9_take T8 hk4 (fun M9 E9 T9 => ⟨kb, fun M10 m10 => ?_⟩)
          have s7 : ∀ k i, M5 7 k i = M 7 k i := fun k i => by rw [E5.obj (o := 7) (by decide), E2.obj (o := 7) (by decide)]
          have fin : CW G Kx mX2_readWay (n + 3) 169 [some (vO 14), none, some (vI (h 1)), none, none] [vI q, vI (h 1), vA 7 11] M10 (qI Q) := by
            refine bX2_readWay_169 ⟨kb, fun N1 n1 => ⟨kb, fun N2 n2 => ⟨kb, fun N3 n3 N4 n4 => ?_⟩⟩⟩
            have x8 : ∀ k i, k ≠ 8 → k ≠ 9 → M9 7 k i = M 7 k i := fun k i x y => by rw [E9.obj (o := 7) (by decide), m8, mset_ne (fun z => y z.2.1), m7, mset_ne (fun z => x z.2.1), s7]
            have g31 : N3 7 1 0 = h 1 := by rw [n3, mset_ne (by simp), n2, mset_ne (by simp), n1, mset_ne (by simp), m10, mset_ne (by simp), x8 1 0 (by decide) (by decide)]; exact e1
            rw [g31, wrs (x := h 1 + 1) (by omega) (by omega)] at n4
            refine ht rfl N4 ?_ ?_ ?_
            · rw [n4, n3, n2, n1, m10]
              have q1 : EqR M M5 := (EqR.of E2 (by decide)).trans (EqR.of E5 (by decide))
              have q2 : EqR M5 M9 := EqR.trans (by rw [m8, m7]; exact EqR.mset.trans EqR.mset) (EqR.of E9 (by decide))
              exact (q1.trans q2).trans ((((EqR.mset.trans EqR.mset).trans EqR.mset).trans EqR.mset).trans EqR.mset)
            · rw [n4, n3, n2, n1, m10]
              exact ((((T9.mset (by decide)).mset (by decide)).mset (by decide)).mset (by decide)).mset (by decide)
            · refine HRd_way H K h24 (by rw [n4, mset_self]) (fun i => ?_) (fun i => ?_) (fun i => ?_) (fun i => ?_) (fun i => ?_) (fun i => ?_) (fun k i x y => ?_)
              · rw [n4, mset_ne (by simp), n3, mset_ne (by simp), n2, mset_ne (by simp), n1, mset_ne (by simp), m10, mset_ne (by simp), E9.obj (o := 7) (by decide), m8, mset_ne (by simp), m7, mset_fn, s7]
              · rw [n4, mset_ne (by simp), n3, mset_ne (by simp), n2, mset_ne (by simp), n1, mset_ne (by simp), m10, mset_ne (by simp), E9.obj (o := 7) (by decide), m8, mset_fn, m7, mset_ne (by simp), s7]
              · rw [n4, mset_ne (by simp), n3, mset_ne (by simp), n2, mset_ne (by simp), n1, mset_ne (by simp), m10, mset_fn, x8 10 i (by decide) (by decide)]
              · rw [n4, mset_ne (by simp), n3, mset_ne (by simp), n2, mset_ne (by simp), n1, mset_fn, m10, mset_ne (by simp), x8 11 i (by decide) (by decide)]
              · rw [n4, mset_ne (by simp), n3, mset_ne (by simp), n2, mset_fn, n1, mset_ne (by simp), m10, mset_ne (by simp), x8 12 i (by decide) (by decide)]
              · rw [n4, mset_ne (by simp), n3, mset_fn, n2, mset_ne (by simp), n1, mset_ne (by simp), m10, mset_ne (by simp), x8 13 i (by decide) (by decide)]
              · rw [n4, mset_ne (fun z => x z.2.1), n3, mset_ne (fun z => by have := z.2.1; omega), n2, mset_ne (fun z => by have := z.2.1; omega), n1, mset_ne (fun z => by have := z.2.1; omega), m10, mset_ne (fun z => by have := z.2.1; omega), x8 k i (by omega) (by omega)]
          refine ⟨fun w => ?_, fun w => ?_⟩
          · rw [w] at fin; exact fin
          · have : q = 1 := by omega
            rw [this] at fin; exact fin
        · rw [if_neg z4] at hf
          exact hf z4 Ma (((EqR.of E2 (by decide)).trans (EqR.of E5 (by decide))).trans (EqR.of ea (by decide))) g
      · rw [cI_f z3] at hf
        exact c9_refuse T2 (by decide) (fun Ma ea g => ⟨Or.inl rfl, hf (by show ¬ (1 + 8 * ((nx b L f : Nat) : Int) + 1 = 0); omega) Ma ((EqR.of E2 (by decide)).trans (EqR.of ea (by decide))) g⟩)
    · rw [if_neg z2] at hf
      exact hf z2 Ma ((EqR.of E2 (by decide)).trans (EqR.of ea (by decide))) g
  · rw [if_neg z] at hf
    exact hf z Ma (EqR.of ea (by decide)) g
theorem c2_readDoor {Q : Int → Mem → Prop} (T : Tk b L M f) (H : HRd (M 7) h) (K : HOKr h) (ht : (pDoor b L f h).1 = 0 → ∀ M', EqR M M' → Tk b L M' (pDoor b L f h).2.1 → HRd (M' 7) (pDoor b L f h).2.2 → Q 1 M') (hf : (pDoor b L f h).1 ≠ 0 → ∀ M', EqR M M' → M' 2 7 0 = (pDoor b L f h).1 → Q 0 M') : OkI G (n + 3) mX2_readDoor [vO 14] M Q := by
  obtain ⟨k1, k2, k3, k4, -⟩ := id K
  have e1 : M 7 1 0 = h 1 := H.1.2.1
  unfold pDoor at ht hf
  refine eX2_readDoor (fun Kx => bX2_readDoor_0 ?_)
  rw [e1, wrs (x := h 1 - 1) (by omega) (by omega)]
  refine c9_isNumber T (fun z => ⟨fun _ => ?_, fun w => absurd w (by decide)⟩) (fun z Ma ea g => ⟨fun w => absurd rfl w, fun _ => ?_⟩)
  · rw [if_pos z] at ht hf
    obtain ⟨hk, -, a0, a1⟩ := nF_ok z
    refine c9_take T hk (fun M2 E2 T2 => c9_isNumber T2 (fun z2 => ⟨fun _ => ?_, fun w => absurd w (by decide)⟩) (fun z2 Ma ea g => ⟨fun w => absurd rfl w, fun _ => ?_⟩))
    · rw [if_pos z2] at ht hf
      obtain ⟨hk2, -, c0, c1⟩ := nF_ok z2
      refine c9_take T2 hk2 (fun M4 E4 T4 => c9_isNumber T4 (fun z4 => ⟨fun w => absurd w (by decide), fun _ => ?_⟩) (fun z4 Ma ea g => ⟨fun _ => ?_, fun w => absurd rfl w⟩))
      · rw [if_pos z4] at ht
        obtain ⟨hk4, -, m0, m1⟩ := nF_ok z4
        have H4 : HRd (M4 7) h := HRd_eq (HRd_eq H E2 (by decide)) E4 (by decide)
        have wb : 0 ≤ nv b L f ∧ nv b L f < 24 := ⟨a0, by omega⟩
        refine c1_isWay rfl H4.1 k4 (fun _ _ => ⟨fun _ => ⟨wb, fun M7 m7 => ?_⟩, fun w => absurd w (by decide)⟩) (fun w => absurd ⟨a0, by omega⟩ w)
        have T7 : Tk b L M7 (nx b L (nx b L f)) := by rw [m7]; exact T4.mset (by decide)
        refine c9_take T7 hk4 (fun M8 E8 T8 => ⟨wb, fun M9 m9 => ?_⟩)
        have s7 : ∀ k i, M4 7 k i = M 7 k i := fun k i => by rw [E4.obj (o := 7) (by decide), E2.obj (o := 7) (by decide)]
        refine ht rfl M9 ?_ (by rw [m9]; exact T8.mset (by decide)) ?_
        · have q1 : EqR M M4 := (EqR.of E2 (by decide)).trans (EqR.of E4 (by decide))
          have q2 : EqR M4 M8 := EqR.trans (by rw [m7]; exact EqR.mset) (EqR.of E8 (by decide))
          rw [m9]; exact (q1.trans q2).trans EqR.mset
        · refine HRd_door H K a0 (by omega) (fun i => ?_) (fun i => ?_) (fun k i x y => ?_)
          · rw [m9, mset_ne (by simp), E8.obj (o := 7) (by decide), m7, mset_fn, s7]
          · rw [m9, mset_fn, E8.obj (o := 7) (by decide), m7, mset_ne (by simp), s7]
          · rw [m9, mset_ne (fun z => y z.2.1), E8.obj (o := 7) (by decide), m7, mset_ne (fun z => x z.2.1), s7]
      · rw [if_neg z4] at hf
        exact hf z4 Ma (((EqR.of E2 (by decide)).trans (EqR.of E4 (by decide))).trans (EqR.of ea (by decide))) g
    · rw [if_neg z2] at hf
      exact hf z2 Ma ((EqR.of E2 (by decide)).trans (EqR.of ea (by decide))) g
  · rw [if_neg z] at hf
    exact hf z Ma (EqR.of ea (by decide)) g
theorem c2_readHoist {Q : Int → Mem → Prop} (T : Tk b L M f) (H : HRd (M 7) h) (K : HOKr h) (ht : (pHoist b L f h).1 = 0 → ∀ M', EqR M M' → Tk b L M' (pHoist b L f h).2.1 → HRd (M' 7) (pHoist b L f h).2.2 → Q 1 M') (hf : (pHoist b L f h).1 ≠ 0 → ∀ M', EqR M M' → M' 2 7 0 = (pHoist b L f h).1 → Q 0 M') : OkI G (n + 3) mX2_readHoist [vO 14] M Q := by
  unfold pHoist at ht hf
  refine eX2_readHoist (fun Kx => bX2_readHoist_0 ?_)
  refine c9_isNumber T (fun z => ⟨fun _ => ?_, fun w => absurd w (by decide)⟩) (fun z Ma ea g => ⟨fun w => absurd rfl w, fun _ => ?_⟩)
  · rw [if_pos z] at ht hf
    obtain ⟨hk, -, -, -⟩ := nF_ok z
    refine c9_take T hk (fun M2 E2 T2 M3 m3 => ?_)
    have T3 : Tk b L M3 (nx b L f) := by rw [m3]; exact T2.mset (by decide)
    have q3 : EqR M M3 := by rw [m3]; exact (EqR.of E2 (by decide)).trans EqR.mset
    refine c9_isNumber T3 (fun z2 => ⟨fun _ => ?_, fun w => absurd w (by decide)⟩) (fun z2 Ma ea g => ⟨fun w => absurd rfl w, fun _ => ?_⟩)
    · rw [if_pos z2] at ht hf
      obtain ⟨hk2, -, -, -⟩ := nF_ok z2
      refine c9_take T3 hk2 (fun M5 E5 T5 M6 m6 => ?_)
      have T6 : Tk b L M6 (nx b L (nx b L f)) := by rw [m6]; exact T5.mset (by decide)
      have q6 : EqR M M6 := by rw [m6]; exact (q3.trans (EqR.of E5 (by decide))).trans EqR.mset
      refine c9_isNumber T6 (fun z4 => ⟨fun _ => ?_, fun w => absurd w (by decide)⟩) (fun z4 Ma ea g => ⟨fun w => absurd rfl w, fun _ => ?_⟩)
      · rw [if_pos z4] at ht
        obtain ⟨hk4, -, -, -⟩ := nF_ok z4
        refine c9_take T6 hk4 (fun M8 E8 T8 M9 m9 => ht rfl M9 ?_ (by rw [m9]; exact T8.mset (by decide)) ?_)
        · rw [m9]; exact (q6.trans (EqR.of E8 (by decide))).trans EqR.mset
        · refine HRd_hoist H K ?_ ?_ ?_ (fun k i x y w => ?_)
          · rw [m9, mset_ne (by simp), E8.obj (o := 7) (by decide), m6, mset_ne (by simp), E5.obj (o := 7) (by decide), m3, mset_self]
          · rw [m9, mset_ne (by simp), E8.obj (o := 7) (by decide), m6, mset_self]
          · rw [m9, mset_self]
          · rw [m9, mset_ne (fun z => w z.2.1), E8.obj (o := 7) (by decide), m6, mset_ne (fun z => y z.2.1), E5.obj (o := 7) (by decide), m3, mset_ne (fun z => x z.2.1), E2.obj (o := 7) (by decide)]
      · rw [if_neg z4] at hf
        exact hf z4 Ma (q6.trans (EqR.of ea (by decide))) g
    · rw [if_neg z2] at hf
      exact hf z2 Ma (q3.trans (EqR.of ea (by decide))) g
  · rw [if_neg z] at hf
    exact hf z Ma (EqR.of ea (by decide)) g
theorem c2_readPerson {Q : Int → Mem → Prop} (T : Tk b L M f) (H : HRd (M 7) h) (K : HOKr h) (h8 : h 2 < 8) (ht : (pPerson b L f h).1 = 0 → ∀ M', EqR M M' → Tk b L M' (pPerson b L f h).2.1 → HRd (M' 7) (pPerson b L f h).2.2 → Q 1 M') (hf : (pPerson b L f h).1 ≠ 0 → ∀ M', EqR M M' → M' 2 7 0 = (pPerson b L f h).1 → Q 0 M') : OkI G (n + 3) mX2_readPerson [vO 14] M Q := by
  obtain ⟨k1, k2, k3, k4, k5, k6, -⟩ := id K
  have e0 : M 7 0 0 = h 0 := H.1.1
  have e2 : M 7 2 0 = h 2 := H.1.2.2.1
  unfold pPerson at ht hf
  refine eX2_readPerson (fun Kx => bX2_readPerson_0 ?_)
  rw [e0, wrs (x := h 0 - 1) (by omega) (by omega)]
  refine c9_isNumber T (fun z => ⟨fun w => absurd w (by decide), fun _ => ?_⟩) (fun z Ma ea g => ⟨fun _ => ?_, fun w => absurd rfl w⟩)
  · rw [if_pos z] at ht
    obtain ⟨hk, -, a0, a1⟩ := nF_ok z
    rw [e2]
    refine ⟨fun _ => c9_take T hk (fun M2 E2 T2 => ⟨⟨k5, h8⟩, fun M3 m3 M4 m4 => ?_⟩), fun w => absurd h8 w⟩
    have g32 : M3 7 2 0 = h 2 := by rw [m3, mset_ne (by simp), E2.obj (o := 7) (by decide)]; exact e2
    rw [g32, wrs (x := h 2 + 1) (by omega) (by omega)] at m4
    refine ht rfl M4 ?_ ?_ ?_
    · rw [m4, m3]; exact ((EqR.of E2 (by decide)).trans EqR.mset).trans EqR.mset
    · rw [m4, m3]; exact (T2.mset (by decide)).mset (by decide)
    · refine HRd_person H K h8 (by rw [m4, mset_self]) (fun i => ?_) (fun k i x y => ?_)
      · rw [m4, mset_ne (by simp), m3, mset_fn, E2.obj (o := 7) (by decide)]
      · rw [m4, mset_ne (fun z => x z.2.1), m3, mset_ne (fun z => y z.2.1), E2.obj (o := 7) (by decide)]
  · rw [if_neg z] at hf
    exact hf z Ma (EqR.of ea (by decide)) g
end HRE
