/-! ===== what stays when another part of the row changes ===== -/
section CGR
variable {s s' : Int → Int}
/-- the house is the same -/
def HE (s s' : Int → Int) : Prop := s' 0 = s 0 ∧ s' 1 = s 1 ∧ s' 2 = s 2 ∧ s' 4 = s 4 ∧ s' 5 = s 5 ∧ s' 6 = s 6 ∧ (∀ i, 12 ≤ i → i < 172 → s' i = s i) ∧ ∀ p, 0 ≤ p → p < 8 → s' (172 + 5 * p + 1) = s (172 + 5 * p + 1)
/-- the day is the same -/
def DE (s s' : Int → Int) : Prop := s' 3 = s 3 ∧ ∀ p, 0 ≤ p → p < 8 → s' (172 + 5 * p + 0) = s (172 + 5 * p + 0) ∧ s' (172 + 5 * p + 2) = s (172 + 5 * p + 2) ∧ s' (172 + 5 * p + 3) = s (172 + 5 * p + 3) ∧ s' (172 + 5 * p + 4) = s (172 + 5 * p + 4)
/-- the lists are the same -/
def LiE (s s' : Int → Int) : Prop := s' 7 = s 7 ∧ s' 8 = s 8 ∧ s' 9 = s 9 ∧ s' 10 = s 10 ∧ s' 11 = s 11 ∧ ∀ i, 212 ≤ i → i < 328 → s' i = s i
theorem HE.symm (h : HE s s') : HE s' s := by
  obtain ⟨h0, h1, h2, h4, h5, h6, hi, hp⟩ := h
  exact ⟨h0.symm, h1.symm, h2.symm, h4.symm, h5.symm, h6.symm, fun i a b => (hi i a b).symm, fun p a b => (hp p a b).symm⟩
theorem HE.top (h : HE s s') (h16 : s 0 ≤ 16) {t : Int} (ht : isTop s t) : isTop s' t := by
  obtain ⟨h0, h1, h2, h4, h5, h6, hi, hp⟩ := h
  obtain ⟨a, b, c, d⟩ := ht
  refine ⟨a, by rw [h0]; exact b, fun r r1 r2 => ?_, fun r r1 r2 => ?_⟩
  · rw [h0] at r2
    rw [hi (12 + r) (by omega) (by omega), hi (12 + t) (by omega) (by omega)]; exact c r r1 r2
  · rw [hi (12 + r) (by omega) (by omega), hi (12 + t) (by omega) (by omega)]; exact d r r1 r2
theorem HE.ok (h : HE s s') (K : HOK s) : HOK s' := by
  have h' := h
  obtain ⟨h0, h1, h2, h4, h5, h6, hi, hp⟩ := h
  obtain ⟨k1, k2, k3, k4, k5, k6, k7, k8, k9, k10, k11⟩ := K
  unfold HOK
  rw [h0, h1, h2, h4, h5, h6]
  refine ⟨k1, k2, k3, k4, k5, k6, k7, k8, fun r r1 r2 => ?_, fun w w1 w2 => ?_, fun p p1 p2 => ?_⟩
  · rw [hi (12 + r) (by omega) (by omega)]; exact k9 r r1 r2
  · obtain ⟨a, b, c, d, e⟩ := k10 w w1 w2
    rw [hi (28 + 6 * w + 0) (by omega) (by omega), hi (28 + 6 * w + 1) (by omega) (by omega), hi (28 + 6 * w + 2) (by omega) (by omega), hi (28 + 6 * w + 3) (by omega) (by omega), hi (28 + 6 * w + 4) (by omega) (by omega), hi (28 + 6 * w + 5) (by omega) (by omega), hi (12 + s (28 + 6 * w + 1)) (by omega) (by omega), hi (12 + s (28 + 6 * w + 0)) (by omega) (by omega)]
    exact ⟨a, b, c, d, e⟩
  · rw [hp p p1 (by omega)]; exact k11 p p1 p2
theorem HE.hr (h : HE s s') (K : HOK s) {f : Nat → Nat → Int} (H : HR f s) : HR f s' := by
  have h' := h
  obtain ⟨h0, h1, h2, h4, h5, h6, hi, hp⟩ := h
  obtain ⟨k1, k2, k3, k4, k5, k6, -⟩ := K
  obtain ⟨a0, a1, a2, a4, a5, a6, b1, b2, b3, b4⟩ := H
  unfold HR
  rw [h0, h1, h2, h4, h5, h6]
  refine ⟨a0, a1, a2, a4, a5, a6, fun r r1 r2 => ?_, fun w w1 w2 => ?_, fun p p1 p2 => ?_, fun z => h'.top (by omega) (b4 z)⟩
  · rw [hi (12 + r) (by omega) (by omega)]; exact b1 r r1 r2
  · rw [hi (28 + 6 * w + 0) (by omega) (by omega), hi (28 + 6 * w + 1) (by omega) (by omega), hi (28 + 6 * w + 2) (by omega) (by omega), hi (28 + 6 * w + 3) (by omega) (by omega), hi (28 + 6 * w + 4) (by omega) (by omega), hi (28 + 6 * w + 5) (by omega) (by omega)]
    exact b2 w w1 w2
  · rw [hp p p1 (by omega)]; exact b3 p p1 p2
theorem HE.endw (h : HE s s') {w r : Int} (h1 : 0 ≤ w) (h2 : w < 24) : endW s' w r = endW s w r := by
  have hi := h.2.2.2.2.2.2.1
  unfold endW
  rw [hi (28 + 6 * w + 0) (by omega) (by omega), hi (28 + 6 * w + 1) (by omega) (by omega), hi (28 + 6 * w + 3) (by omega) (by omega)]
theorem HE.opw (h : HE s s') {w m : Int} (h1 : 0 ≤ w) (h2 : w < 24) : opW s' w m = opW s w m := by
  have hi := h.2.2.2.2.2.2.1
  unfold opW
  rw [hi (28 + 6 * w + 4) (by omega) (by omega), hi (28 + 6 * w + 5) (by omega) (by omega)]
theorem HE.ed (h : HE s s') (K : HOK s) {r u m r' u' m' : Int} (he : Ed s r u m r' u' m') : Ed s' r u m r' u' m' := by
  obtain ⟨h0, h1, h2, h4, h5, h6, hi, hp⟩ := id h
  have k4 := K.2.2.2.1
  rcases he with ⟨a, b, w, w1, w2, w3, w4, w5⟩ | ⟨a, b, c, d, e, g⟩
  · refine Or.inl ⟨a, b, w, w1, by omega, by rw [h.endw w1 (by omega)]; exact w3, by rw [h.opw w1 (by omega)]; exact w4, ?_⟩
    rw [h.opw w1 (by omega), hi (28 + 6 * w + 2) (by omega) (by omega)]; exact w5
  · have eh : hoM s' m = hoM s m := by unfold hoM; rw [h6]
    exact Or.inr ⟨a, b, by omega, h.top K.2.1 d, by rw [eh]; exact e, by rw [eh, h4]; exact g⟩
theorem HE.rn (h : HE s s') (K : HOK s) {S : Src} : ∀ (k : Nat) (r u m : Int), Rn s S k r u m → Rn s' S k r u m
  | 0, _, _, _, hr => hr
  | k + 1, r, u, m, hr => by
    rcases hr with hr | ⟨r0, u0, m0, a, b, c⟩
    · exact Or.inl (h.rn K k _ _ _ hr)
    · exact Or.inr ⟨r0, u0, m0, h.rn K k _ _ _ a, h.ed K b, c⟩
theorem HE.tab (h : HE s s') (K : HOK s) {S : Src} {D : Tb} (ht : Tab s S D) : Tab s' S D := by
  have h0 := h.1
  have hv : ∀ {r u}, VN s' r u → VN s r u := fun v => ⟨v.1, by have := v.2.1; omega, v.2.2⟩
  refine ⟨fun r u v hd => ?_, fun r u v m hr => ?_⟩
  · obtain ⟨k, hk⟩ := ht.1 r u (hv v) hd
    exact ⟨k, h.rn K k _ _ _ hk⟩
  · obtain ⟨k, hk⟩ := hr
    exact ht.2 r u (hv v) m ⟨k, h.symm.rn (h.ok K) k _ _ _ hk⟩
theorem DE.symm (h : DE s s') : DE s' s := ⟨h.1.symm, fun p a b => by obtain ⟨q1, q2, q3, q4⟩ := h.2 p a b; exact ⟨q1.symm, q2.symm, q3.symm, q4.symm⟩⟩
theorem DE.rid (h : DE s s') : ∀ k : Nat, k ≤ 8 → ridS s' k = ridS s k
  | 0, _ => rfl
  | k + 1, hk => by
    unfold ridS
    rw [h.rid k (by omega), (h.2 (k : Int) (by omega) (by omega)).2.1, h.1]
theorem DE.dr (h : DE s s') (e2 : s' 2 = s 2) (k2 : 0 ≤ s 2 ∧ s 2 ≤ 8) {f : Nat → Nat → Int} (D : DR f s) : DR f s' := by
  obtain ⟨d1, d2, d3⟩ := D
  unfold DR
  rw [h.1, e2, h.rid _ (by omega)]
  refine ⟨d1, d2, fun p p1 p2 => ?_⟩
  obtain ⟨q1, q2, q3, q4⟩ := h.2 p p1 (by omega)
  rw [q1, q2, q3, q4]; exact d3 p p1 p2
theorem DE.dok (h : DE s s') (e0 : s' 0 = s 0) (e2 : s' 2 = s 2) (k2 : s 2 ≤ 8) (D : DOK s) : DOK s' := by
  obtain ⟨d1, d2, d3⟩ := D
  unfold DOK
  rw [h.1, e0, e2]
  refine ⟨d1, d2, fun p p1 p2 => ?_⟩
  obtain ⟨q1, q2, q3, q4⟩ := h.2 p p1 (by omega)
  rw [q1, q2, q3, q4]; exact d3 p p1 p2
theorem LiE.lok (h : LiE s s') (e0 : s' 0 = s 0) (L : LOK s) : LOK s' := by
  obtain ⟨h7, h8, h9, h10, h11, hi⟩ := h
  obtain ⟨l7, l8, l9, l10, l11, le, lt, lr, lc⟩ := L
  unfold LOK
  rw [h7, h8, h9, h10, h11, e0]
  refine ⟨l7, l8, l9, l10, l11, fun e e1 e2 => ?_, fun e e1 e2 => ?_, fun e e1 e2 => ?_, fun e e1 e2 => ?_⟩
  · rw [hi (212 + 4 * e + 0) (by omega) (by omega), hi (212 + 4 * e + 1) (by omega) (by omega), hi (212 + 4 * e + 2) (by omega) (by omega), hi (212 + 4 * e + 3) (by omega) (by omega)]; exact le e e1 e2
  · rw [hi (252 + 3 * e + 0) (by omega) (by omega), hi (252 + 3 * e + 1) (by omega) (by omega), hi (252 + 3 * e + 2) (by omega) (by omega)]; exact lt e e1 e2
  · rw [hi (288 + e) (by omega) (by omega)]; exact lr e e1 e2
  · rw [hi (308 + 2 * e) (by omega) (by omega), hi (308 + 2 * e + 1) (by omega) (by omega)]; exact lc e e1 e2
theorem TTh_cg (h : HE s s') (K : HOK s) {t v : Int} (h0 : s' (252 + 3 * t + 0) = s (252 + 3 * t + 0)) (h1 : s' (252 + 3 * t + 1) = s (252 + 3 * t + 1)) (h2 : s' (252 + 3 * t + 2) = s (252 + 3 * t + 2)) (ht : TTh s t v) : TTh s' t v := by
  obtain ⟨D, d1, d2⟩ := ht
  refine ⟨D, ?_, ?_⟩
  · rw [h0, h1]; exact h.tab K d1
  · rw [h2]; exact d2
theorem LiE.lr (h : LiE s s') (hh : HE s s') (K : HOK s) (LO : LOK s) {f : Nat → Nat → Int} (L : LR f s) : LR f s' := by
  obtain ⟨h7, h8, h9, h10, h11, hi⟩ := h
  obtain ⟨a0, a1, a2, a3, a4, le, lt, lr, lc⟩ := L
  obtain ⟨l7, l8, l9, l10, -⟩ := LO
  unfold LR
  rw [h7, h8, h9, h10, h11]
  refine ⟨a0, a1, a2, a3, a4, fun e e1 e2 => ?_, fun e e1 e2 => ?_, fun e e1 e2 => ?_, fun e e1 e2 => ?_⟩
  · rw [hi (212 + 4 * e + 0) (by omega) (by omega), hi (212 + 4 * e + 1) (by omega) (by omega), hi (212 + 4 * e + 2) (by omega) (by omega), hi (212 + 4 * e + 3) (by omega) (by omega)]; exact le e e1 e2
  · obtain ⟨q1, q2, q3, q4⟩ := lt e e1 e2
    have z0 := hi (252 + 3 * e + 0) (by omega) (by omega)
    have z1 := hi (252 + 3 * e + 1) (by omega) (by omega)
    have z2 := hi (252 + 3 * e + 2) (by omega) (by omega)
    refine ⟨by rw [z0]; exact q1, by rw [z1]; exact q2, by rw [z2]; exact q3, TTh_cg hh K z0 z1 z2 q4⟩
  · rw [hi (288 + e) (by omega) (by omega)]; exact lr e e1 e2
  · rw [hi (308 + 2 * e) (by omega) (by omega), hi (308 + 2 * e + 1) (by omega) (by omega)]; exact lc e e1 e2
/-- nothing but the lists changes -/
def LX (s s' : Int → Int) : Prop := ∀ i, 0 ≤ i → i < 212 → ¬ (7 ≤ i ∧ i ≤ 11) → s' i = s i
theorem LX.he (h : LX s s') : HE s s' := ⟨h 0 (by decide) (by decide) (by decide), h 1 (by decide) (by decide) (by decide), h 2 (by decide) (by decide) (by decide), h 4 (by decide) (by decide) (by decide), h 5 (by decide) (by decide) (by decide), h 6 (by decide) (by decide) (by decide), fun i a b => h i (by omega) (by omega) (by omega), fun p a b => h _ (by omega) (by omega) (by omega)⟩
theorem LX.de (h : LX s s') : DE s s' := ⟨h 3 (by decide) (by decide) (by decide), fun p a b => ⟨h _ (by omega) (by omega) (by omega), h _ (by omega) (by omega) (by omega), h _ (by omega) (by omega) (by omega), h _ (by omega) (by omega) (by omega)⟩⟩
theorem sd_set {M : Mem} {j : Nat} {x i : Int} : sd (mset M 0 26 j x) i = if i.toNat = j then x else sd M i := by
  show mset M 0 26 j x 0 26 i.toNat = _
  by_cases e : i.toNat = j
  · rw [if_pos e, e, mset_self]
  · rw [if_neg e, mset_ne (fun z => e z.2.2)]; rfl
end CGR
section LSM
variable {G : Gx} {n : Nat} {M : Mem}
/-- what each change of the lists keeps -/
def LJ (M M2 : Mem) : Prop := (∀ o k i, o ≠ 6 → (o, k) ≠ (0, 26) → M2 o k i = M o k i) ∧ LX (sd M) (sd M2) ∧ LR (M2 6) (sd M2) ∧ LOK (sd M2)
theorem both_rider {x : Int} {P : Int → Int → Mem → Prop} (K : HOK (sd M)) (L : LR (M 6) (sd M)) (LO : LOK (sd M)) (h : ∀ r M2, LJ M M2 → P r r M2) : OkI G (n + 1) mX11_rider [vO 1, vI x] M (fun r1 M1 => OkI G (n + 1) mX12_rider [vO 0, vI x] M1 (fun r2 M2 => P r1 r2 M2)) := by
  have h9 := LO.2.2.1
  have e3 : M 6 3 0 = sd M 9 := L.2.2.2.1
  have hM : LJ M M := ⟨fun _ _ _ _ _ => rfl, fun _ _ _ _ => rfl, L, LO⟩
  have e9 : M 0 26 9 = sd M 9 := rfl
  refine eX11_rider (fun Kx => bX11_rider_0 ⟨fun a => c11_isMinute (fun b1 b2 => ⟨fun z => absurd z (by decide), fun _ => ?_⟩) (fun b => ⟨fun _ => ?_, fun z => absurd rfl z⟩), fun a M3 em => ?_⟩)
  · rw [e3]
    refine ⟨fun c => eX3_addRider (fun Ky => bX3_addRider_0 rfl ?_), fun c => ?_⟩
    · rw [e3]
      refine ⟨fun _ => ⟨⟨h9.1, c⟩, fun M1 em1 M2 em2 => ?_⟩, fun z => absurd c z⟩
      have c3 : M1 6 3 0 = sd M 9 := by rw [em1, mset_ne (by simp)]; exact e3
      rw [c3, wrs (x := sd M 9 + 1) (by omega) (by omega)] at em2
      have d9 : M2 0 26 9 = sd M 9 := by rw [em2, mset_ne (by simp), em1, mset_ne (by simp)]; rfl
      have d3 : M2 6 3 0 = sd M 9 + 1 := by rw [em2, mset_self]
      rw [d3]
      refine eX12_rider (fun Kz => bX12_rider_0 ⟨fun _ => c12_isMinute (fun _ _ => ⟨fun z => absurd z (by decide), fun _ => ?_⟩) (fun z => absurd ⟨b1, b2⟩ z), fun z => absurd z a⟩)
      rw [d9, wrs (x := 288 + sd M 9) (by omega) (by omega)]
      refine ⟨fun _ => ⟨⟨by omega, by omega⟩, fun M4 em4 M5 em5 => ?_⟩, fun z => absurd z (by omega)⟩
      have f9 : M4 0 26 9 = sd M 9 := by rw [em4, mset_ne (by simp; omega)]; exact d9
      rw [f9, wrs (x := sd M 9 + 1) (by omega) (by omega)] at em5
      have g9 : M5 0 26 9 = sd M 9 + 1 := by rw [em5, mset_self]
      rw [g9]
      have hsd : ∀ i : Int, sd M5 i = if i.toNat = 9 then sd M 9 + 1 else if i.toNat = (288 + sd M 9).toNat then x else sd M i := by
        intro i
        rw [em5, sd_set, em4, sd_set]
        by_cases q : i.toNat = 9
        · rw [if_pos q, if_pos q]
        · rw [if_neg q, if_neg q]
          by_cases q2 : i.toNat = (288 + sd M 9).toNat
          · rw [if_pos q2, if_pos q2]
          · rw [if_neg q2, if_neg q2]
            show M2 0 26 _ = M 0 26 _
            rw [em2, mset_ne (by simp), em1, mset_ne (by simp)]
      have hs : ∀ i : Int, 0 ≤ i → i ≠ 9 → i ≠ 288 + sd M 9 → sd M5 i = sd M i := fun i i0 i1 i2 => by rw [hsd, if_neg (by omega), if_neg (by omega)]
      have hs9 : sd M5 9 = sd M 9 + 1 := by rw [hsd, if_pos (by decide)]
      have h6 : ∀ k i, k ≠ 3 → k ≠ 13 → M5 6 k i = M 6 k i := fun k i k1 k2 => by
        rw [em5, mset_ne (by simp), em4, mset_ne (by simp), em2, mset_ne (fun z => k1 z.2.1), em1, mset_ne (fun z => k2 z.2.1)]
      have hx : LX (sd M) (sd M5) := fun i i0 i1 i2 => hs i i0 (by omega) (by omega)
      refine h _ M5 ⟨fun o k i ho hk => ?_, hx, ?_, ?_⟩
      · rw [em5, mset_ne (fun z => hk (by rw [z.1, z.2.1])), em4, mset_ne (fun z => hk (by rw [z.1, z.2.1])), em2, mset_ne (fun z => ho z.1), em1, mset_ne (fun z => ho z.1)]
      · obtain ⟨a0, a1, a2, a3, a4, le, lt, lr, lc⟩ := L
        obtain ⟨l7, l8, l9, l10, -⟩ := LO
        have w7 := hs 7 (by decide) (by decide) (by omega)
        have w8 := hs 8 (by decide) (by decide) (by omega)
        have w10 := hs 10 (by decide) (by decide) (by omega)
        have w11 := hs 11 (by decide) (by decide) (by omega)
        refine ⟨by rw [h6 0 _ (by decide) (by decide), w11]; exact a0, by rw [h6 1 _ (by decide) (by decide), w7]; exact a1, by rw [h6 2 _ (by decide) (by decide), w8]; exact a2, ?_, by rw [h6 4 _ (by decide) (by decide), w10]; exact a4, fun e e1 e2 => ?_, fun t e1 e2 => ?_, fun k e1 e2 => ?_, fun e e1 e2 => ?_⟩
        · rw [hs9, em5, mset_ne (by simp), em4, mset_ne (by simp)]; exact d3
        · rw [w7] at e2
          rw [h6 5 _ (by decide) (by decide), h6 6 _ (by decide) (by decide), h6 7 _ (by decide) (by decide), h6 8 _ (by decide) (by decide), hs (212 + 4 * e + 0) (by omega) (by omega) (by omega), hs (212 + 4 * e + 1) (by omega) (by omega) (by omega), hs (212 + 4 * e + 2) (by omega) (by omega) (by omega), hs (212 + 4 * e + 3) (by omega) (by omega) (by omega)]
          exact le e e1 e2
        · rw [w8] at e2
          obtain ⟨q1, q2, q3, q4⟩ := lt t e1 e2
          have z0 := hs (252 + 3 * t + 0) (by omega) (by omega) (by omega)
          have z1 := hs (252 + 3 * t + 1) (by omega) (by omega) (by omega)
          have z2 := hs (252 + 3 * t + 2) (by omega) (by omega) (by omega)
          rw [h6 9 _ (by decide) (by decide), h6 10 _ (by decide) (by decide), h6 11 _ (by decide) (by decide), h6 12 _ (by decide) (by decide)]
          exact ⟨by rw [z0]; exact q1, by rw [z1]; exact q2, by rw [z2]; exact q3, TTh_cg hx.he K z0 z1 z2 q4⟩
        · rw [hs9] at e2
          rw [em5, mset_ne (by simp), em4, mset_ne (by simp), em2, mset_ne (by simp), em1]
          by_cases q : k = sd M 9
          · rw [q, mset_self, ← em1, ← em2, ← em4, ← em5, hsd, if_neg (by omega), if_pos rfl]
          · rw [mset_ne (fun z => q (by have := z.2.2; omega)), ← em1, ← em2, ← em4, ← em5, hs (288 + k) (by omega) (by omega) (by omega)]
            exact lr k e1 (by omega)
        · rw [w10] at e2
          rw [h6 14 _ (by decide) (by decide), h6 15 _ (by decide) (by decide), hs (308 + 2 * e) (by omega) (by omega) (by omega), hs (308 + 2 * e + 1) (by omega) (by omega) (by omega)]
          exact lc e e1 e2
      · obtain ⟨l7, l8, l9, l10, l11, le, lt, lr, lc⟩ := LO
        have w7 := hs 7 (by decide) (by decide) (by omega)
        have w8 := hs 8 (by decide) (by decide) (by omega)
        have w10 := hs 10 (by decide) (by decide) (by omega)
        have w11 := hs 11 (by decide) (by decide) (by omega)
        have w0 := hs 0 (by decide) (by decide) (by omega)
        unfold LOK
        rw [w0, w7, w8, w10, w11, hs9]
        refine ⟨l7, l8, ⟨by omega, by omega⟩, l10, l11, fun e e1 e2 => ?_, fun e e1 e2 => ?_, fun k e1 e2 => ?_, fun e e1 e2 => ?_⟩
        · rw [hs (212 + 4 * e + 0) (by omega) (by omega) (by omega), hs (212 + 4 * e + 1) (by omega) (by omega) (by omega), hs (212 + 4 * e + 2) (by omega) (by omega) (by omega), hs (212 + 4 * e + 3) (by omega) (by omega) (by omega)]; exact le e e1 e2
        · rw [hs (252 + 3 * e + 0) (by omega) (by omega) (by omega), hs (252 + 3 * e + 1) (by omega) (by omega) (by omega), hs (252 + 3 * e + 2) (by omega) (by omega) (by omega)]; exact lt e e1 e2
        · by_cases q : k = sd M 9
          · rw [q, hsd, if_neg (by omega), if_pos rfl]; exact ⟨b1, b2⟩
          · rw [hs (288 + k) (by omega) (by omega) (by omega)]; exact lr k e1 (by omega)
        · rw [hs (308 + 2 * e) (by omega) (by omega) (by omega), hs (308 + 2 * e + 1) (by omega) (by omega) (by omega)]; exact lc e e1 e2
    · refine eX12_rider (fun Kz => bX12_rider_0 ⟨fun _ => c12_isMinute (fun _ _ => ⟨fun z => absurd z (by decide), fun _ => ?_⟩) (fun z => absurd ⟨b1, b2⟩ z), fun z => absurd z a⟩)
      rw [e9]
      exact ⟨fun z => absurd (by omega) z, fun _ => h _ M hM⟩
  · exact eX12_rider (fun Kz => bX12_rider_0 ⟨fun _ => c12_isMinute (fun z1 z2 => absurd ⟨z1, z2⟩ b) (fun _ => ⟨fun _ => h _ M hM, fun z => absurd rfl z⟩), fun z => absurd z a⟩)
  · refine eX12_rider (fun Kz => bX12_rider_0 ⟨fun z => absurd a z, fun _ M4 em4 => h _ M4 ?_⟩)
    have hsd : ∀ i : Int, sd M4 i = if i.toNat = 9 then 0 else sd M i := by
      intro i
      rw [em4, sd_set]
      by_cases q : i.toNat = 9
      · rw [if_pos q, if_pos q]
      · rw [if_neg q, if_neg q]
        show M3 0 26 _ = M 0 26 _
        rw [em, mset_ne (by simp)]
    have hs : ∀ i : Int, i.toNat ≠ 9 → sd M4 i = sd M i := fun i i1 => by rw [hsd, if_neg i1]
    have hs9 : sd M4 9 = 0 := by rw [hsd, if_pos (by decide)]
    have h6 : ∀ k i, k ≠ 3 → M4 6 k i = M 6 k i := fun k i k1 => by rw [em4, mset_ne (by simp), em, mset_ne (fun z => k1 z.2.1)]
    have hx : LX (sd M) (sd M4) := fun i i0 i1 i2 => hs i (by omega)
    refine ⟨fun o k i ho hk => ?_, hx, ?_, ?_⟩
    · rw [em4, mset_ne (fun z => hk (by rw [z.1, z.2.1])), em, mset_ne (fun z => ho z.1)]
    · obtain ⟨a0, a1, a2, a3, a4, le, lt, lr, lc⟩ := L
      unfold LR
      rw [h6 0 _ (by decide), h6 1 _ (by decide), h6 2 _ (by decide), h6 4 _ (by decide), hs9, hs 7 (by decide), hs 8 (by decide), hs 10 (by decide), hs 11 (by decide)]
      refine ⟨a0, a1, a2, by rw [em4, mset_ne (by simp), em, mset_self], a4, fun e e1 e2 => ?_, fun t e1 e2 => ?_, fun k e1 e2 => by omega, fun e e1 e2 => ?_⟩
      · rw [h6 5 _ (by decide), h6 6 _ (by decide), h6 7 _ (by decide), h6 8 _ (by decide), hs (212 + 4 * e + 0) (by omega), hs (212 + 4 * e + 1) (by omega), hs (212 + 4 * e + 2) (by omega), hs (212 + 4 * e + 3) (by omega)]
        exact le e e1 e2
      · obtain ⟨q1, q2, q3, q4⟩ := lt t e1 e2
        have z0 := hs (252 + 3 * t + 0) (by omega)
        have z1 := hs (252 + 3 * t + 1) (by omega)
        have z2 := hs (252 + 3 * t + 2) (by omega)
        rw [h6 9 _ (by decide), h6 10 _ (by decide), h6 11 _ (by decide), h6 12 _ (by decide)]
        exact ⟨by rw [z0]; exact q1, by rw [z1]; exact q2, by rw [z2]; exact q3, TTh_cg hx.he K z0 z1 z2 q4⟩
      · rw [h6 14 _ (by decide), h6 15 _ (by decide), hs (308 + 2 * e) (by omega), hs (308 + 2 * e + 1) (by omega)]
        exact lc e e1 e2
    · obtain ⟨l7, l8, l9, l10, l11, le, lt, lr, lc⟩ := LO
      unfold LOK
      rw [hs 0 (by decide), hs 7 (by decide), hs 8 (by decide), hs 10 (by decide), hs 11 (by decide), hs9]
      refine ⟨l7, l8, ⟨by omega, by omega⟩, l10, l11, fun e e1 e2 => ?_, fun e e1 e2 => ?_, fun k e1 e2 => by omega, fun e e1 e2 => ?_⟩
      · rw [hs (212 + 4 * e + 0) (by omega), hs (212 + 4 * e + 1) (by omega), hs (212 + 4 * e + 2) (by omega), hs (212 + 4 * e + 3) (by omega)]; exact le e e1 e2
      · rw [hs (252 + 3 * e + 0) (by omega), hs (252 + 3 * e + 1) (by omega), hs (252 + 3 * e + 2) (by omega)]; exact lt e e1 e2
      · rw [hs (308 + 2 * e) (by omega), hs (308 + 2 * e + 1) (by omega)]; exact lc e e1 e2
end LSM
