/-! ===== images gone back to ===== -/
section BCK
variable {G : Gx} {n : Nat} {M M1 : Mem} {d e : Nat} {s s' : Int → Int}
theorem c1_copyFrom {Q : Mem → Prop} (hd : oc d = 1) (he : oc e = 1) (hne : e ≠ d) (h : ∀ M', CpJ 1 15 d e M M' → Q M') : OkV G (n + 2) mX1_copyFrom [vO d, vO e] M Q := by
  refine eX1_copyFrom (fun Kx => bX1_copyFrom_0 he hd (fun M1 m1 M2 m2 M3 m3 M4 m4 M5 m5 M6 m6 M7 m7 => ?_))
  have c1 : CpJ 1 1 d e M M1 := by rw [m1]; exact CpJ_set hne CpJ_0 rfl
  have c2 : CpJ 1 2 d e M M2 := by rw [m2]; exact CpJ_set hne c1 rfl
  have c3 : CpJ 1 3 d e M M3 := by rw [m3]; exact CpJ_set hne c2 rfl
  have c4 : CpJ 1 4 d e M M4 := by rw [m4]; exact CpJ_set hne c3 rfl
  have c5 : CpJ 1 5 d e M M5 := by rw [m5]; exact CpJ_set hne c4 rfl
  have c6 : CpJ 1 6 d e M M6 := by rw [m6]; exact CpJ_set hne c5 rfl
  have c7 : CpJ 1 7 d e M M7 := by rw [m7]; exact CpJ_set hne c6 rfl
  refine c11_copyRow (N := 16) (by rw [he]; rfl) (by rw [hd]; rfl) (by rw [he]; rfl) (by rw [hd]; rfl) (by decide) ?_
  have c8 := CpJ_cpy (N := 16) hne c7 rfl
  refine c11_copyRow (N := 24) (by rw [he]; rfl) (by rw [hd]; rfl) (by rw [he]; rfl) (by rw [hd]; rfl) (by decide) ?_
  have c9 := CpJ_cpy (N := 24) hne c8 rfl
  refine c11_copyRow (N := 24) (by rw [he]; rfl) (by rw [hd]; rfl) (by rw [he]; rfl) (by rw [hd]; rfl) (by decide) ?_
  have c10 := CpJ_cpy (N := 24) hne c9 rfl
  refine c11_copyRow (N := 24) (by rw [he]; rfl) (by rw [hd]; rfl) (by rw [he]; rfl) (by rw [hd]; rfl) (by decide) ?_
  have c11 := CpJ_cpy (N := 24) hne c10 rfl
  refine c11_copyRow (N := 24) (by rw [he]; rfl) (by rw [hd]; rfl) (by rw [he]; rfl) (by rw [hd]; rfl) (by decide) ?_
  have c12 := CpJ_cpy (N := 24) hne c11 rfl
  refine c11_copyRow (N := 24) (by rw [he]; rfl) (by rw [hd]; rfl) (by rw [he]; rfl) (by rw [hd]; rfl) (by decide) ?_
  have c13 := CpJ_cpy (N := 24) hne c12 rfl
  refine c11_copyRow (N := 24) (by rw [he]; rfl) (by rw [hd]; rfl) (by rw [he]; rfl) (by rw [hd]; rfl) (by decide) ?_
  have c14 := CpJ_cpy (N := 24) hne c13 rfl
  refine c11_copyRow (N := 8) (by rw [he]; rfl) (by rw [hd]; rfl) (by rw [he]; rfl) (by rw [hd]; rfl) (by decide) ?_
  exact h _ (CpJ_cpy (N := 8) hne c14 rfl)
theorem HR_cp (h : CpJ 1 15 d e M M1) (K : HOK s) (H : HR (M e) s) : HR (M1 d) s := by
  obtain ⟨k1, k2, k3, k4, k5, k6, -⟩ := K
  obtain ⟨a0, a1, a2, a4, a5, a6, b1, b2, b3, b4⟩ := H
  refine ⟨(h.2 0 (by decide) 0 (by decide)).trans a0, (h.2 1 (by decide) 0 (by decide)).trans a1, (h.2 2 (by decide) 0 (by decide)).trans a2, (h.2 4 (by decide) 0 (by decide)).trans a4, (h.2 5 (by decide) 0 (by decide)).trans a5, (h.2 6 (by decide) 0 (by decide)).trans a6, fun r r1 r2 => ?_, fun w w1 w2 => ?_, fun p p1 p2 => ?_, fun z => ?_⟩
  · have l : r.toNat < ln 1 7 := by show r.toNat < 16; omega
    exact (h.2 7 (by decide) _ l).trans (b1 r r1 r2)
  · have l : w.toNat < 24 := by omega
    obtain ⟨q0, q1, q2, q3, q4, q5⟩ := b2 w w1 w2
    exact ⟨(h.2 8 (by decide) _ l).trans q0, (h.2 9 (by decide) _ l).trans q1, (h.2 10 (by decide) _ l).trans q2, (h.2 11 (by decide) _ l).trans q3, (h.2 12 (by decide) _ l).trans q4, (h.2 13 (by decide) _ l).trans q5⟩
  · have l : p.toNat < ln 1 14 := by show p.toNat < 8; omega
    exact (h.2 14 (by decide) _ l).trans (b3 p p1 p2)
  · rw [h.2 3 (by decide) 0 (by decide)]; exact b4 z
theorem c3_copyFrom {Q : Mem → Prop} (hd : oc d = 3) (he : oc e = 3) (hne : e ≠ d) (h : ∀ M', CpJ 3 16 d e M M' → Q M') : OkV G (n + 2) mX3_copyFrom [vO d, vO e] M Q := by
  refine eX3_copyFrom (fun Kx => bX3_copyFrom_0 he hd (fun M1 m1 M2 m2 M3 m3 M4 m4 M5 m5 => ?_))
  have c1 : CpJ 3 1 d e M M1 := by rw [m1]; exact CpJ_set hne CpJ_0 rfl
  have c2 : CpJ 3 2 d e M M2 := by rw [m2]; exact CpJ_set hne c1 rfl
  have c3 : CpJ 3 3 d e M M3 := by rw [m3]; exact CpJ_set hne c2 rfl
  have c4 : CpJ 3 4 d e M M4 := by rw [m4]; exact CpJ_set hne c3 rfl
  have c5 : CpJ 3 5 d e M M5 := by rw [m5]; exact CpJ_set hne c4 rfl
  refine c11_copyRow (N := 10) (by rw [he]; rfl) (by rw [hd]; rfl) (by rw [he]; rfl) (by rw [hd]; rfl) (by decide) ?_
  have c6 := CpJ_cpy (N := 10) hne c5 rfl
  refine c11_copyRow (N := 10) (by rw [he]; rfl) (by rw [hd]; rfl) (by rw [he]; rfl) (by rw [hd]; rfl) (by decide) ?_
  have c7 := CpJ_cpy (N := 10) hne c6 rfl
  refine c11_copyRow (N := 10) (by rw [he]; rfl) (by rw [hd]; rfl) (by rw [he]; rfl) (by rw [hd]; rfl) (by decide) ?_
  have c8 := CpJ_cpy (N := 10) hne c7 rfl
  refine c11_copyRow (N := 10) (by rw [he]; rfl) (by rw [hd]; rfl) (by rw [he]; rfl) (by rw [hd]; rfl) (by decide) ?_
  have c9 := CpJ_cpy (N := 10) hne c8 rfl
  refine c11_copyRow (N := 12) (by rw [he]; rfl) (by rw [hd]; rfl) (by rw [he]; rfl) (by rw [hd]; rfl) (by decide) ?_
  have c10 := CpJ_cpy (N := 12) hne c9 rfl
  refine c11_copyRow (N := 12) (by rw [he]; rfl) (by rw [hd]; rfl) (by rw [he]; rfl) (by rw [hd]; rfl) (by decide) ?_
  have c11 := CpJ_cpy (N := 12) hne c10 rfl
  refine c11_copyRow (N := 12) (by rw [he]; rfl) (by rw [hd]; rfl) (by rw [he]; rfl) (by rw [hd]; rfl) (by decide) ?_
  have c12 := CpJ_cpy (N := 12) hne c11 rfl
  refine c11_copyRow (N := 12) (by rw [he]; rfl) (by rw [hd]; rfl) (by rw [he]; rfl) (by rw [hd]; rfl) (by decide) ?_
  have c13 := CpJ_cpy (N := 12) hne c12 rfl
  refine c11_copyRow (N := 20) (by rw [he]; rfl) (by rw [hd]; rfl) (by rw [he]; rfl) (by rw [hd]; rfl) (by decide) ?_
  have c14 := CpJ_cpy (N := 20) hne c13 rfl
  refine c11_copyRow (N := 10) (by rw [he]; rfl) (by rw [hd]; rfl) (by rw [he]; rfl) (by rw [hd]; rfl) (by decide) ?_
  have c15 := CpJ_cpy (N := 10) hne c14 rfl
  refine c11_copyRow (N := 10) (by rw [he]; rfl) (by rw [hd]; rfl) (by rw [he]; rfl) (by rw [hd]; rfl) (by decide) ?_
  exact h _ (CpJ_cpy (N := 10) hne c15 rfl)
theorem LR_cp (h : CpJ 3 16 d e M M1) (LO : LOK s) (L : LR (M e) s) : LR (M1 d) s := by
  obtain ⟨o7, o8, o9, o10, -⟩ := LO
  obtain ⟨a0, a1, a2, a3, a4, b1, b2, b3, b4⟩ := L
  refine ⟨(h.2 0 (by decide) 0 (by decide)).trans a0, (h.2 1 (by decide) 0 (by decide)).trans a1, (h.2 2 (by decide) 0 (by decide)).trans a2, (h.2 3 (by decide) 0 (by decide)).trans a3, (h.2 4 (by decide) 0 (by decide)).trans a4, fun r r1 r2 => ?_, fun w w1 w2 => ?_, fun p p1 p2 => ?_, fun p p1 p2 => ?_⟩
  · have l : r.toNat < 10 := by omega
    obtain ⟨q0, q1, q2, q3⟩ := b1 r r1 r2
    exact ⟨(h.2 5 (by decide) _ l).trans q0, (h.2 6 (by decide) _ l).trans q1, (h.2 7 (by decide) _ l).trans q2, (h.2 8 (by decide) _ l).trans q3⟩
  · have l : w.toNat < 12 := by omega
    obtain ⟨q0, q1, q2, q3⟩ := b2 w w1 w2
    refine ⟨(h.2 9 (by decide) _ l).trans q0, (h.2 10 (by decide) _ l).trans q1, (h.2 11 (by decide) _ l).trans q2, ?_⟩
    rw [h.2 12 (by decide) _ l]; exact q3
  · have l : p.toNat < ln 3 13 := by show p.toNat < 20; omega
    exact (h.2 13 (by decide) _ l).trans (b3 p p1 p2)
  · have l : p.toNat < 10 := by omega
    obtain ⟨q0, q1⟩ := b4 p p1 p2
    exact ⟨(h.2 14 (by decide) _ l).trans q0, (h.2 15 (by decide) _ l).trans q1⟩
/-- a state (house, day, lists) tells what the row tells -/
def SAll (f4 f5 f6 : Nat → Nat → Int) (s : Int → Int) : Prop := HR f4 s ∧ HOK s ∧ DR f5 s ∧ DOK2 s ∧ LR f6 s ∧ LOK s
theorem DE.dr2 (h : DE s s') (e2 : s' 2 = s 2) (k8 : s 2 ≤ 8) {f : Nat → Nat → Int} (D : DR f s) : DR f s' := by
  obtain ⟨d0, d1, d2⟩ := D
  obtain ⟨h3, hp⟩ := h
  refine ⟨by rw [h3]; exact d0, ?_, fun p a b => ?_⟩
  · rw [e2, d1, ridS_cg (s := s) (s' := s') h3 _ (fun j hj => (hp (j : Int) (by omega) (by omega)).2.1)]
  · rw [e2] at b
    obtain ⟨q0, q2, q3, q4⟩ := hp p a (by omega)
    rw [q0, q2, q3, q4]; exact d2 p a b
theorem DE.dok2 (h : DE s s') (e0 : s' 0 = s 0) (e2 : s' 2 = s 2) (e5 : s' 5 = s 5) (k8 : s 2 ≤ 8) (D : DOK2 s) : DOK2 s' := by
  obtain ⟨⟨d0, d1, d2⟩, d3⟩ := D
  obtain ⟨h3, hp⟩ := h
  refine ⟨?_, ?_⟩
  · unfold DOK
    rw [h3, e0, e2]
    refine ⟨d0, d1, fun p a b => ?_⟩
    obtain ⟨q0, q2, q3, q4⟩ := hp p a (by omega)
    rw [q0, q2, q3, q4]; exact d2 p a b
  · rw [e2, e5, ridS_cg (s := s) (s' := s') h3 _ (fun j hj => (hp (j : Int) (by omega) (by omega)).2.1)]; exact d3
theorem SAll_cg {f4 f5 f6 : Nat → Nat → Int} (hs : ∀ i : Int, 0 ≤ i → i < 328 → s' i = s i) (S : SAll f4 f5 f6 s) : SAll f4 f5 f6 s' := by
  obtain ⟨H, K, D, D2, L, LO⟩ := S
  have he : HE s s' := ⟨hs 0 (by decide) (by decide), hs 1 (by decide) (by decide), hs 2 (by decide) (by decide), hs 4 (by decide) (by decide), hs 5 (by decide) (by decide), hs 6 (by decide) (by decide), fun i a b => hs i (by omega) (by omega), fun p a b => hs _ (by omega) (by omega)⟩
  have hd : DE s s' := ⟨hs 3 (by decide) (by decide), fun p a b => ⟨hs _ (by omega) (by omega), hs _ (by omega) (by omega), hs _ (by omega) (by omega), hs _ (by omega) (by omega)⟩⟩
  have hl : LiE s s' := ⟨hs 7 (by decide) (by decide), hs 8 (by decide) (by decide), hs 9 (by decide) (by decide), hs 10 (by decide) (by decide), hs 11 (by decide) (by decide), fun i a b => hs i (by omega) (by omega)⟩
  have k8 := K.2.2.2.2.2.1
  exact ⟨he.hr K H, he.ok K, hd.dr2 he.2.2.1 k8 D, hd.dok2 he.1 he.2.2.1 he.2.2.2.2.1 k8 D2, hl.lr he K LO L, hl.lok he.1 LO⟩
/-- the row of an image in the reference -/
def sI (M : Mem) (k : Nat) (i : Int) : Int := M 0 45 (328 * k + i.toNat)
/-- the images, in both programs -/
def ImOK (M : Mem) : Prop := ∀ k : Nat, k < 4 → (M 1 5 k = 0 → M 0 46 k = 0) ∧ (M 1 5 k ≠ 0 → M 0 46 k ≠ 0 ∧ SAll (M (28 + 4 * k)) (M (29 + 4 * k)) (M (30 + 4 * k)) (sI M k))
theorem oc_img {k : Nat} (hk : k < 4) : oc (27 + 4 * k) = 8 ∧ oc (28 + 4 * k) = 1 ∧ oc (29 + 4 * k) = 0 ∧ oc (30 + 4 * k) = 3 := by
  have : ∀ k, k < 4 → oc (27 + 4 * k) = 8 ∧ oc (28 + 4 * k) = 1 ∧ oc (29 + 4 * k) = 0 ∧ oc (30 + 4 * k) = 3 := by decide
  exact this k hk
theorem ix328 {k i : Nat} (hk : k < 4) (hi : i < 328) : wr (wr (328 * (k : Int)) + (i : Int)) = ((328 * k + i : Nat) : Int) := by
  rw [wrs (x := 328 * (k : Int)) (by omega) (by omega), wrs (x := 328 * (k : Int) + (i : Int)) (by omega) (by omega)]; omega
/-- a state copied into another -/
theorem c8_copyFrom {Q : Mem → Prop} (hd : oc d = 8) (he : oc e = 8) (h1 : oc (d + 1) = 1) (h2 : oc (d + 2) = 0) (h3 : oc (d + 3) = 3) (g1 : oc (e + 1) = 1) (g2 : oc (e + 2) = 0) (g3 : oc (e + 3) = 3) (hne : d ≠ e) (S : SAll (M (e + 1)) (M (e + 2)) (M (e + 3)) s)
    (h : ∀ M', (∀ a, a ≠ d + 1 → a ≠ d + 2 → a ≠ d + 3 → M' a = M a) → SAll (M' (d + 1)) (M' (d + 2)) (M' (d + 3)) s → Q M') : OkV G (n + 3) mX8_copyFrom [vO d, vO e] M Q := by
  obtain ⟨H, K, D, D2, L, LO⟩ := S
  have k8 := K.2.2.2.2.2.1
  have df : ∀ a b : Nat, oc a ≠ oc b → a ≠ b := fun a b z e => z (by rw [e])
  refine eX8_copyFrom (fun Kx => bX8_copyFrom_0 hd he h1 h2 h3 (c1_copyFrom h1 g1 (by omega) (fun M1 m1 => c0_copyFrom h2 g2 (by omega) (fun M2 m2 => c3_copyFrom h3 g3 (by omega) (fun M3 m3 => h M3 (fun a a1 a2 a3 => ?_) ?_)))))
  · rw [m3.1 a a3, m2.1 a a2, m1.1 a a1]
  · have n12 : d + 1 ≠ d + 2 := by omega
    refine ⟨?_, K, ?_, D2, ?_, LO⟩
    · rw [m3.1 (d + 1) (by omega), m2.1 (d + 1) (by omega)]
      exact HR_cp m1 K H
    · rw [m3.1 (d + 2) (by omega)]
      refine DR_cp m2 k8 ?_
      rw [m1.1 (e + 2) (df _ _ (by rw [g2, h1]; decide))]; exact D
    · refine LR_cp m3 LO ?_
      rw [m2.1 (e + 3) (df _ _ (by rw [g3, h2]; decide)), m1.1 (e + 3) (df _ _ (by rw [g3, h1]; decide))]; exact L
def BkP (M M2 : Mem) : Prop := (∀ o k i, o ≠ 4 → o ≠ 5 → o ≠ 6 → (o, k) ≠ (0, 26) → M2 o k i = M o k i) ∧ SAll (M2 4) (M2 5) (M2 6) (sd M2)
theorem both_back {x : Int} {P : Int → Int → Mem → Prop} (S : SAll (M 4) (M 5) (M 6) (sd M)) (I : ImOK M) (h : ∀ r M2, BkP M M2 → P r r M2) : OkI G (n + 4) mX11_back [vO 1, vI x] M (fun r1 M1 => OkI G (n + 4) mX12_back [vO 0, vI x] M1 (fun r2 M2 => P r1 r2 M2)) := by
  have hM : BkP M M := ⟨fun _ _ _ _ _ _ _ => rfl, S⟩
  have no : (0 ≤ x → x < 4 → M 0 46 x.toNat = 0) → OkI G (n + 4) mX12_back [vO 0, vI x] M (fun r2 M2 => P (-1) r2 M2) := by
    intro z
    exact eX12_back (fun Kz => bX12_back_0 (c12_in (fun a b => ⟨fun w => absurd w (by decide), fun _ => ⟨⟨a, by omega⟩, fun w => absurd (z a (by omega)) w, fun _ => h _ M hM⟩⟩) (fun a => ⟨fun _ => h _ M hM, fun w => absurd rfl w⟩)))
  refine eX11_back (fun Kx => bX11_back_0 ⟨fun a => no (by omega), fun a => ⟨fun b => no (by omega), fun b => ⟨⟨by omega, by omega⟩, ?_⟩⟩⟩)
  obtain ⟨k, hx⟩ : ∃ k : Nat, x = (k : Int) := ⟨x.toNat, by omega⟩
  subst hx
  have hk : k < 4 := by omega
  rw [Int.toNat_natCast]
  by_cases q : M 1 5 k = 0
  · rw [if_pos q]
    refine ⟨fun c hc => absurd hc (by simp), fun _ => no (fun _ _ => ?_)⟩
    rw [Int.toNat_natCast]; exact (I k hk).1 q
  · rw [if_neg q]
    refine ⟨fun c hc => ⟨⟨by omega, by omega⟩, ?_⟩, fun w => absurd w (by simp)⟩
    obtain ⟨i1, i2⟩ := (I k hk).2 q
    obtain ⟨o8, o1, o0, o3⟩ := oc_img hk
    have e28 : 27 + 4 * k + 1 = 28 + 4 * k := by omega
    have e29 : 27 + 4 * k + 2 = 29 + 4 * k := by omega
    have e30 : 27 + 4 * k + 3 = 30 + 4 * k := by omega
    refine c8_copyFrom (d := 3) (e := 27 + 4 * k) (s := sI M k) rfl o8 rfl rfl rfl (by rw [e28]; exact o1) (by rw [e29]; exact o0) (by rw [e30]; exact o3) (by omega) (by rw [e28, e29, e30]; exact i2) (fun M1 m1 m2 => ?_)
    have z0 : M1 0 = M 0 := m1 0 (by decide) (by decide) (by decide)
    have g5 : M1 5 0 0 = sI M k 3 := m2.2.2.1.1
    rw [g5]
    refine eX12_back (fun Kz => bX12_back_0 (c12_in (fun a b => ⟨fun w => absurd w (by decide), fun _ => ⟨⟨a, by omega⟩, fun _ => ?_, fun w => absurd w (by rw [z0, Int.toNat_natCast]; exact i1)⟩⟩) (fun a => absurd ⟨by omega, by omega⟩ a)))
    have loop : ∀ (j : Nat) (Mc : Mem), j ≤ 328 → (EqX [(0, 26)] M1 Mc ∧ ∀ i, i < j → Mc 0 26 i = M 0 45 (328 * k + i)) → CW G Kz mX12_back (n + 4) 25 [some (vO 0), some (vI (k : Int)), some (vI (j : Int))] [] Mc (qI (fun r2 M2 => P (sI M k 3) r2 M2)) := by
      refine up_ind (fun Mc i => ?_) (fun j Mc hj i ih => ?_)
      · obtain ⟨j1, j2⟩ := i
        refine bX12_back_25 ⟨fun _ => ?_, fun z => absurd (by decide) z⟩
        rw [j2 3 (by decide)]
        refine h _ Mc ⟨fun o q i p4 p5 p6 p => ?_, ?_⟩
        · rw [j1 o q i (fun z => p (List.mem_singleton.mp z)), m1 o p4 p5 p6]
        · rw [j1.obj (o := 4) (by decide), j1.obj (o := 5) (by decide), j1.obj (o := 6) (by decide)]
          refine SAll_cg (fun i i0 i1 => ?_) m2
          show Mc 0 26 i.toNat = M 0 45 (328 * k + i.toNat)
          exact j2 i.toNat (by omega)
      · obtain ⟨j1, j2⟩ := i
        refine bX12_back_25 ?_
        rw [ix328 hk hj, Int.toNat_natCast, Int.toNat_natCast, wr_n (b := 329) (k := j) (by omega) (by omega)]
        refine ⟨fun z => absurd z (by omega), fun _ => ⟨⟨by omega, by omega⟩, ⟨by omega, by omega⟩, fun M2 q2 => ih M2 ⟨?_, fun i hi => ?_⟩⟩⟩
        · rw [q2]; exact j1.trans (EqX.mset (by decide))
        · rw [q2, mset_fn, j1 0 45 _ (by decide), z0]
          by_cases e : i = j
          · rw [if_pos e, e]
          · rw [if_neg e]; exact j2 i (by omega)
    exact loop 0 M1 (by omega) ⟨EqX.rf, fun i hi => absurd hi (by omega)⟩
end BCK
