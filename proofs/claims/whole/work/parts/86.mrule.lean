/-! ===== the reference reads a rule ===== -/
section MRR
variable {G : Gx} {n : Nat} {M M' : Mem} {b : Nat → Int} {L f m l k c : Nat} {u : Nat → Int} {ρ : Nat → Nat → Int}
abbrev muF : List (Nat × Nat) := (0, 1) :: (0, 5) :: (0, 6) :: (0, 20) :: mrF
def EqU (k : Nat) (M M' : Mem) : Prop := EqX muF M M' ∧ (∀ i, (i < 400 * k ∨ 400 * k + 400 ≤ i) → M' 0 3 i = M 0 3 i) ∧ (∀ i, (i < 48 * k ∨ 48 * k + 48 ≤ i) → M' 0 5 i = M 0 5 i) ∧ (∀ i, i ≠ k → M' 0 6 i = M 0 6 i)
theorem EqU.rf : EqU k M M := ⟨EqX.rf, fun _ _ => rfl, fun _ _ => rfl, fun _ _ => rfl⟩
theorem EqU.trans {M1 M2 : Mem} (h : EqU k M M1) (h' : EqU k M1 M2) : EqU k M M2 := ⟨h.1.trans h'.1, fun i hi => (h'.2.1 i hi).trans (h.2.1 i hi), fun i hi => (h'.2.2.1 i hi).trans (h.2.2.1 i hi), fun i hi => (h'.2.2.2 i hi).trans (h.2.2.2 i hi)⟩
theorem EqU.of {q : List (Nat × Nat)} (e : EqX q M M') (hs : ∀ c ∈ q, c ∈ muF) (h3 : (0, 3) ∉ q) (h5 : (0, 5) ∉ q) (h6 : (0, 6) ∉ q) : EqU k M M' := ⟨e.sub hs, fun i _ => e 0 3 i h3, fun i _ => e 0 5 i h5, fun i _ => e 0 6 i h6⟩
theorem EqU.ofM (e : EqM k M M') : EqU k M M' := ⟨e.1.sub (by decide), e.2, fun i _ => e.1 0 5 i (by decide), fun i _ => e.1 0 6 i (by decide)⟩
theorem EqU.s5 {x : Nat} {v : Int} (h1 : 48 * k ≤ x) (h2 : x < 48 * k + 48) : EqU k M (mset M 0 5 x v) := ⟨EqX.mset (by decide), fun i _ => mset_ne (by simp), fun i hi => mset_ne (fun z => by omega), fun i _ => mset_ne (by simp)⟩
theorem EqU.s6 {v : Int} : EqU k M (mset M 0 6 k v) := ⟨EqX.mset (by decide), fun i _ => mset_ne (by simp), fun i _ => mset_ne (by simp), fun i hi => mset_ne (fun z => hi z.2.2)⟩
def PM (k : Nat) (ρ : Nat → Nat → Int) (F : Nat → Int) (j : Nat) : Prop := F (48 * k + 4 * j) = ρ 1 j ∧ (ρ 1 j = 0 → F (48 * k + 4 * j + 1) = ρ 2 j) ∧ (ρ 3 j = ρ 4 j → F (48 * k + 4 * j + 2) = -1) ∧ (ρ 3 j ≠ ρ 4 j → F (48 * k + 4 * j + 2) = ρ 3 j ∧ F (48 * k + 4 * j + 3) = ρ 4 j)
theorem PM_cg {F F' : Nat → Int} {j : Nat} (h : PM k ρ F j) (e : ∀ i, i < 48 * k + 4 * j + 4 → F' i = F i) : PM k ρ F' j := by
  unfold PM
  rw [e _ (by omega), e _ (by omega), e _ (by omega), e _ (by omega)]
  exact h
def RdR (b : Nat → Int) (L k : Nat) (M : Mem) (f m l c : Nat) (ρ : Nat → Nat → Int) : Prop := Tm b L M f ∧ M 0 15 0 = 0 ∧ M 0 17 0 = (k : Int) ∧ k < 6 ∧ M 0 18 0 = (m : Int) ∧ M 0 4 k = (l : Int) ∧ (∀ i, i < l → M 0 3 (400 * k + i) = rc (ρ 5 i)) ∧ M 0 6 k = (c : Int) ∧ (∀ j, j < c → PM k ρ (M 0 5) j) ∧ rI b L f m l c ρ
theorem RdR.ruM (R : RdR b L k M f m l c ρ) : RuM ρ M k := by
  obtain ⟨T, r1, r2, r3, r4, r5, r6, r7, r8, I⟩ := R
  have h0 := I.2.2.2.2.2.2.1
  refine ⟨by rw [h0]; exact r7, fun j hj => ?_⟩
  rw [h0] at hj
  obtain ⟨p1, p2, p3, p4⟩ := r8 j (by omega)
  obtain ⟨a1, a2, a3, a4, a5⟩ := I.2.2.2.2.2.2.2 j (by omega)
  exact ⟨p1, p2, p3, fun z => ⟨(p4 z).1, (p4 z).2, fun i _ hi => r6 i (by omega)⟩⟩
theorem RdR.s5 {x : Nat} {v : Int} (R : RdR b L k M f m l c ρ) (hx : 48 * k + 4 * c ≤ x) : RdR b L k (mset M 0 5 x v) f m l c ρ := by
  obtain ⟨T, r1, r2, r3, r4, r5, r6, r7, r8, I⟩ := R
  have e : EqX [(0, 5)] M (mset M 0 5 x v) := EqX.mset (by decide)
  exact ⟨T.eq e (by decide) (by decide) (by decide), by rw [e 0 15 0 (by decide)]; exact r1, by rw [e 0 17 0 (by decide)]; exact r2, r3, by rw [e 0 18 0 (by decide)]; exact r4, by rw [e 0 4 k (by decide)]; exact r5, by rw [e.fld (o := 0) (k := 3) (by decide)]; exact r6, by rw [e 0 6 k (by decide)]; exact r7, fun j hj => PM_cg (r8 j hj) (fun i hi => mset_ne (fun z => by omega)), I⟩
theorem RdR.mv {q : List (Nat × Nat)} {g : Nat} (R : RdR b L k M f m l c ρ) (e : EqX q M M') (hq : ∀ c ∈ q, c ∈ [(0, 14), (0, 16), (0, 20)]) (T : Tm b L M' g) (hg : f ≤ g) : RdR b L k M' g m l c ρ := by
  obtain ⟨-, r1, r2, r3, r4, r5, r6, r7, r8, I⟩ := R
  have e : EqX [(0, 14), (0, 16), (0, 20)] M M' := e.sub hq
  exact ⟨T, by rw [e 0 15 0 (by decide)]; exact r1, by rw [e 0 17 0 (by decide)]; exact r2, r3, by rw [e 0 18 0 (by decide)]; exact r4, by rw [e 0 4 k (by decide)]; exact r5, by rw [e.fld (o := 0) (k := 3) (by decide)]; exact r6, by rw [e 0 6 k (by decide)]; exact r7, by rw [e.fld (o := 0) (k := 5) (by decide)]; exact r8, rI_nx I hg T.le.1 T.le.2.2⟩
theorem ix48r (h1 : k < 6) (h2 : c < 12) : wr (wr (48 * (k : Int)) + wr (4 * (c : Int))) = ((48 * k + 4 * c : Nat) : Int) := by
  rw [wrs (x := 48 * (k : Int)) (by omega) (by omega), wrs (x := 4 * (c : Int)) (by omega) (by omega), wrs (by omega) (by omega)]
  omega
theorem test_lt {f' m' l' : Nat} {u' : Nat → Int} (I : MIv b L l 4 f' m' l' u' []) : l < l' := by
  have h := I.2.2.2.2.1
  have h' : dW u' l l' 1 := h
  have := I.2.2.2.1
  by_cases q : l = l'
  · have z := h'.2
    rw [q, Nat.sub_self] at z
    have : dpt u' l' 0 = 0 := rfl
    omega
  · omega
theorem c12_isDoingHere {Q : Int → Mem → Prop} {d : Int} (R : RdR b L k M f m l c ρ) (T : Te b L M f) (hdw : dw b L f = d) (hd : 0 ≤ d ∧ d ≤ 2) (hc : c < 12)
    (ht : (rCl b L f c m l ρ).1 = 0 → ∀ M', EqU k M M' → EqX [(0, 20)] M' M' → M' 0 20 0 = M 0 20 0 → RdR b L k M' (rCl b L f c m l ρ).2.1 (rCl b L f c m l ρ).2.2.1 (rCl b L f c m l ρ).2.2.2.1 (c + 1) (rCl b L f c m l ρ).2.2.2.2 → Q 1 M')
    (hf : (rCl b L f c m l ρ).1 ≠ 0 → ∀ M', EqU k M M' → M' 0 15 0 = (rCl b L f c m l ρ).1 → Q 0 M') : OkI G (n + 9) mX12_isDoingHere [vO 0, vI d] M Q := by
  have hk6 := R.2.2.2.1
  have hL := R.1.le.2.1
  have hfL := R.1.le.1
  have I0 := R.2.2.2.2.2.2.2.2.2
  have hne : ¬ dw b L f = -1 := by omega
  have hkd := dw_kd hne
  obtain ⟨n1, n2, n3⟩ := nx_rng (b := b) hfL
  refine eX12_isDoingHere (fun Kx => bX12_isDoingHere_0 (c12_passWord T hkd (fun M1 e1 T1 => ?_)))
  have R1 : RdR b L k M1 (nx b L f) m l c ρ := R.mv e1 (by decide) T1 n1
  have U1 : EqU k M M1 := EqU.of e1 (by decide) (by decide) (by decide) (by decide)
  rw [R1.2.2.1, Int.toNat_natCast, R1.2.2.2.2.2.2.2.1, ix48r hk6 hc, Int.toNat_natCast]
  -- behind the test
  have s113 : ∀ (w : Int) (f' m' l' : Nat) (u' : Nat → Int) (Mc : Mem), EqU k M Mc → Mc 0 20 0 = M 0 20 0 → Tm b L Mc f' → Mc 0 15 0 = 0 → Mc 0 17 0 = (k : Int) → Mc 0 18 0 = (m' : Int) → Mc 0 4 k = (l' : Int) → (∀ i, i < l' → Mc 0 3 (400 * k + i) = rc (u' i)) → Mc 0 6 k = (c : Int) → (∀ j, j < c → PM k ρ (Mc 0 5) j) → Mc 0 5 (48 * k + 4 * c) = d → (d = 0 → Mc 0 5 (48 * k + 4 * c + 1) = w) → (l = l' → Mc 0 5 (48 * k + 4 * c + 2) = -1) → (l ≠ l' → Mc 0 5 (48 * k + 4 * c + 2) = (l : Int)) → rCl b L f c m l ρ = (0, f', m', l', rup ρ c d w l l' u') → rI b L f' m' l' (c + 1) (rup ρ c d w l l' u') → CW G Kx mX12_isDoingHere (n + 9) 113 [some (vO 0), none, some (vI ((48 * k + 4 * c : Nat) : Int))] [] Mc (qI Q) := by
    intro w f' m' l' u' Mc U h20 Tc r1 r2 r4 r5 r6 r7 r8 w0 w1 w2 w3 hcl I'
    rw [hcl] at ht
    refine bX12_isDoingHere_113 ?_
    rw [r2, Int.toNat_natCast, r5, wrs (x := ((48 * k + 4 * c : Nat) : Int) + 3) (by omega) (by omega), show ((48 * k + 4 * c : Nat) : Int) + 3 = ((48 * k + 4 * c + 3 : Nat) : Int) by omega, Int.toNat_natCast]
    refine ⟨⟨by omega, by omega⟩, ⟨by omega, by omega⟩, fun M5 m5 => ?_⟩
    have e5 : EqX [(0, 5)] Mc M5 := by rw [m5]; exact EqX.mset (by decide)
    rw [e5 0 17 0 (by decide), r2, Int.toNat_natCast, e5 0 6 k (by decide), r7, wr_nat (j := c) (by omega)]
    refine ⟨⟨by omega, by omega⟩, ⟨by omega, by omega⟩, fun M6 m6 => ?_⟩
    have e6 : EqX [(0, 5), (0, 6)] Mc M6 := by rw [m6]; exact (e5.sub (by decide)).trans (EqX.mset (by decide))
    have g5 : ∀ i, M6 0 5 i = if i = 48 * k + 4 * c + 3 then (l' : Int) else Mc 0 5 i := fun i => by rw [m6, mset_ne (by simp), m5, mset_fn]
    refine ht rfl M6 ?_ EqX.rf (by rw [e6 0 20 0 (by decide)]; exact h20) ⟨Tc.eq e6 (by decide) (by decide) (by decide), by rw [e6 0 15 0 (by decide)]; exact r1, by rw [e6 0 17 0 (by decide)]; exact r2, hk6, by rw [e6 0 18 0 (by decide)]; exact r4, by rw [e6 0 4 k (by decide)]; exact r5, by rw [e6.fld (o := 0) (k := 3) (by decide)]; exact r6, by rw [m6, mset_self], fun j hj => ?_, I'⟩
    · rw [m6, m5]
      exact (U.trans (EqU.s5 (by omega) (by omega))).trans EqU.s6
    · have a1 : ∀ i, rup ρ c d w l l' u' 1 i = if i = c then d else ρ 1 i := fun _ => rfl
      have a2 : ∀ i, rup ρ c d w l l' u' 2 i = if i = c ∧ d = 0 then w else ρ 2 i := fun _ => rfl
      have a3 : ∀ i, rup ρ c d w l l' u' 3 i = if i = c then (l : Int) else ρ 3 i := fun _ => rfl
      have a4 : ∀ i, rup ρ c d w l l' u' 4 i = if i = c then (l' : Int) else ρ 4 i := fun _ => rfl
      show PM k (rup ρ c d w l l' u') (M6 0 5) j
      by_cases q : j = c
      · subst q
        unfold PM
        have b0 : M6 0 5 (48 * k + 4 * j) = Mc 0 5 (48 * k + 4 * j) := by rw [g5, if_neg (by omega)]
        have b1 : M6 0 5 (48 * k + 4 * j + 1) = Mc 0 5 (48 * k + 4 * j + 1) := by rw [g5, if_neg (by omega)]
        have b2 : M6 0 5 (48 * k + 4 * j + 2) = Mc 0 5 (48 * k + 4 * j + 2) := by rw [g5, if_neg (by omega)]
        have b3 : M6 0 5 (48 * k + 4 * j + 3) = (l' : Int) := by rw [g5, if_pos rfl]
        rw [a1, a2, a3, a4, if_pos rfl, if_pos rfl, if_pos rfl, b0, b1, b2, b3]
        exact ⟨w0, fun z => by rw [if_pos ⟨rfl, z⟩]; exact w1 z, fun z => w2 (by omega), fun z => ⟨w3 (by omega), rfl⟩⟩
      · have p := PM_cg (F' := M6 0 5) (r8 j (by omega)) (fun i hi => by rw [g5, if_neg (by omega)])
        unfold PM
        rw [a1, a2, a3, a4, if_neg q, if_neg q, if_neg q, if_neg (fun z => q z.1)]
        exact p
  -- behind the deed
  have s68 : ∀ (w : Int) (g : Nat) (Mc : Mem), f ≤ g → EqU k M Mc → Mc 0 20 0 = M 0 20 0 → RdR b L k Mc g m l c ρ → Mc 0 5 (48 * k + 4 * c) = d → (d = 0 → Mc 0 5 (48 * k + 4 * c + 1) = w) → rCl b L f c m l ρ = rT b L c d w g m l ρ → CW G Kx mX12_isDoingHere (n + 9) 68 [some (vO 0), none, some (vI ((48 * k + 4 * c : Nat) : Int))] [] Mc (qI Q) := by
    intro w g Mc hfg U h20 Rc' w0 w1 hcl
    have hgL := Rc'.1.le.1
    have hgr := Rc'.1.le.2.2
    refine bX12_isDoingHere_68 ?_
    rw [wrs (x := ((48 * k + 4 * c : Nat) : Int) + 2) (by omega) (by omega), show ((48 * k + 4 * c : Nat) : Int) + 2 = ((48 * k + 4 * c + 2 : Nat) : Int) by omega, Int.toNat_natCast]
    refine ⟨⟨by omega, by omega⟩, fun M4 m4 => eX12_takesWord (fun Ky => bX12_takesWord_0 ?_)⟩
    have R4 : RdR b L k M4 g m l c ρ := by rw [m4]; exact Rc'.s5 (by omega)
    have U4 : EqU k M M4 := by rw [m4]; exact U.trans (EqU.s5 (by omega) (by omega))
    have e4 : EqX [(0, 5)] Mc M4 := by rw [m4]; exact EqX.mset (by decide)
    have v0 : M4 0 5 (48 * k + 4 * c) = d := by rw [m4, mset_ne (fun z => by omega)]; exact w0
    have v1 : d = 0 → M4 0 5 (48 * k + 4 * c + 1) = w := fun z => by rw [m4, mset_ne (fun z => by omega)]; exact w1 z
    have v2 : M4 0 5 (48 * k + 4 * c + 2) = -1 := by rw [m4, mset_self]
    have h204 : M4 0 20 0 = M 0 20 0 := by rw [e4 0 20 0 (by decide)]; exact h20
    refine c12_isWord (j := 6) (by decide) (by decide) R4.1 (fun y M5 e5 T5 => ⟨fun _ => c12_passWord T5 y.1 (fun M6 e6 T6 => ⟨fun z => absurd z (by decide), fun _ => ?_⟩), fun z => absurd z (by decide)⟩) (fun y M5 e5 T5 => ⟨fun z => absurd rfl z, fun _ => ⟨fun _ => ?_, fun z => absurd rfl z⟩⟩)
    · obtain ⟨k1, k2, k3⟩ := nx_rng (b := b) hgL
      have e6' := e5.trans e6
      have R6 : RdR b L k M6 (nx b L g) m l c ρ := R4.mv e6' (by decide) T6 k1
      have U6 : EqU k M M6 := U4.trans (EqU.of e6' (by decide) (by decide) (by decide) (by decide))
      rw [R6.2.2.1, Int.toNat_natCast, R6.2.2.2.2.2.1]
      refine ⟨⟨by omega, by omega⟩, ⟨by omega, by omega⟩, fun M7 m7 => ?_⟩
      have R7 : RdR b L k M7 (nx b L g) m l c ρ := by rw [m7]; exact R6.s5 (by omega)
      have U7 : EqU k M M7 := by rw [m7]; exact U6.trans (EqU.s5 (by omega) (by omega))
      have e7 : EqX [(0, 5)] M6 M7 := by rw [m7]; exact EqX.mset (by decide)
      have x0 : M7 0 5 (48 * k + 4 * c) = d := by rw [m7, mset_ne (fun z => by omega), e6' 0 5 _ (by decide)]; exact v0
      have x1 : d = 0 → M7 0 5 (48 * k + 4 * c + 1) = w := fun z => by rw [m7, mset_ne (fun z => by omega), e6' 0 5 _ (by decide)]; exact v1 z
      have x2 : M7 0 5 (48 * k + 4 * c + 2) = (l : Int) := by rw [m7, mset_self]
      have h207 : M7 0 20 0 = M 0 20 0 := by rw [e7 0 20 0 (by decide), e6' 0 20 0 (by decide)]; exact h204
      obtain ⟨T7, r1, r2, r3, r4, r5, r6, r7, r8, I7⟩ := R7
      have I7' : MIv b L l 0 (nx b L g) m l (ρ 5) [] := rI_MIv I7 (Nat.le_refl _) k2 (nx_tok hgL)
      refine c12_tested T7 r1 r2 r3 r4 r5 r6 I7' (fun M8 f' m' l' u' e8 R8 rc8 lt8 => ⟨fun _ => ?_, fun z => absurd z (by decide)⟩) (fun M8 φ e8 g8 rc8 => ⟨fun z => absurd rfl z, fun _ => ?_⟩)
      · obtain ⟨t1, t2, t3, -, t5, t6, t7, -⟩ := R8
        have hlt := test_lt (MIv_of (MIv_Rc (MIS_mk I7') rc8) (by decide))
        refine s113 w f' m' l' u' M8 (U7.trans (EqU.ofM e8)) (by rw [e8.1 0 20 0 (by decide)]; exact h207) t1 t2 t3 t5 t6 t7 (by rw [e8.1 0 6 k (by decide)]; exact r7) (by rw [e8.1.fld (o := 0) (k := 5) (by decide)]; exact r8) (by rw [e8.1 0 5 _ (by decide)]; exact x0) (fun z => by rw [e8.1 0 5 _ (by decide)]; exact x1 z) (fun z => by omega) (fun _ => by rw [e8.1 0 5 _ (by decide)]; exact x2) (by rw [hcl]; exact rT_t y rc8) (rI_test I0 hc hd (by omega) k2 (nx_tok hgL) (by omega) rc8)
      · have hcl' : rCl b L f c m l ρ = (φ, 0, 0, 0, ρ) := by rw [hcl]; exact rT_f y rc8
        have hz := flt_pos rc8
        rw [hcl'] at hf
        exact hf (by show ¬ φ = 0; omega) M8 (U7.trans (EqU.ofM e8)) g8
    · have R5 : RdR b L k M5 g m l c ρ := R4.mv e5 (by decide) T5.tm (Nat.le_refl _)
      have U5 : EqU k M M5 := U4.trans (EqU.of e5 (by decide) (by decide) (by decide) (by decide))
      obtain ⟨t1, t2, t3, -, t5, t6, t7, t8, t9, I5⟩ := R5
      refine s113 w g m l (ρ 5) M5 U5 (by rw [e5 0 20 0 (by decide)]; exact h204) t1 t2 t3 t5 t6 t7 t8 t9 (by rw [e5 0 5 _ (by decide)]; exact v0) (fun z => by rw [e5 0 5 _ (by decide)]; exact v1 z) (fun _ => by rw [e5 0 5 _ (by decide)]; exact v2) (fun z => absurd rfl z) (by rw [hcl]; exact rT_n y) (rI_up I0 hc hd hfg hgL hgr I0.2.2.2.1 (by have := I0.2.2.1; omega) (Nat.le_refl _) (fun _ _ => rfl) (Or.inl rfl))
  have hcne : ¬ c = 12 := by omega
  rw [wrs (x := ((48 * k + 4 * c : Nat) : Int) + 1) (by omega) (by omega), show ((48 * k + 4 * c : Nat) : Int) + 1 = ((48 * k + 4 * c + 1 : Nat) : Int) by omega, Int.toNat_natCast]
  refine ⟨⟨by omega, by omega⟩, ⟨by omega, by omega⟩, fun M2 m2 => ⟨⟨by omega, by omega⟩, fun M3 m3 => ?_⟩⟩
  have R3 : RdR b L k M3 (nx b L f) m l c ρ := by rw [m3, m2]; exact (R1.s5 (by omega)).s5 (by omega)
  have U3 : EqU k M M3 := by rw [m3, m2]; exact (U1.trans (EqU.s5 (by omega) (by omega))).trans (EqU.s5 (by omega) (by omega))
  have e3 : EqX [(0, 5), (0, 14)] M M3 := by rw [m3, m2]; exact ((e1.sub (by decide)).trans (EqX.mset (by decide))).trans (EqX.mset (by decide))
  have y0 : M3 0 5 (48 * k + 4 * c) = d := by rw [m3, mset_ne (fun z => by omega), m2, mset_self]
  refine ⟨fun z => ?_, fun z => ?_⟩
  · have hD : rD b L f c = (0, d, 0, nx b L f) := by unfold rD; rw [if_neg hne, if_neg hcne, if_neg (by omega), hdw]
    exact s68 0 (nx b L f) M3 n1 U3 (e3 0 20 0 (by decide)) R3 y0 (fun q => absurd q z) (by unfold rCl; rw [hD]; rfl)
  · have hD : rD b L f c = (nF b L (nx b L f) 0 23, 0, nv b L (nx b L f), nx b L (nx b L f)) := by unfold rD; rw [if_neg hne, if_neg hcne, if_pos (by omega)]
    obtain ⟨k1, k2, k3⟩ := nx_rng (b := b) n2
    refine c12_numberHere R3.1 R3.2.1 (fun y M4 e4 T4 g4 => ⟨fun _ => ⟨⟨by omega, by omega⟩, fun M5 m5 => ?_⟩, fun w => absurd w (by decide)⟩) (fun y M4 e4 g4 => ⟨fun w => absurd rfl w, fun _ => ?_⟩)
    · have R4 : RdR b L k M4 (nx b L (nx b L f)) m l c ρ := R3.mv e4 (by decide) T4 k1
      have U4 : EqU k M M4 := U3.trans (EqU.of e4 (by decide) (by decide) (by decide) (by decide))
      rw [g4] at m5
      refine s68 (nv b L (nx b L f)) (nx b L (nx b L f)) M5 (by omega) (by rw [m5]; exact U4.trans (EqU.s5 (by omega) (by omega))) (by rw [m5, mset_ne (by simp), e4 0 20 0 (by decide)]; exact e3 0 20 0 (by decide)) (by rw [m5]; exact R4.s5 (by omega)) (by rw [m5, mset_ne (fun z => by omega), e4 0 5 _ (by decide)]; exact y0) (fun _ => by rw [m5, mset_self]) (by unfold rCl; rw [hD]; show (if nF b L (nx b L f) 0 23 = 0 then _ else _) = _; rw [if_pos y, z])
    · have hcl : rCl b L f c m l ρ = (nF b L (nx b L f) 0 23, 0, 0, 0, ρ) := by unfold rCl; rw [hD]; show (if nF b L (nx b L f) 0 23 = 0 then _ else _) = _; rw [if_neg y]
      rw [hcl] at hf
      exact hf y M4 (U3.trans (EqU.of e4 (by decide) (by decide) (by decide) (by decide))) g4
end MRR
