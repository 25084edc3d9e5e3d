/-! ===== the reference reads a test ===== -/
section MRT
variable {G : Gx} {n : Nat} {M M' : Mem} {b : Nat → Int} {L f m l k a : Nat} {u : Nat → Int} {σ τ : List Int}
def srf (x : Int) : Int := if x = 91 then 91 else rc x
def stkR (F : Nat → Int) : List Int → Prop
  | [] => True
  | x :: τ => F τ.length = srf x ∧ stkR F τ
theorem stkR_cg {F F' : Nat → Int} : ∀ σ : List Int, (∀ i, i < σ.length → F' i = F i) → stkR F σ → stkR F' σ
  | [], _, _ => trivial
  | x :: τ, h, hs => ⟨by rw [h τ.length (by show τ.length < τ.length + 1; omega)]; exact hs.1, stkR_cg τ (fun i hi => h i (by show i < τ.length + 1; omega)) hs.2⟩
abbrev mrF : List (Nat × Nat) := [(0, 3), (0, 4), (0, 14), (0, 15), (0, 16), (0, 18), (0, 19), (0, 21), (0, 22)]
def EqM (k : Nat) (M M' : Mem) : Prop := EqX mrF M M' ∧ ∀ i, (i < 400 * k ∨ 400 * k + 400 ≤ i) → M' 0 3 i = M 0 3 i
theorem EqM.rf : EqM k M M := ⟨EqX.rf, fun _ _ => rfl⟩
theorem EqM.trans {M1 M2 : Mem} (h : EqM k M M1) (h' : EqM k M1 M2) : EqM k M M2 := ⟨h.1.trans h'.1, fun i hi => (h'.2 i hi).trans (h.2 i hi)⟩
theorem EqM.of {q : List (Nat × Nat)} (e : EqX q M M') (hs : ∀ c ∈ q, c ∈ mrF) (h3 : (0, 3) ∉ q) : EqM k M M' := ⟨e.sub hs, fun i _ => e 0 3 i h3⟩
def RelM (b : Nat → Int) (L k : Nat) (M : Mem) (f m l : Nat) (u : Nat → Int) (σ : List Int) : Prop :=
  Tm b L M f ∧ M 0 15 0 = 0 ∧ M 0 17 0 = (k : Int) ∧ k < 6 ∧ M 0 18 0 = (m : Int) ∧ M 0 4 k = (l : Int) ∧ (∀ i, i < l → M 0 3 (400 * k + i) = rc (u i)) ∧ M 0 22 0 = ((σ.length : Nat) : Int) ∧ stkR (M 0 21) σ ∧ M 0 19 0 = ((dep σ : Nat) : Int)
theorem RelM.mv (R : RelM b L k M f m l u σ) (e : EqX [(0, 14), (0, 16)] M M') {f' : Nat} (T : Tm b L M' f') : RelM b L k M' f' m l u σ := by
  obtain ⟨-, r1, r2, r3, r4, r5, r6, r7, r8, r9⟩ := R
  have e3 : M' 0 3 = M 0 3 := e.fld (by decide)
  have e21 : M' 0 21 = M 0 21 := e.fld (by decide)
  exact ⟨T, by rw [e 0 15 0 (by decide)]; exact r1, by rw [e 0 17 0 (by decide)]; exact r2, r3, by rw [e 0 18 0 (by decide)]; exact r4, by rw [e 0 4 k (by decide)]; exact r5, by rw [e3]; exact r6, by rw [e 0 22 0 (by decide)]; exact r7, by rw [e21]; exact r8, by rw [e 0 19 0 (by decide)]; exact r9⟩
theorem RelM.m14 (R : RelM b L k M f m l u σ) (e : EqX [(0, 14)] M M') {f' : Nat} (T : Tm b L M' f') : RelM b L k M' f' m l u σ := R.mv (e.sub (by decide)) T
theorem c12_puts {Q : Mem → Prop} {s v c : Int} (R : RelM b L k M f m l u σ) (hl : l < 400) (e : wr (s + wr (16 * v)) = rc c) (h : ∀ M', EqX [(0, 3), (0, 4)] M M' → EqM k M M' → RelM b L k M' f m (l + 1) (upN u l c) σ → Q M') : OkV G n mX12_puts [vO 0, vI s, vI v] M Q := by
  obtain ⟨T, r1, r2, r3, r4, r5, r6, r7, r8, r9⟩ := R
  refine eX12_puts (fun Kx => bX12_puts_0 ?_)
  rw [r2, Int.toNat_natCast, r5, ix400 r3 hl, Int.toNat_natCast, e]
  refine ⟨⟨by omega, by omega⟩, ⟨by omega, by omega⟩, fun M1 m1 => ?_⟩
  have g17 : M1 0 17 0 = (k : Int) := by rw [m1, mset_ne (by simp)]; exact r2
  have g4 : M1 0 4 k = (l : Int) := by rw [m1, mset_ne (by simp)]; exact r5
  rw [g17, Int.toNat_natCast, g4, wr_nat (j := l) (by omega)]
  refine ⟨⟨by omega, by omega⟩, ⟨by omega, by omega⟩, fun M2 m2 => ?_⟩
  have E2 : EqX [(0, 3), (0, 4)] M M2 := by rw [m2, m1]; exact (EqX.mset (by decide)).trans (EqX.mset (by decide))
  have g3 : ∀ i, M2 0 3 i = if i = 400 * k + l then rc c else M 0 3 i := fun i => by rw [m2, mset_ne (by simp), m1, mset_fn]
  refine h M2 E2 ⟨E2.sub (by decide), fun i hi => by rw [g3, if_neg (by omega)]⟩ ⟨T.eq E2 (by decide) (by decide) (by decide), by rw [E2 0 15 0 (by decide)]; exact r1, by rw [E2 0 17 0 (by decide)]; exact r2, r3, by rw [E2 0 18 0 (by decide)]; exact r4, by rw [m2, mset_self], fun i hi => ?_, by rw [E2 0 22 0 (by decide)]; exact r7, by rw [E2.fld (o := 0) (k := 21) (by decide)]; exact r8, by rw [E2 0 19 0 (by decide)]; exact r9⟩
  rw [g3]
  unfold upN
  by_cases q : i = l
  · rw [if_pos (by omega), if_pos q]
  · rw [if_neg (by omega), if_neg q]; exact r6 i (by omega)
theorem c12_makes {Q : Int → Mem → Prop} {p : Nat} (R : RelM b L k M f m l u σ) (hp : p ≤ 400) (hm : m ≤ 60) (ht : m ≠ 60 → ∀ M', EqX [(0, 18)] M M' → RelM b L k M' f (m + 1) l u σ → Q 1 M') (hf : m = 60 → ∀ M', EqX [(0, 15)] M M' → M' 0 15 0 = 1 + 8 * (p : Int) + 3 → Q 0 M') : OkI G (n + 1) mX12_makes [vO 0, vI (p : Int)] M Q := by
  obtain ⟨T, r1, r2, r3, r4, r5, r6, r7, r8, r9⟩ := R
  refine eX12_makes (fun Kx => bX12_makes_0 ?_)
  rw [r4, wr_nat (j := m) (by omega)]
  refine ⟨fun z M1 m1 => ?_, fun z => c12_fails r1 (by decide) hp (fun M1 e1 g1 => ⟨Or.inl rfl, hf (by omega) M1 e1 g1⟩)⟩
  have E : EqX [(0, 18)] M M1 := by rw [m1]; exact EqX.mset (by decide)
  have e3 : M1 0 3 = M 0 3 := E.fld (by decide)
  have e21 : M1 0 21 = M 0 21 := E.fld (by decide)
  exact ht (by omega) M1 E ⟨T.eq E (by decide) (by decide) (by decide), by rw [E 0 15 0 (by decide)]; exact r1, by rw [E 0 17 0 (by decide)]; exact r2, r3, by rw [m1, mset_self], by rw [E 0 4 k (by decide)]; exact r5, by rw [e3]; exact r6, by rw [E 0 22 0 (by decide)]; exact r7, by rw [e21]; exact r8, by rw [E 0 19 0 (by decide)]; exact r9⟩
theorem c12_wordHere {Q : Int → Mem → Prop} (T : Tm b L M f) (h : ∀ M', EqX [(0, 14)] M M' → Te b L M' f → Q (vw b L f) M') : OkI G (n + 2) mX12_wordHere [vO 0] M Q := by
  unfold vw at h
  refine eX12_wordHere (fun Kx => bX12_wordHere_0 ?_)
  refine c12_isWord (j := 13) (by decide) (by decide) T (fun w M1 e1 T1 => ⟨fun z => absurd z (by decide), fun _ => by rw [cI_t w] at h; exact h M1 e1 T1⟩) (fun w M1 e1 T1 => ⟨fun _ => ?_, fun z => absurd rfl z⟩)
  rw [cI_f w] at h
  refine c12_isWord (j := 5) (by decide) (by decide) T1.tm (fun w M2 e2 T2 => ⟨fun z => absurd z (by decide), fun _ => by rw [cI_t w] at h; exact h M2 (e1.trans e2) T2⟩) (fun w M2 e2 T2 => ⟨fun _ => ?_, fun z => absurd rfl z⟩)
  rw [cI_f w] at h
  have E2 := e1.trans e2
  refine c12_isWord (j := 0) (by decide) (by decide) T2.tm (fun w M3 e3 T3 => ⟨fun z => absurd z (by decide), fun _ => by rw [cI_t w] at h; exact h M3 (E2.trans e3) T3⟩) (fun w M3 e3 T3 => ⟨fun _ => ?_, fun z => absurd rfl z⟩)
  rw [cI_f w] at h
  have E3 := E2.trans e3
  refine c12_isWord (j := 14) (by decide) (by decide) T3.tm (fun w M4 e4 T4 => ⟨fun z => absurd z (by decide), fun _ => by rw [cI_t w] at h; exact h M4 (E3.trans e4) T4⟩) (fun w M4 e4 T4 => ⟨fun _ => ?_, fun z => absurd rfl z⟩)
  rw [cI_f w] at h
  have E4 := E3.trans e4
  refine c12_isWord (j := 15) (by decide) (by decide) T4.tm (fun w M5 e5 T5 => ⟨fun z => absurd z (by decide), fun _ => by rw [cI_t w] at h; exact h M5 (E4.trans e5) T5⟩) (fun w M5 e5 T5 => ⟨fun _ => ?_, fun z => absurd rfl z⟩)
  rw [cI_f w] at h
  have E5 := E4.trans e5
  refine c12_isWord (j := 16) (by decide) (by decide) T5.tm (fun w M6 e6 T6 => ⟨fun z => absurd z (by decide), fun _ => by rw [cI_t w] at h; exact h M6 (E5.trans e6) T6⟩) (fun w M6 e6 T6 => ⟨fun _ => ?_, fun z => absurd rfl z⟩)
  rw [cI_f w] at h
  have E6 := E5.trans e6
  refine c12_isWord (j := 17) (by decide) (by decide) T6.tm (fun w M7 e7 T7 => ⟨fun z => absurd z (by decide), fun _ => by rw [cI_t w] at h; exact h M7 (E6.trans e7) T7⟩) (fun w M7 e7 T7 => ⟨fun _ => ?_, fun z => absurd rfl z⟩)
  rw [cI_f w] at h
  have E7 := E6.trans e7
  refine c12_isWord (j := 18) (by decide) (by decide) T7.tm (fun w M8 e8 T8 => ⟨fun z => absurd z (by decide), fun _ => by rw [cI_t w] at h; exact h M8 (E7.trans e8) T8⟩) (fun w M8 e8 T8 => ⟨fun _ => ?_, fun z => absurd rfl z⟩)
  rw [cI_f w] at h
  exact h M8 (E7.trans e8) T8
theorem rc_w {w : Int} (h0 : 0 ≤ w) (h7 : w ≤ 7) : wr (1 + wr (16 * w)) = rc w := by
  rw [wrs (x := 16 * w) (by omega) (by omega), wrs (x := 1 + 16 * w) (by omega) (by omega)]
  unfold rc; rw [if_neg (by omega), if_pos (by omega)]
theorem rc_n {w : Int} (h0 : 0 ≤ w) (h7 : w ≤ 99999) : wr (0 + wr (16 * w)) = rc (100 + w) := by
  rw [wrs (x := 16 * w) (by omega) (by omega), wrs (x := 0 + 16 * w) (by omega) (by omega)]
  unfold rc; rw [if_pos (by omega)]; omega
theorem c12_value {Q : Int → Mem → Prop} (R : RelM b L k M f m l u σ) (I : MIv b L a 1 f m l u τ) (ht : ∀ M' f' m' l' u', EqM k M M' → RelM b L k M' f' m' l' u' σ → stp b L (1, f, m, l, u, τ, 0) = (2, f', m', l', u', τ, 0) → f < f' → Q 1 M') (hf : ∀ M' φ, EqM k M M' → M' 0 15 0 = φ → stp b L (1, f, m, l, u, τ, 0) = flt φ → Q 0 M') : OkI G (n + 3) mX12_value [vO 0] M Q := by
  obtain ⟨i1, i2, i3, i4, i5, i6, i7, -⟩ := id I
  have hL := R.1.le.2.1
  have hn := nx_rng (b := b) i1
  rw [stp_1] at ht hf
  unfold s1 at ht hf
  refine eX12_value (fun Kx => bX12_value_0 (c12_see R.1 (fun M1 e1 T1 => ?_)))
  have R1 := R.m14 e1 T1.tm
  have q1 : EqM k M M1 := EqM.of e1 (by decide) (by decide)
  rw [T1.2.1]
  refine c12_isDigit T1.1 (fun x y => ⟨fun z => absurd z (by decide), fun _ => ?_⟩) (fun x => ⟨fun _ => ?_, fun z => absurd rfl z⟩)
  · have hk : kd b L f = 2 := kd_2.mpr ⟨x, y⟩
    have hv : ¬ 0 ≤ vw b L f := fun q => by have := (vw_lt q).2; omega
    rw [if_neg hv] at ht hf
    refine c12_numberHere T1.tm R1.2.1 (fun z M2 e2 T2 g2 => ⟨fun w => absurd w (by decide), fun _ => ?_⟩) (fun z M2 e2 g2 => ⟨fun _ => ?_, fun w => absurd rfl w⟩)
    · rw [if_pos z] at ht hf
      obtain ⟨-, -, v0, v1⟩ := nF_ok z
      have R2 := R1.mv e2 T2
      have q2 := q1.trans (EqM.of (k := k) e2 (by decide) (by decide))
      refine c12_makes R2 (by omega) i7 (fun w M3 e3 R3 => ⟨fun _ => ?_, fun z => absurd z (by decide)⟩) (fun w M3 e3 g3 => ⟨fun z => absurd rfl z, fun _ => ?_⟩)
      · rw [if_neg w] at ht
        have g16 : M3 0 16 0 = nv b L f := by rw [e3 0 16 0 (by decide)]; exact g2
        rw [g16]
        exact c12_puts R3 (by omega) (rc_n v0 v1) (fun M4 _ e4 R4 => ht M4 _ _ _ _ ((q2.trans (EqM.of (k := k) e3 (by decide) (by decide))).trans e4) R4 rfl (hn.2.2 x))
      · rw [if_pos w] at hf
        exact hf M3 _ (q2.trans (EqM.of (k := k) e3 (by decide) (by decide))) g3 rfl
    · rw [if_neg z] at hf
      exact hf M2 _ (q1.trans (EqM.of (k := k) e2 (by decide) (by decide))) g2 rfl
  · refine c12_wordHere T1.tm (fun M2 e2 T2 => ⟨fun z => ?_, fun z => ?_⟩)
    · obtain ⟨hlt, hk1⟩ := vw_lt z
      have hv := vw_rng (b := b) (L := L) (f := f)
      rw [if_pos z] at ht hf
      have R2 := R1.m14 e2 T2.tm
      have q2 := q1.trans (EqM.of (k := k) e2 (by decide) (by decide))
      refine c12_makes R2 (by omega) i7 (fun w M3 e3 R3 => ⟨fun _ => ?_, fun z => absurd z (by decide)⟩) (fun w M3 e3 g3 => ⟨fun z => absurd rfl z, fun _ => ?_⟩)
      · rw [if_neg w] at ht
        refine c12_passWord (T2.eq e3 (by decide) (by decide) (by decide)) hk1 (fun M4 e4 T4 => ?_)
        exact c12_puts (R3.m14 e4 T4) (by omega) (rc_w z hv.2) (fun M5 _ e5 R5 => ht M5 _ _ _ _ (((q2.trans (EqM.of (k := k) e3 (by decide) (by decide))).trans (EqM.of (k := k) e4 (by decide) (by decide))).trans e5) R5 rfl (hn.2.2 hlt))
      · rw [if_pos w] at hf
        exact hf M3 _ (q2.trans (EqM.of (k := k) e3 (by decide) (by decide))) g3 rfl
    · have hk : ¬ kd b L f = 2 := fun q => x (kd_2.mp q)
      have en : nF b L f 0 99999 = 1 + 8 * (f : Int) + 0 := by unfold nF; rw [if_neg hk]
      rw [if_neg z, en, if_neg (by omega)] at hf
      have q2 := q1.trans (EqM.of (k := k) e2 (by decide) (by decide))
      exact c12_fails (by rw [e2 0 15 0 (by decide)]; exact R1.2.1) (by decide) (by omega) (fun M3 e3 g3 => ⟨Or.inl rfl, hf M3 _ (q2.trans (EqM.of (k := k) e3 (by decide) (by decide))) g3 rfl⟩)
/-- next, one further, behind a sign of one byte -/
theorem Tm_step {d : Int} (T : Te b L M f) (hd : ¬ pL d = true ∧ ¬ pD d = true ∧ d ≠ 60 ∧ d ≠ 62) (hf : f < L) (e : b f = d) (e1 : EqX [(0, 14)] M M') (g : M' 0 14 0 = ((f + 1 : Nat) : Int)) : Tm b L M' (nx b L f) := ⟨Tq_cg T.1 (e1.fld (by decide)) (e1.fld (by decide)), f + 1, g, by omega, by unfold nx; rw [bh_sg hd hf e]⟩
theorem rk_42 : rk b L f = 12 ↔ f < L ∧ b f = 42 := by
  unfold rk
  constructor
  · intro z
    split at z
    · split at z
      · omega
      · split at z
        · omega
        · split at z
          · omega
          · split at z
            · omega
            · omega
    · omega
  · rintro ⟨h, x⟩
    rw [if_pos h, if_pos x]
theorem rk_47 : rk b L f = 13 ↔ f < L ∧ b f = 47 := by
  unfold rk
  constructor
  · intro z
    split at z
    · split at z
      · omega
      · split at z
        · omega
        · split at z
          · omega
          · split at z
            · omega
            · omega
    · omega
  · rintro ⟨h, x⟩
    rw [if_pos h, if_neg (by omega), if_neg (by omega), if_neg (by omega), if_pos x]
theorem rk_43 : rk b L f = 10 ↔ f < L ∧ b f = 43 := by
  unfold rk
  constructor
  · intro z
    split at z
    · split at z
      · omega
      · split at z
        · omega
        · split at z
          · omega
          · split at z
            · omega
            · omega
    · omega
  · rintro ⟨h, x⟩
    rw [if_pos h, if_neg (by omega), if_pos x]
theorem rk_45 : rk b L f = 11 ↔ f < L ∧ b f = 45 := by
  unfold rk
  constructor
  · intro z
    split at z
    · split at z
      · omega
      · split at z
        · omega
        · split at z
          · omega
          · split at z
            · omega
            · omega
    · omega
  · rintro ⟨h, x⟩
    rw [if_pos h, if_neg (by omega), if_neg (by omega), if_pos x]
theorem byA_eq {c : Int} (hc : c ≠ -1) : byA b L f = c ↔ f < L ∧ b f = c := by
  unfold byA
  by_cases h : f < L
  · rw [if_pos h]; exact ⟨fun z => ⟨h, z⟩, fun z => z.2⟩
  · rw [if_neg h]; exact ⟨fun z => absurd z.symm hc, fun z => absurd z.1 h⟩
theorem rc_b {c : Int} (h : c = 10 ∨ c = 11 ∨ c = 12 ∨ c = 13 ∨ c = 14 ∨ c = 15 ∨ c = 16 ∨ c = 17 ∨ c = 18 ∨ c = 19 ∨ c = 20 ∨ c = 21) : wr (rc c + wr (16 * 0)) = rc c := by
  rcases h with h | h | h | h | h | h | h | h | h | h | h | h <;> subst h <;> decide
theorem Tq.byt {c : Int} (T : Tq b L M) (hf : f < 400) (h0 : 0 ≤ c) (h1 : c ≤ 127) : M 0 0 f = c ↔ b f = c := by
  obtain ⟨r1, r2, r3, r4, r5⟩ := T.2.2 f hf
  constructor <;> intro z <;> omega
theorem c12_term {Q : Int → Mem → Prop} (R : RelM b L k M f m l u σ) (I : MIv b L a 1 f m l u τ) (hτ : hd τ ≠ 12 ∧ hd τ ≠ 13) (ht : ∀ M' f' m' l' u', EqM k M M' → RelM b L k M' f' m' l' u' σ → Rc b L (1, f, m, l, u, τ, 0) (2, f', m', l', u', τ, 0) → rk b L f' ≠ 12 → rk b L f' ≠ 13 → f < f' → Q 1 M') (hf : ∀ M' φ, EqM k M M' → M' 0 15 0 = φ → Rc b L (1, f, m, l, u, τ, 0) (flt φ) → Q 0 M') : OkI G (n + 4) mX12_term [vO 0] M Q := by
  have hL := R.1.le.2.1
  refine eX12_term (fun Kx => bX12_term_0 (c12_value R I (fun M1 f1 m1 l1 u1 e1 R1 s1' lt1 => ⟨fun _ => ?_, fun w => absurd w (by decide)⟩) (fun M1 φ e1 g1 s1' => ⟨fun w => absurd rfl w, fun _ => hf M1 φ e1 g1 (Rc.st s1' Rc.rf)⟩)))
  have loop : ∀ (c f1 m1 l1 : Nat) (u1 : Nat → Int) (Mc : Mem), L - f1 ≤ c → f < f1 → EqM k M Mc → RelM b L k Mc f1 m1 l1 u1 σ → Rc b L (1, f, m, l, u, τ, 0) (2, f1, m1, l1, u1, τ, 0) → CW G Kx mX12_term (n + 4) 9 [some (vO 0), none] [] Mc (qI Q) := by
    intro c
    induction c with
    | zero =>
      intro f1 m1 l1 u1 Mc hc hlt E R1 rcx
      have hfL := R1.1.le.1
      have nb : ∀ d : Int, d ≠ -1 → ¬ byA b L f1 = d := fun d hd z => by have := ((byA_eq hd).mp z).1; omega
      refine bX12_term_9 (c12_see R1.1 (fun M2 e2 T2 => ⟨fun z => absurd z (nb 42 (by decide)), fun _ => c12_see T2.tm (fun M3 e3 T3 => ⟨fun _ => ?_, fun z => absurd z (nb 47 (by decide))⟩)⟩))
      exact ht M3 f1 m1 l1 u1 (E.trans (EqM.of (e2.trans e3) (by decide) (by decide))) (R1.m14 (e2.trans e3) T3.tm) rcx (fun z => by have := rk_42.mp z; omega) (fun z => by have := rk_47.mp z; omega) hlt
    | succ c ih =>
      intro f1 m1 l1 u1 Mc hc hlt E R1 rcx
      have hfL := R1.1.le.1
      have I1 : MIv b L a 2 f1 m1 l1 u1 τ := MIv_of (MIv_Rc (MIS_mk I) rcx) (by decide)
      have hnx := nx_rng (b := b) hfL
      -- a sign
      have go : ∀ (r s : Int) (d : Int) (M2 : Mem), rk b L f1 = r → (r = 12 ∨ r = 13) → rc r = s → b f1 = d → (¬ pL d = true ∧ ¬ pD d = true ∧ d ≠ 60 ∧ d ≠ 62) → f1 < L → EqX [(0, 14)] Mc M2 → Te b L M2 f1 → CW G Kx mX12_term (n + 4) 46 [some (vO 0), none] [vI s] M2 (qI Q) := by
        intro r s d M2 hrk hr12 hs hbd hdd hl e2 T2
        have st : stp b L (2, f1, m1, l1, u1, τ, 0) = (1, nx b L f1, m1, l1, u1, r :: τ, 0) := by
          rw [stp_2]; unfold s2
          rw [if_neg (by omega), hrk, if_pos hr12]
        have I2 : MIv b L a 1 (nx b L f1) m1 l1 u1 (r :: τ) := MIv_of (MIv_Rc (MIS_mk I1) (Rc.st st Rc.rf)) (by decide)
        refine bX12_term_46 (fun M3 m3 => ?_)
        rw [T2.2.1, wr_nat (j := f1) (by omega)] at m3
        have e3 : EqX [(0, 14)] M2 M3 := by rw [m3]; exact EqX.mset (by decide)
        have T3 : Tm b L M3 (nx b L f1) := Tm_step T2 hdd hl hbd e3 (by rw [m3, mset_self])
        have R3 := R1.m14 (e2.trans e3) T3
        have E3 := E.trans (EqM.of (k := k) (e2.trans e3) (by decide) (by decide))
        have rc3 := rcx.then st
        refine c12_value R3 I2 (fun M4 f4 m4 l4 u4 e4 R4 s4 lt4 => ⟨fun _ => ?_, fun w => absurd w (by decide)⟩) (fun M4 φ e4 g4 s4 => ⟨fun w => absurd rfl w, fun _ => hf M4 φ (E3.trans e4) g4 (rc3.then s4)⟩)
        have I4 : MIv b L a 2 f4 m4 l4 u4 (r :: τ) := MIv_of (MIv_Rc (MIS_mk I2) (Rc.st s4 Rc.rf)) (by decide)
        have st4 : stp b L (2, f4, m4, l4, u4, r :: τ, 0) = (2, f4, m4, l4 + 1, upN u4 l4 r, τ, 0) := by
          rw [stp_2]; unfold s2
          have eh : hd (r :: τ) = r := rfl
          rw [eh, if_pos hr12]; rfl
        have hb : l4 + (τ.length + 1) ≤ f4 := I4.2.2.1
        have hfL4 := I4.1
        rw [← hs]
        exact c12_puts R4 (by omega) (rc_b (by omega)) (fun M5 _ e5 R5 => ih f4 m4 (l4 + 1) _ M5 (by have := hnx.2.2 hl; omega) (by have := hnx.2.2 hl; omega) ((E3.trans e4).trans e5) R5 ((rc3.then s4).then st4))
      refine bX12_term_9 (c12_see R1.1 (fun M2 e2 T2 => ⟨fun z => ?_, fun z => c12_see T2.tm (fun M3 e3 T3 => ⟨fun y => ?_, fun y => ?_⟩)⟩))
      · obtain ⟨hl, hbd⟩ := (byA_eq (by decide)).mp z
        rw [T2.2.1, Int.toNat_natCast, T2.1.byt (by omega) (by decide) (by decide)]
        exact ⟨⟨by omega, by omega⟩, fun w => absurd hbd w, fun _ => go 12 4 42 M2 (rk_42.mpr ⟨hl, hbd⟩) (Or.inl rfl) (by decide) hbd (by decide) hl e2 T2⟩
      · exact ht M3 f1 m1 l1 u1 (E.trans (EqM.of (e2.trans e3) (by decide) (by decide))) (R1.m14 (e2.trans e3) T3.tm) rcx (fun w => z ((byA_eq (by decide)).mpr (rk_42.mp w))) (fun w => y ((byA_eq (by decide)).mpr (rk_47.mp w))) hlt
      · obtain ⟨hl, hbd⟩ := (byA_eq (by decide)).mp y
        rw [T3.2.1, Int.toNat_natCast, T3.1.byt (by omega) (by decide) (by decide)]
        exact ⟨⟨by omega, by omega⟩, fun _ => go 13 5 47 M3 (rk_47.mpr ⟨hl, hbd⟩) (Or.inr rfl) (by decide) hbd (by decide) hl (e2.trans e3) T3, fun w => absurd w (by omega)⟩
  exact loop (L - f1) f1 m1 l1 u1 M1 (Nat.le_refl _) lt1 e1 R1 (Rc.st s1' Rc.rf)
theorem c12_sum {Q : Int → Mem → Prop} (R : RelM b L k M f m l u σ) (I : MIv b L a 1 f m l u τ) (hτ : sC1 τ) (ht : ∀ M' f' m' l' u', EqM k M M' → RelM b L k M' f' m' l' u' σ → Rc b L (1, f, m, l, u, τ, 0) (2, f', m', l', u', τ, 0) → rk b L f' = -1 → f < f' → Q 1 M') (hf : ∀ M' φ, EqM k M M' → M' 0 15 0 = φ → Rc b L (1, f, m, l, u, τ, 0) (flt φ) → Q 0 M') : OkI G (n + 5) mX12_sum [vO 0] M Q := by
  have hL := R.1.le.2.1
  obtain ⟨x1, x2, x3, x4⟩ := sC1_hd hτ
  refine eX12_sum (fun Kx => bX12_sum_0 (c12_term R I ⟨x3, x4⟩ (fun M1 f1 m1 l1 u1 e1 R1 rc1 na1 nb1 lt1 => ⟨fun _ => ?_, fun w => absurd w (by decide)⟩) (fun M1 φ e1 g1 rc1 => ⟨fun w => absurd rfl w, fun _ => hf M1 φ e1 g1 rc1⟩)))
  have loop : ∀ (c f1 m1 l1 : Nat) (u1 : Nat → Int) (Mc : Mem), L - f1 ≤ c → f < f1 → rk b L f1 ≠ 12 → rk b L f1 ≠ 13 → EqM k M Mc → RelM b L k Mc f1 m1 l1 u1 σ → Rc b L (1, f, m, l, u, τ, 0) (2, f1, m1, l1, u1, τ, 0) → CW G Kx mX12_sum (n + 5) 9 [some (vO 0), none] [] Mc (qI Q) := by
    intro c
    induction c with
    | zero =>
      intro f1 m1 l1 u1 Mc hc hlt na nb' E R1 rcx
      have hfL := R1.1.le.1
      have nb : ∀ d : Int, d ≠ -1 → ¬ byA b L f1 = d := fun d hd z => by have := ((byA_eq hd).mp z).1; omega
      refine bX12_sum_9 (c12_see R1.1 (fun M2 e2 T2 => ⟨fun z => absurd z (nb 43 (by decide)), fun _ => c12_see T2.tm (fun M3 e3 T3 => ⟨fun _ => ?_, fun z => absurd z (nb 45 (by decide))⟩)⟩))
      refine ht M3 f1 m1 l1 u1 (E.trans (EqM.of (e2.trans e3) (by decide) (by decide))) (R1.m14 (e2.trans e3) T3.tm) rcx ?_ hlt
      have := rk_lt (b := b) (L := L) (f := f1)
      apply Classical.byContradiction
      intro z
      have := this z; omega
    | succ c ih =>
      intro f1 m1 l1 u1 Mc hc hlt na nb' E R1 rcx
      have hfL := R1.1.le.1
      have I1 : MIv b L a 2 f1 m1 l1 u1 τ := MIv_of (MIv_Rc (MIS_mk I) rcx) (by decide)
      have hnx := nx_rng (b := b) hfL
      have go : ∀ (r s : Int) (d : Int) (M2 : Mem), rk b L f1 = r → (r = 10 ∨ r = 11) → rc r = s → b f1 = d → (¬ pL d = true ∧ ¬ pD d = true ∧ d ≠ 60 ∧ d ≠ 62) → f1 < L → EqX [(0, 14)] Mc M2 → Te b L M2 f1 → CW G Kx mX12_sum (n + 5) 46 [some (vO 0), none] [vI s] M2 (qI Q) := by
        intro r s d M2 hrk hr10 hs hbd hdd hl e2 T2
        have st : stp b L (2, f1, m1, l1, u1, τ, 0) = (1, nx b L f1, m1, l1, u1, r :: τ, 0) := by
          rw [stp_2]; unfold s2
          rw [if_neg (by omega), hrk, if_neg (by omega), if_neg (by omega), if_pos hr10]
        have I2 : MIv b L a 1 (nx b L f1) m1 l1 u1 (r :: τ) := MIv_of (MIv_Rc (MIS_mk I1) (Rc.st st Rc.rf)) (by decide)
        refine bX12_sum_46 (fun M3 m3 => ?_)
        rw [T2.2.1, wr_nat (j := f1) (by omega)] at m3
        have e3 : EqX [(0, 14)] M2 M3 := by rw [m3]; exact EqX.mset (by decide)
        have T3 : Tm b L M3 (nx b L f1) := Tm_step T2 hdd hl hbd e3 (by rw [m3, mset_self])
        have R3 := R1.m14 (e2.trans e3) T3
        have E3 := E.trans (EqM.of (k := k) (e2.trans e3) (by decide) (by decide))
        have rc3 := rcx.then st
        have eh : hd (r :: τ) = r := rfl
        refine c12_term R3 I2 (by rw [eh]; omega) (fun M4 f4 m4 l4 u4 e4 R4 rc4 na4 nb4 lt4 => ⟨fun _ => ?_, fun w => absurd w (by decide)⟩) (fun M4 φ e4 g4 rc4 => ⟨fun w => absurd rfl w, fun _ => hf M4 φ (E3.trans e4) g4 (rc3.trans rc4)⟩)
        have I4 : MIv b L a 2 f4 m4 l4 u4 (r :: τ) := MIv_of (MIv_Rc (MIS_mk I2) rc4) (by decide)
        have st4 : stp b L (2, f4, m4, l4, u4, r :: τ, 0) = (2, f4, m4, l4 + 1, upN u4 l4 r, τ, 0) := by
          rw [stp_2]; unfold s2
          rw [eh, if_neg (by omega), if_neg (by omega), if_pos hr10]; rfl
        have hb : l4 + (τ.length + 1) ≤ f4 := I4.2.2.1
        have hfL4 := I4.1
        rw [← hs]
        exact c12_puts R4 (by omega) (rc_b (by omega)) (fun M5 _ e5 R5 => ih f4 m4 (l4 + 1) _ M5 (by have := hnx.2.2 hl; omega) (by have := hnx.2.2 hl; omega) na4 nb4 ((E3.trans e4).trans e5) R5 ((rc3.trans rc4).then st4))
      refine bX12_sum_9 (c12_see R1.1 (fun M2 e2 T2 => ⟨fun z => ?_, fun z => c12_see T2.tm (fun M3 e3 T3 => ⟨fun y => ?_, fun y => ?_⟩)⟩))
      · obtain ⟨hl, hbd⟩ := (byA_eq (by decide)).mp z
        rw [T2.2.1, Int.toNat_natCast, T2.1.byt (by omega) (by decide) (by decide)]
        exact ⟨⟨by omega, by omega⟩, fun w => absurd hbd w, fun _ => go 10 2 43 M2 (rk_43.mpr ⟨hl, hbd⟩) (Or.inl rfl) (by decide) hbd (by decide) hl e2 T2⟩
      · refine ht M3 f1 m1 l1 u1 (E.trans (EqM.of (e2.trans e3) (by decide) (by decide))) (R1.m14 (e2.trans e3) T3.tm) rcx ?_ hlt
        have n1 : rk b L f1 ≠ 10 := fun w => z ((byA_eq (by decide)).mpr (rk_43.mp w))
        have n2 : rk b L f1 ≠ 11 := fun w => y ((byA_eq (by decide)).mpr (rk_45.mp w))
        have := rk_cases (b := b) (L := L) (f := f1)
        omega
      · obtain ⟨hl, hbd⟩ := (byA_eq (by decide)).mp y
        rw [T3.2.1, Int.toNat_natCast, T3.1.byt (by omega) (by decide) (by decide)]
        exact ⟨⟨by omega, by omega⟩, fun _ => go 11 3 45 M3 (rk_45.mpr ⟨hl, hbd⟩) (Or.inr rfl) (by decide) hbd (by decide) hl (e2.trans e3) T3, fun w => absurd w (by omega)⟩
  exact loop (L - f1) f1 m1 l1 u1 M1 (Nat.le_refl _) lt1 na1 nb1 e1 R1 rc1
end MRT
