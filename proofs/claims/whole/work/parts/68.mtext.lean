/-! ===== the reference's pieces ===== -/
section TKM
variable {G : Gx} {n : Nat} {M : Mem} {b : Nat → Int} {L f : Nat}
def Tq (b : Nat → Int) (L : Nat) (M : Mem) : Prop := M 0 1 0 = (L : Int) ∧ L ≤ 400 ∧ ∀ i, i < 400 → bRel (b i) (M 0 0 i)
/-- the next piece begins at f; and: the reference stands there -/
def Tm (b : Nat → Int) (L : Nat) (M : Mem) (f : Nat) : Prop := Tq b L M ∧ ∃ p : Nat, M 0 14 0 = (p : Int) ∧ p ≤ L ∧ run pB b L p = f
def Te (b : Nat → Int) (L : Nat) (M : Mem) (f : Nat) : Prop := Tq b L M ∧ M 0 14 0 = (f : Int) ∧ f ≤ L ∧ run pB b L f = f
theorem Te.tm (T : Te b L M f) : Tm b L M f := ⟨T.1, f, T.2⟩
theorem Tq_cg {M' : Mem} (T : Tq b L M) (h0 : M' 0 0 = M 0 0) (h1 : M' 0 1 = M 0 1) : Tq b L M' := by
  unfold Tq; rw [h0, h1]; exact T
theorem Tm_cg {M' : Mem} (T : Tm b L M f) (h0 : M' 0 0 = M 0 0) (h1 : M' 0 1 = M 0 1) (h14 : M' 0 14 = M 0 14) : Tm b L M' f := by
  unfold Tm Tq; rw [h0, h1, h14]; exact T
theorem Te_cg {M' : Mem} (T : Te b L M f) (h0 : M' 0 0 = M 0 0) (h1 : M' 0 1 = M 0 1) (h14 : M' 0 14 = M 0 14) : Te b L M' f := by
  unfold Te Tq; rw [h0, h1, h14]; exact T
theorem Tm.eq {M' : Mem} {l : List (Nat × Nat)} (T : Tm b L M f) (e : EqX l M M') (h0 : (0, 0) ∉ l) (h1 : (0, 1) ∉ l) (h2 : (0, 14) ∉ l) : Tm b L M' f := Tm_cg T (e.fld h0) (e.fld h1) (e.fld h2)
theorem Te.eq {M' : Mem} {l : List (Nat × Nat)} (T : Te b L M f) (e : EqX l M M') (h0 : (0, 0) ∉ l) (h1 : (0, 1) ∉ l) (h2 : (0, 14) ∉ l) : Te b L M' f := Te_cg T (e.fld h0) (e.fld h1) (e.fld h2)
theorem Tm.le (T : Tm b L M f) : f ≤ L ∧ L ≤ 400 ∧ run pB b L f = f := by
  obtain ⟨t, p, -, h, e⟩ := T
  rw [← e]
  exact ⟨run_le h, t.2.1, run_run h⟩
theorem c12_see {Q : Int → Mem → Prop} (T : Tm b L M f) (h : ∀ M', EqX [(0, 14)] M M' → Te b L M' f → Q (byA b L f) M') : OkI G n mX12_see [vO 0] M Q := by
  obtain ⟨⟨t1, t2, t3⟩, p, hp, hpL, hr⟩ := T
  refine eX12_see (fun Kx => ?_)
  have fin : ∀ Mc, EqX [(0, 14)] M Mc → Mc 0 14 0 = (f : Int) → f ≤ L → run pB b L f = f → CW G Kx mX12_see n 38 [some (vO 0)] [] Mc (qI Q) := by
    intro Mc e e14 hf hff
    have g1 : Mc 0 1 0 = (L : Int) := by rw [e 0 1 0 (by decide)]; exact t1
    have hq := h Mc e ⟨⟨g1, t2, fun i hi => by rw [e 0 0 i (by decide)]; exact t3 i hi⟩, e14, hf, hff⟩
    unfold byA at hq
    refine bX12_see_38 ?_
    rw [g1, e14, Int.toNat_natCast, e 0 0 f (by decide)]
    refine ⟨fun z => ?_, fun z => ⟨⟨by omega, by omega⟩, ?_⟩⟩
    · rw [if_neg (by omega)] at hq; exact hq
    · rw [if_pos (by omega)] at hq
      obtain ⟨r1, r2, r3, r4, r5⟩ := t3 f (by omega)
      rw [bAnd255 (x := M 0 0 f) ⟨by omega, by omega⟩, show M 0 0 f % 256 = b f by omega]
      exact hq
  have loop : ∀ (k j : Nat) (Mc : Mem), L - j ≤ k → j ≤ L → run pB b L j = f → EqX [(0, 14)] M Mc → Mc 0 14 0 = (j : Int) → CW G Kx mX12_see n 0 [some (vO 0)] [] Mc (qI Q) := by
    intro k
    induction k with
    | zero =>
      intro j Mc hk hj hr e e14
      have g1 : Mc 0 1 0 = (L : Int) := by rw [e 0 1 0 (by decide)]; exact t1
      have ej : j = f := by rw [← hr]; exact (run_end (by omega)).symm
      refine bX12_see_0 ?_
      rw [g1, e14]
      exact ⟨fun _ => fin Mc e (by rw [e14, ej]) (by omega) (run_end (by omega)), fun z => absurd (by omega) z⟩
    | succ k ih =>
      intro j Mc hk hj hr e e14
      have g1 : Mc 0 1 0 = (L : Int) := by rw [e 0 1 0 (by decide)]; exact t1
      refine bX12_see_0 ?_
      rw [g1, e14, Int.toNat_natCast, e 0 0 j (by decide), wr_nat (j := j) (by omega)]
      refine ⟨fun z => ?_, fun z => ⟨⟨by omega, by omega⟩, fun w => ?_, fun w M1 m1 => ?_⟩⟩
      · have ej : j = f := by rw [← hr]; exact (run_end (by omega)).symm
        exact fin Mc e (by rw [e14, ej]) (by omega) (run_end (by omega))
      · obtain ⟨r1, r2, r3, r4, r5⟩ := t3 j (by omega)
        have hb : ¬ pB (b j) = true := by rw [pB_iff]; omega
        have ej : j = f := by rw [← hr]; exact (run_off hb).symm
        exact fin Mc e (by rw [e14, ej]) (by omega) (by rw [← ej]; exact run_off hb)
      · obtain ⟨r1, r2, r3, r4, r5⟩ := t3 j (by omega)
        have hb : pB (b j) = true := by rw [pB_iff]; omega
        refine ih (j + 1) M1 (by omega) (by omega) (by rw [← run_on (by omega) hb]; exact hr) (by rw [m1]; exact e.trans (EqX.mset (by decide))) (by rw [m1, mset_self])
  exact loop (L - p) p M (Nat.le_refl _) hpL hr EqX.rf hp
theorem c12_isDigit {Q : Int → Mem → Prop} {x : Nat} (T : Tq b L M) (ht : x < L → pD (b x) = true → Q 1 M) (hf : ¬ (x < L ∧ pD (b x) = true) → Q 0 M) : OkI G n mX12_isDigit [vO 0, vI (x : Int)] M Q := by
  obtain ⟨t1, t2, t3⟩ := T
  rw [pD_iff] at ht hf
  refine eX12_isDigit (fun Kx => bX12_isDigit_0 ?_)
  rw [t1, Int.toNat_natCast]
  refine ⟨fun z => hf (by omega), fun z => ?_⟩
  obtain ⟨r1, r2, r3, r4, r5⟩ := t3 x (by omega)
  exact ⟨⟨by omega, by omega⟩, fun y => hf (by omega), fun y => ⟨⟨by omega, by omega⟩, fun w => hf (by omega), fun w => ht (by omega) (by omega)⟩⟩
theorem c12_isLetter {Q : Int → Mem → Prop} {x : Nat} (T : Tq b L M) (ht : x < L → pL (b x) = true → Q 1 M) (hf : ¬ (x < L ∧ pL (b x) = true) → Q 0 M) : OkI G n mX12_isLetter [vO 0, vI (x : Int)] M Q := by
  obtain ⟨t1, t2, t3⟩ := T
  rw [pL_iff] at ht hf
  refine eX12_isLetter (fun Kx => bX12_isLetter_0 ?_)
  rw [t1, Int.toNat_natCast]
  refine ⟨fun z => hf (by omega), fun z => ?_⟩
  obtain ⟨r1, r2, r3, r4, r5⟩ := t3 x (by omega)
  exact ⟨⟨by omega, by omega⟩, fun y => hf (by omega), fun y => ⟨⟨by omega, by omega⟩, fun w => hf (by omega), fun w => ht (by omega) (by omega)⟩⟩
theorem c12_passWord {Q : Mem → Prop} (T : Te b L M f) (hw : kd b L f = 1) (h : ∀ M', EqX [(0, 14)] M M' → Tm b L M' (nx b L f) → Q M') : OkV G (n + 1) mX12_passWord [vO 0] M Q := by
  obtain ⟨t, t14, tL, tf⟩ := T
  have t400 := t.2.1
  obtain ⟨w1, w2⟩ := kd_1.mp hw
  have hbh : bh b L f = run pL b L f := by unfold bh; rw [if_neg (by omega), if_pos w2]
  refine eX12_passWord (fun Kx => ?_)
  have loop : ∀ (k j : Nat) (Mc : Mem), L - j ≤ k → j ≤ L → run pL b L j = run pL b L f → EqX [(0, 14)] M Mc → Mc 0 14 0 = (j : Int) → CW G Kx mX12_passWord (n + 1) 0 [some (vO 0)] [] Mc (qV Q) := by
    intro k
    induction k with
    | zero =>
      intro j Mc hk hj hr e e14
      have tq : Tq b L Mc := Tq_cg t (e.fld (by decide)) (e.fld (by decide))
      have ej : run pL b L f = j := by rw [← hr]; exact run_end (by omega)
      refine bX12_passWord_0 ?_
      rw [e14]
      exact c12_isLetter tq (fun z _ => absurd z (by omega)) (fun _ => ⟨fun _ => h Mc e ⟨tq, j, e14, hj, by unfold nx; rw [hbh, ej]⟩, fun z => absurd rfl z⟩)
    | succ k ih =>
      intro j Mc hk hj hr e e14
      have tq : Tq b L Mc := Tq_cg t (e.fld (by decide)) (e.fld (by decide))
      refine bX12_passWord_0 ?_
      rw [e14]
      refine c12_isLetter tq (fun z y => ⟨fun w => absurd w (by decide), fun _ M1 m1 => ?_⟩) (fun z => ⟨fun _ => h Mc e ⟨tq, j, e14, hj, ?_⟩, fun w => absurd rfl w⟩)
      · rw [e14, wr_nat (j := j) (by omega)] at m1
        exact ih (j + 1) M1 (by omega) (by omega) (by rw [← run_on z y]; exact hr) (by rw [m1]; exact e.trans (EqX.mset (by decide))) (by rw [m1, mset_self])
      · have ej : run pL b L f = j := by
          rw [← hr]
          by_cases q : j < L
          · exact run_off (fun u => z ⟨q, u⟩)
          · exact run_end (by omega)
        unfold nx; rw [hbh, ej]
  exact loop (L - f) f M (Nat.le_refl _) tL rfl EqX.rf t14
theorem c12_fails {Q : Int → Mem → Prop} {k : Int} {a : Nat} (h15 : M 0 15 0 = 0) (hk : 0 ≤ k ∧ k ≤ 4) (ha : a ≤ 400) (h : ∀ M', EqX [(0, 15)] M M' → M' 0 15 0 = 1 + 8 * (a : Int) + k → Q 0 M') : OkI G n mX12_fails [vO 0, vI k, vI (a : Int)] M Q := by
  refine eX12_fails (fun Kx => bX12_fails_0 ⟨fun z => absurd h15 z, fun _ M1 m1 => ?_⟩)
  rw [wrs (x := 8 * (a : Int)) (by omega) (by omega), wrs (x := 1 + 8 * (a : Int)) (by omega) (by omega), wrs (x := 1 + 8 * (a : Int) + k) (by omega) (by omega)] at m1
  exact h M1 (by rw [m1]; exact EqX.mset (by decide)) (by rw [m1, mset_self])
theorem c12_numberHere {Q : Int → Mem → Prop} {lo hi : Int} (T : Tm b L M f) (h15 : M 0 15 0 = 0) (ht : nF b L f lo hi = 0 → ∀ M', EqX [(0, 14), (0, 16)] M M' → Tm b L M' (nx b L f) → M' 0 16 0 = nv b L f → Q 1 M') (hf : nF b L f lo hi ≠ 0 → ∀ M', EqX [(0, 14), (0, 15), (0, 16)] M M' → M' 0 15 0 = nF b L f lo hi → Q 0 M') : OkI G (n + 1) mX12_numberHere [vO 0, vI lo, vI hi] M Q := by
  refine eX12_numberHere (fun Kx => bX12_numberHere_0 (c12_see T (fun M1 e1 T1 => ?_)))
  obtain ⟨t, t14, tL, tf⟩ := id T1
  have t400 := t.2.1
  have s15 : M1 0 15 0 = 0 := by rw [e1 0 15 0 (by decide)]; exact h15
  rw [t14]
  refine c12_isDigit t (fun z y => ⟨fun _ => ?_, fun w => absurd w (by decide)⟩) (fun z => ⟨fun w => absurd rfl w, fun _ => ?_⟩)
  · have hk : kd b L f = 2 := kd_2.mpr ⟨z, y⟩
    have hb : bh b L f = run pD b L f := by unfold bh; rw [if_neg (by omega), if_neg (fun u => pLD u y), if_pos y]
    rw [t14]
    have fin : ∀ (j : Nat) (Mc : Mem), run pD b L f = j → EqX [(0, 14), (0, 16)] M Mc → Mc 0 14 0 = (j : Int) → ∀ M2 : Mem, M2 = mset Mc 0 16 0 (nvF b f (mn5 (j - f))) → (5 < wr (M2 0 14 0 - (f : Int)) → OkI G n mX12_fails [vO 0, vI 1, vI (f : Int)] M2 (fun r_2 M3 => (r_2 = 0 → Q 0 M3) ∧ (¬ (r_2 = 0) → Q 1 M3))) ∧ (¬ (5 < wr (M2 0 14 0 - (f : Int))) → OkI G n mX12_in [vL (nvF b f (mn5 (j - f))), vL lo, vL hi] M2 (fun r_3 M4 => (¬ r_3 = 0 → Q 1 M4) ∧ (r_3 = 0 → OkI G n mX12_fails [vO 0, vI 1, vI (f : Int)] M4 (fun r_4 M5 => (r_4 = 0 → Q 0 M5) ∧ (¬ (r_4 = 0) → Q 1 M5))))) := by
      intro j Mc ej e e14 M2 m2
      have hjL := run_le (p := pD) (b := b) (L := L) (i := f) tL
      have hfj := run_ge (p := pD) (b := b) (L := L) (i := f)
      have e2 : EqX [(0, 14), (0, 16)] M M2 := by rw [m2]; exact e.trans (EqX.mset (by decide))
      have g14 : M2 0 14 0 = (j : Int) := by rw [m2, mset_ne (by simp)]; exact e14
      have g15 : M2 0 15 0 = 0 := by rw [e2 0 15 0 (by decide)]; exact h15
      have g16 : M2 0 16 0 = nvF b f (mn5 (j - f)) := by rw [m2, mset_self]
      have hdg : dg b L f = j - f := by unfold dg; rw [ej]
      have hnv : nv b L f = nvF b f (mn5 (j - f)) := by unfold nv mn5; rw [hdg]
      have tq : Tq b L M2 := Tq_cg T.1 (e2.fld (by decide)) (e2.fld (by decide))
      rw [g14, wrs (x := (j : Int) - (f : Int)) (by omega) (by omega), ← hnv]
      have bad : ¬ (dg b L f ≤ 5 ∧ lo ≤ nv b L f ∧ nv b L f ≤ hi) → OkI G n mX12_fails [vO 0, vI 1, vI (f : Int)] M2 (fun r_2 M3 => (r_2 = 0 → Q 0 M3) ∧ (¬ (r_2 = 0) → Q 1 M3)) := by
        intro q
        have en : nF b L f lo hi = 1 + 8 * (f : Int) + 1 := by unfold nF; rw [if_pos hk, if_neg q]
        exact c12_fails g15 (by decide) (by omega) (fun M3 e3 g3 => ⟨fun _ => hf (by omega) M3 ((e2.sub (by decide)).trans (e3.sub (by decide))) (by rw [g3, en]), fun w => absurd rfl w⟩)
      refine ⟨fun w => bad (fun q => by omega), fun w => c12_in (fun u v => ⟨fun _ => ht ?_ M2 e2 ⟨tq, j, g14, by omega, by unfold nx; rw [hb, ej]⟩ (by rw [g16, hnv]), fun x => absurd x (by decide)⟩) (fun u => ⟨fun x => absurd rfl x, fun _ => bad (fun q => u q.2)⟩)⟩
      unfold nF; rw [if_pos hk, if_pos ⟨by omega, u, v⟩]
    have loop : ∀ (k j : Nat) (Mc : Mem), L - j ≤ k → f ≤ j → j ≤ L → run pD b L j = run pD b L f → (∀ i, f ≤ i → i < j → pD (b i) = true) → EqX [(0, 14), (0, 16)] M Mc → Mc 0 14 0 = (j : Int) → CW G Kx mX12_numberHere (n + 1) 34 [some (vO 0), some (vI lo), some (vI hi), some (vI (f : Int)), some (vI (nvF b f (mn5 (j - f))))] [] Mc (qI Q) := by
      intro k
      induction k with
      | zero =>
        intro j Mc hkk hj hj2 hr hd e e14
        have tq : Tq b L Mc := Tq_cg T.1 (e.fld (by decide)) (e.fld (by decide))
        refine bX12_numberHere_34 ?_
        rw [e14]
        exact c12_isDigit tq (fun w _ => absurd w (by omega)) (fun _ => ⟨fun _ => fin j Mc (by rw [← hr]; exact run_end (by omega)) e e14, fun w => absurd rfl w⟩)
      | succ k ih =>
        intro j Mc hkk hj hj2 hr hd e e14
        have tq : Tq b L Mc := Tq_cg T.1 (e.fld (by decide)) (e.fld (by decide))
        refine bX12_numberHere_34 ?_
        rw [e14]
        refine c12_isDigit tq (fun w v => ⟨fun x => absurd x (by decide), fun _ => ?_⟩) (fun w => ⟨fun _ => fin j Mc ?_ e e14, fun x => absurd rfl x⟩)
        · have hr' : run pD b L (j + 1) = run pD b L f := by rw [← run_on w v]; exact hr
          have hd' : ∀ i, f ≤ i → i < j + 1 → pD (b i) = true := fun i a c => by
            by_cases q : i = j
            · rw [q]; exact v
            · exact hd i a (by omega)
          have hv := nvF_rng (b := b) (f := f) (mn5 (j - f)) (fun i a c => hd i a (by unfold mn5 at c; split at c <;> omega)) (by unfold mn5; split <;> omega)
          have hbj := pD_iff.mp v
          obtain ⟨r1, r2, r3, r4, r5⟩ := tq.2.2 j (by omega)
          have ebj : Mc 0 0 j = b j := by omega
          rw [e14, Int.toNat_natCast, ebj, wrs (x := (j : Int) - (f : Int)) (by omega) (by omega), wr_nat (j := j) (by omega)]
          refine ⟨fun x M6 m6 => ?_, fun x => ⟨⟨by omega, by omega⟩, fun M7 m7 => ?_⟩⟩
          · have q : nvF b f (mn5 (j - f)) = nvF b f (mn5 (j + 1 - f)) := by
              unfold mn5; rw [if_neg (show ¬ j + 1 - f ≤ 5 by omega)]
              split
              · rw [show j - f = 5 by omega]
              · rfl
            rw [q]
            exact ih (j + 1) M6 (by omega) (by omega) (by omega) hr' hd' (by rw [m6]; exact e.trans (EqX.mset (by decide))) (by rw [m6, mset_self])
          · have q1 : mn5 (j - f) = j - f := by unfold mn5; rw [if_pos (by omega)]
            have q2 : mn5 (j + 1 - f) = (j - f) + 1 := by unfold mn5; rw [if_pos (by omega)]; omega
            have q3 : nvF b f ((j - f) + 1) = nvF b f (j - f) * 10 + b j - 48 := by show nvF b f (j - f) * 10 + b (f + (j - f)) - 48 = _; rw [show f + (j - f) = j by omega]
            rw [q1] at hv ⊢
            have hv4 := hv.2.2.1 (by omega)
            have q4 : wr (wr (wr (10 * nvF b f (j - f)) + b j) - 48) = nvF b f (mn5 (j + 1 - f)) := by
              rw [q2, q3, wrs (x := 10 * nvF b f (j - f)) (by omega) (by omega), wrs (x := 10 * nvF b f (j - f) + b j) (by omega) (by omega), wrs (x := 10 * nvF b f (j - f) + b j - 48) (by omega) (by omega)]; omega
            rw [q4]
            exact ih (j + 1) M7 (by omega) (by omega) (by omega) hr' hd' (by rw [m7]; exact e.trans (EqX.mset (by decide))) (by rw [m7, mset_self])
        · rw [← hr]
          by_cases q : j < L
          · exact run_off (fun u => w ⟨q, u⟩)
          · exact run_end (by omega)
    have := loop (L - f) f M1 (Nat.le_refl _) (Nat.le_refl _) tL rfl (fun i a c => by omega) (e1.sub (by decide)) t14
    rw [Nat.sub_self] at this
    exact this
  · have hk : ¬ kd b L f = 2 := fun q => z (kd_2.mp q)
    have en : nF b L f lo hi = 1 + 8 * (f : Int) + 0 := by unfold nF; rw [if_neg hk]
    rw [t14]
    exact c12_fails s15 (by decide) (by omega) (fun M3 e3 g3 => ⟨Or.inl rfl, hf (by omega) M3 ((e1.sub (by decide)).trans (e3.sub (by decide))) (by rw [g3, en])⟩)
/-! words -/
theorem i64_bv {a : Nat} : (Int64.ofInt (a : Int)).toBitVec = BitVec.ofNat 64 a := by
  show BitVec.ofInt 64 (a : Int) = _
  exact BitVec.ofInt_natCast 64 a
theorem bv_toInt64 {b : BitVec 64} {c : Nat} (h : b.toNat = c) (hc : c < 9223372036854775808) : b.toInt = (c : Int) := by
  rw [BitVec.toInt_eq_toNat_of_lt (by rw [h]; omega), h]
theorem or_add {v c : Nat} (hc : c < 256) : v * 256 ||| c = v * 256 + c := by
  have := Nat.two_pow_add_eq_or_of_lt (i := 8) (b := c) (by omega) v
  rw [show (2 : Nat) ^ 8 = 256 from rfl] at this
  rw [Nat.mul_comm, this]
theorem lOr_shl {v c : Nat} (hv : v < 281474976710656) (hc : c < 256) : lOr (lShl (v : Int) 8) (c : Int) = ((v * 256 + c : Nat) : Int) := by
  have e1 : lShl (v : Int) 8 = ((v * 256 : Nat) : Int) := by
    show (Int64.ofInt (v : Int) <<< ((Int32.ofInt 8).toInt64 &&& 63)).toBitVec.toInt = _
    have e8 : ((Int32.ofInt 8).toInt64 &&& 63) = 8 := by decide
    rw [e8, Int64.toBitVec_shiftLeft, i64_bv]
    refine bv_toInt64 ?_ (by omega)
    have e9 : ((8 : Int64).toBitVec.smod 64) = 8#64 := by decide
    rw [e9]
    rw [BitVec.shiftLeft_eq', BitVec.toNat_shiftLeft, BitVec.toNat_ofNat, show (8#64).toNat = 8 from rfl, Nat.shiftLeft_eq, Nat.mod_eq_of_lt (show v < 2 ^ 64 by omega), Nat.mod_eq_of_lt (show v * 2 ^ 8 < 2 ^ 64 by omega)]
  rw [e1]
  show (Int64.ofInt ((v * 256 : Nat) : Int) ||| Int64.ofInt (c : Int)).toBitVec.toInt = _
  rw [Int64.toBitVec_or, i64_bv, i64_bv]
  refine bv_toInt64 ?_ (by omega)
  rw [BitVec.toNat_or, BitVec.toNat_ofNat, BitVec.toNat_ofNat, Nat.mod_eq_of_lt (show v * 256 < 2 ^ 64 by omega), Nat.mod_eq_of_lt (show c < 2 ^ 64 by omega), or_add hc]
theorem wv_bd {f : Nat} : ∀ k : Nat, k ≤ 6 → (∀ j, j < k → 1 ≤ b (f + j) ∧ b (f + j) ≤ 255) → 0 ≤ wv b f k ∧ wv b f k < 281474976710656 ∧ (k ≤ 5 → wv b f k < 1099511627776) ∧ (k ≤ 4 → wv b f k < 4294967296) ∧ (k ≤ 3 → wv b f k < 16777216) ∧ (k ≤ 2 → wv b f k < 65536) ∧ (k ≤ 1 → wv b f k < 256) ∧ (k ≤ 0 → wv b f k < 1)
  | 0, _, _ => by unfold wv; omega
  | k + 1, hk, h => by
    have ih := wv_bd k (by omega) (fun j hj => h j (by omega))
    have := h k (by omega)
    unfold wv
    omega
theorem wI_ok {j : Nat} (hj : j < 19) : (∀ k, k < (wI j).length → 97 ≤ (wI j).getD k 0 ∧ (wI j).getD k 0 ≤ 122) ∧ 0 < (wI j).length ∧ (wI j).length ≤ 7 := by
  have : ∀ j, j < 19 → (∀ k, k < (wI j).length → 97 ≤ (wI j).getD k 0 ∧ (wI j).getD k 0 ≤ 122) ∧ 0 < (wI j).length ∧ (wI j).length ≤ 7 := by decide
  exact this j hj
theorem c12_isWord {Q : Int → Mem → Prop} {j : Nat} {x : Int} (hj : j < 19) (hx : x = wN (wI j)) (T : Tm b L M f) (ht : wq b L f j → ∀ M', EqX [(0, 14)] M M' → Te b L M' f → Q 1 M') (hf : ¬ wq b L f j → ∀ M', EqX [(0, 14)] M M' → Te b L M' f → Q 0 M') : OkI G (n + 1) mX12_isWord [vO 0, vL x] M Q := by
  obtain ⟨w1, w2, w3⟩ := wI_ok hj
  refine eX12_isWord (fun Kx => bX12_isWord_0 (c12_see T (fun M1 e1 T1 => ?_)))
  obtain ⟨t, t14, tL, tf⟩ := id T1
  have t400 := t.2.1
  have hge := run_ge (p := pL) (b := b) (L := L) (i := f)
  have hle := run_le (p := pL) (b := b) (L := L) (i := f) tL
  have key := wv_word (b := b) (L := L) (f := f) (w := wI j) w1 w2 (fun i a c => run_in a c)
  have fin : ∀ (k : Nat) (v : Int), f + k = run pL b L f → (k ≤ 7 → v = wv b f k) → ((k : Int) ≤ 0 → Q 0 M1) ∧ (¬ ((k : Int) ≤ 0) → (8 ≤ (k : Int) → Q 0 M1) ∧ (¬ (8 ≤ (k : Int)) → (¬ sg v x = 0 → Q 0 M1) ∧ (sg v x = 0 → Q 1 M1))) := by
    intro k v hk hv
    have em : run pL b L f - f = k := by omega
    rw [em] at key
    rw [sg_zero]
    have no : ¬ wdAt b L f (wI j) → Q 0 M1 := fun z => hf z M1 e1 T1
    refine ⟨fun z => no (fun q => by have := (key.mp q).1; omega), fun z => ⟨fun y => no (fun q => by have := q.2.1; omega), fun y => ⟨fun u => no (fun q => u (by rw [hv (by omega), hx]; exact (key.mp q).2)), fun u => ht (key.mpr ⟨by omega, by rw [← hx, ← u, hv (by omega)]⟩) M1 e1 T1⟩⟩⟩
  have loop : ∀ (c k : Nat) (v : Int), L - (f + k) ≤ c → f + k ≤ L → run pL b L (f + k) = run pL b L f → (k ≤ 7 → v = wv b f k) → CW G Kx mX12_isWord (n + 1) 10 [some (vO 0), some (vL x), none, some (vL v), none, some (vI (k : Int))] [] M1 (qI Q) := by
    intro c
    induction c with
    | zero =>
      intro k v hc hk hr hv
      refine bX12_isWord_10 ?_
      rw [t14, wrs (x := (f : Int) + (k : Int)) (by omega) (by omega), show (f : Int) + (k : Int) = ((f + k : Nat) : Int) by omega]
      exact c12_isLetter t (fun z _ => absurd z (by omega)) (fun _ => ⟨fun _ => fin k v (by rw [← hr]; exact (run_end (by omega)).symm) hv, fun z => absurd rfl z⟩)
    | succ c ih =>
      intro k v hc hk hr hv
      refine bX12_isWord_10 ?_
      rw [t14, wrs (x := (f : Int) + (k : Int)) (by omega) (by omega), show (f : Int) + (k : Int) = ((f + k : Nat) : Int) by omega]
      refine c12_isLetter t (fun z y => ⟨fun w => absurd w (by decide), fun _ => ?_⟩) (fun z => ⟨fun _ => fin k v ?_ hv, fun w => absurd rfl w⟩)
      · have hr' : run pL b L (f + (k + 1)) = run pL b L f := by rw [← hr, run_on z y]; rfl
        have step : ∀ v', (k + 1 ≤ 7 → v' = wv b f (k + 1)) → CW G Kx mX12_isWord (n + 1) 10 [some (vO 0), some (vL x), none, some (vL v'), none, some (vI ((k + 1 : Nat) : Int))] [] M1 (qI Q) := fun v' h' => ih (k + 1) v' (by omega) (by omega) hr' h'
        rw [t14, wrs (x := (f : Int) + (k : Int)) (by omega) (by omega), show (f : Int) + (k : Int) = ((f + k : Nat) : Int) by omega, Int.toNat_natCast, wr_nat (j := k) (by omega)]
        refine ⟨fun w => step v (fun q => by omega), fun w => ⟨⟨by omega, by omega⟩, step _ (fun q => ?_)⟩⟩
        have hb : ∀ i, i < k → 1 ≤ b (f + i) ∧ b (f + i) ≤ 255 := fun i hi => by
          have hrge := run_ge (p := pL) (b := b) (L := L) (i := f + k)
          have := pL_iff.mp (run_in (p := pL) (b := b) (L := L) (i := f) (j := f + i) (by omega) (by omega)); omega
        have hwb := wv_bd (b := b) (f := f) k (by omega) hb
        have hl := pL_iff.mp y
        obtain ⟨r1, r2, r3, r4, r5⟩ := t.2.2 (f + k) (by omega)
        have ebj : M1 0 0 (f + k) = b (f + k) := by omega
        rw [hv (by omega), ebj]
        have q1 : wv b f k = (((wv b f k).toNat : Nat) : Int) := by omega
        have q2 : b (f + k) = (((b (f + k)).toNat : Nat) : Int) := by omega
        rw [q1, q2, lOr_shl (by omega) (by omega)]
        show _ = wv b f k * 256 + b (f + k)
        omega
      · rw [← hr]
        by_cases q : f + k < L
        · exact (run_off (fun u => z ⟨q, u⟩)).symm
        · exact (run_end (by omega)).symm
  exact loop (L - f) 0 0 (by omega) (by omega) rfl (fun _ => rfl)
end TKM
