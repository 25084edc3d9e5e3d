/-! ===== the class's pieces ===== -/
section TKC
variable {G : Gx} {n : Nat} {M : Mem} {b : Nat → Int} {L f : Nat}
def byA (b : Nat → Int) (L x : Nat) : Int := if x < L then b x else -1
abbrev tkF : List (Nat × Nat) := [(2, 2), (2, 3), (2, 4), (2, 5), (2, 6)]
def Tk (b : Nat → Int) (L : Nat) (M : Mem) (f : Nat) : Prop := M 2 0 = b ∧ M 2 1 0 = (L : Int) ∧ L ≤ 400 ∧ f ≤ L ∧ M 2 2 0 = kd b L f ∧ M 2 3 0 = (f : Int) ∧ M 2 4 0 = ((bh b L f : Nat) : Int) ∧ (kd b L f = 2 → M 2 5 0 = ((dg b L f : Nat) : Int) ∧ M 2 6 0 = nv b L f) ∧ run pB b L f = f
theorem Tk_cg {M' : Mem} (T : Tk b L M f) (h : ∀ k, k ≤ 6 → M' 2 k = M 2 k) : Tk b L M' f := by
  unfold Tk
  rw [h 0 (by decide), h 1 (by decide), h 2 (by decide), h 3 (by decide), h 4 (by decide), h 5 (by decide), h 6 (by decide)]
  exact T
theorem Tk.mset {o k i : Nat} {x : Int} (T : Tk b L M f) (h : o ≠ 2) : Tk b L (mset M o k i x) f := Tk_cg T (fun j _ => funext (fun q => mset_ne (fun z => h z.1.symm)))
theorem c9_byteAt {Q : Int → Mem → Prop} {x : Nat} (h0 : M 2 0 = b) (h1 : M 2 1 0 = (L : Int)) (hL : L ≤ 400) (h : Q (byA b L x) M) : OkI G n mX9_byteAt [vO 2, vI (x : Int)] M Q := by
  refine eX9_byteAt (fun Kx => bX9_byteAt_0 ?_)
  rw [h1, Int.toNat_natCast, h0]
  unfold byA at h
  refine ⟨fun z => absurd z (by omega), fun _ => ⟨fun z => ?_, fun z => ⟨fun y => absurd y (by omega), fun _ => ⟨⟨by omega, by omega⟩, ?_⟩⟩⟩⟩
  · rw [if_neg (by omega)] at h; exact h
  · rw [if_pos (by omega)] at h; exact h
theorem c9_isLetter {Q : Int → Mem → Prop} {c : Int} (ht : pL c = true → Q 1 M) (hf : ¬ pL c = true → Q 0 M) : OkI G n mX9_isLetter [vI c] M Q := by
  rw [pL_iff] at ht hf
  exact eX9_isLetter (fun Kx => bX9_isLetter_0 ⟨fun z => hf (by omega), fun z => ⟨fun y => hf (by omega), fun y => ht (by omega)⟩⟩)
theorem c9_isDigit {Q : Int → Mem → Prop} {c : Int} (ht : pD c = true → Q 1 M) (hf : ¬ pD c = true → Q 0 M) : OkI G n mX9_isDigit [vI c] M Q := by
  rw [pD_iff] at ht hf
  exact eX9_isDigit (fun Kx => bX9_isDigit_0 ⟨fun z => hf (by omega), fun z => ⟨fun y => hf (by omega), fun y => ht (by omega)⟩⟩)
def mn5 (k : Nat) : Nat := if k ≤ 5 then k else 5
theorem wr_nat {j : Nat} (h : j ≤ 1000) : wr ((j : Int) + 1) = ((j + 1 : Nat) : Int) := wr_n (b := 2000) (k := j) (by omega) (by omega)
theorem c9_behindDigits {Q : Int → Mem → Prop} (h0 : M 2 0 = b) (h1 : M 2 1 0 = (L : Int)) (hL : L ≤ 400) (hf : f ≤ L) (h : ∀ M', EqX [(2, 5), (2, 6)] M M' → M' 2 5 0 = ((dg b L f : Nat) : Int) → M' 2 6 0 = nv b L f → Q ((run pD b L f : Nat) : Int) M') : OkI G n mX9_behindDigits [vO 2, vI (f : Int)] M Q := by
  refine eX9_behindDigits (fun Kx => bX9_behindDigits_0 (fun M1 m1 M2 m2 => ?_))
  have loop : ∀ (k j : Nat) (Mc : Mem), L - j ≤ k → f ≤ j → j ≤ L → run pD b L j = run pD b L f → (∀ i, f ≤ i → i < j → pD (b i) = true) → EqX [(2, 5), (2, 6)] M Mc → Mc 2 5 0 = ((j - f : Nat) : Int) → Mc 2 6 0 = nvF b f (mn5 (j - f)) → CW G Kx mX9_behindDigits n 12 [some (vO 2), none, some (vI (j : Int))] [] Mc (qI Q) := by
    intro k
    induction k with
    | zero =>
      intro j Mc hk hj hj2 hr hd e e5 e6
      have g1 : Mc 2 1 0 = (L : Int) := by rw [e 2 1 0 (by decide)]; exact h1
      have ej : run pD b L f = j := by rw [← hr]; exact run_end (by omega)
      refine bX9_behindDigits_12 ?_
      rw [g1]
      refine ⟨fun z => absurd z (by omega), fun _ => ⟨fun _ => ?_, fun z => absurd (by omega) z⟩⟩
      have := h Mc e (by rw [e5]; unfold dg; rw [ej]) (by rw [e6]; unfold nv dg mn5; rw [ej])
      rw [ej] at this; exact this
    | succ k ih =>
      intro j Mc hk hj hj2 hr hd e e5 e6
      have g1 : Mc 2 1 0 = (L : Int) := by rw [e 2 1 0 (by decide)]; exact h1
      have g0 : Mc 2 0 j = b j := by rw [e 2 0 j (by decide), h0]
      have stop : run pD b L j = j → Q (j : Int) Mc := by
        intro z
        have ej : run pD b L f = j := by rw [← hr]; exact z
        have := h Mc e (by rw [e5]; unfold dg; rw [ej]) (by rw [e6]; unfold nv dg mn5; rw [ej])
        rw [ej] at this; exact this
      refine bX9_behindDigits_12 ?_
      rw [g1, Int.toNat_natCast, g0, e5]
      refine ⟨fun z => absurd z (by omega), fun _ => ⟨fun z => stop (run_end (by omega)), fun z => ⟨fun y => absurd y (by omega), fun _ => ⟨⟨by omega, by omega⟩, fun y => stop (run_off (by rw [pD_iff]; omega)), fun y => ⟨⟨by omega, by omega⟩, fun x => stop (run_off (by rw [pD_iff]; omega)), fun x Ma ma => ?_⟩⟩⟩⟩⟩
      have hdj : pD (b j) = true := pD_iff.mpr ⟨by omega, by omega⟩
      have hr' : run pD b L (j + 1) = run pD b L f := by rw [← run_on (by omega) hdj]; exact hr
      have hd' : ∀ i, f ≤ i → i < j + 1 → pD (b i) = true := fun i a c => by
        by_cases q : i = j
        · rw [q]; exact hdj
        · exact hd i a (by omega)
      have hv := nvF_rng (b := b) (f := f) (mn5 (j - f)) (fun i a c => hd i a (by unfold mn5 at c; split at c <;> omega)) (by unfold mn5; split <;> omega)
      have hE : EqX [(2, 5), (2, 6)] M Ma := by rw [ma]; exact e.trans (EqX.mset (by decide))
      have a6 : Ma 2 6 0 = nvF b f (mn5 (j - f)) := by rw [ma, mset_ne (by simp)]; exact e6
      have a0 : Ma 2 0 j = b j := by rw [hE 2 0 j (by decide), h0]
      rw [wr_nat (j := j - f) (by omega)] at ma
      have a5 : Ma 2 5 0 = ((j + 1 - f : Nat) : Int) := by rw [ma, mset_self]; congr 1; omega
      rw [a5, a6, a0, wr_nat (j := j) (by omega)]
      refine ⟨fun w => ih (j + 1) Ma (by omega) (by omega) (by omega) hr' hd' hE a5 ?_, fun w => ⟨⟨by omega, by omega⟩, fun Mb mb => ih (j + 1) Mb (by omega) (by omega) (by omega) hr' hd' ?_ ?_ ?_⟩⟩
      · rw [a6]; unfold mn5; rw [if_neg (show ¬ j + 1 - f ≤ 5 by omega)]
        split
        · rw [show j - f = 5 by omega]
        · rfl
      · rw [mb]; exact hE.trans (EqX.mset (by decide))
      · rw [mb, mset_ne (by simp)]; exact a5
      · have q1 : mn5 (j - f) = j - f := by unfold mn5; rw [if_pos (by omega)]
        have q2 : mn5 (j + 1 - f) = (j - f) + 1 := by unfold mn5; rw [if_pos (by omega)]; omega
        have q3 : nvF b f ((j - f) + 1) = nvF b f (j - f) * 10 + b j - 48 := by show nvF b f (j - f) * 10 + b (f + (j - f)) - 48 = _; rw [show f + (j - f) = j by omega]
        rw [q1] at hv mb
        have hv4 := hv.2.2.1 (by omega)
        rw [mb, mset_self, q2, q3, wrs (x := nvF b f (j - f) * 10) (by omega) (by omega), wrs (x := nvF b f (j - f) * 10 + b j) (by omega) (by omega), wrs (x := nvF b f (j - f) * 10 + b j - 48) (by omega) (by omega)]
  exact loop (L - f) f M2 (Nat.le_refl _) (Nat.le_refl _) hf rfl (fun i a c => by omega) (by rw [m2, m1]; exact (EqX.mset (by decide)).trans (EqX.mset (by decide))) (by rw [m2, mset_ne (by simp), m1, mset_self, Nat.sub_self]; rfl) (by rw [m2, mset_self, Nat.sub_self]; rfl)
theorem c9_advance {Q : Mem → Prop} {i : Nat} (h0 : M 2 0 = b) (h1 : M 2 1 0 = (L : Int)) (hL : L ≤ 400) (h4 : M 2 4 0 = (i : Int)) (hi : i ≤ L) (h : ∀ M', EqX tkF M M' → Tk b L M' (run pB b L i) → Q M') : OkV G (n + 1) mX9_advance [vO 2] M Q := by
  refine eX9_advance (fun Kx => bX9_advance_0 ?_)
  rw [h4]
  have hfL := run_le (p := pB) (b := b) (L := L) (i := i) hi
  have htok := run_run (p := pB) (b := b) (L := L) (i := i) hi
  have piece : CW G Kx mX9_advance (n + 1) 29 [some (vO 2), some (vI ((run pB b L i : Nat) : Int)), none] [] M (qV Q) := by
    generalize run pB b L i = f at *
    refine bX9_advance_29 (fun M1 m1 => ?_)
    have e1 : EqX tkF M M1 := by rw [m1]; exact EqX.mset (by decide)
    have f0 : ∀ Mc, EqX tkF M Mc → Mc 2 0 = b := fun Mc e => (e.fld (by decide)).trans h0
    have f1 : ∀ Mc, EqX tkF M Mc → Mc 2 1 0 = (L : Int) := fun Mc e => by rw [e 2 1 0 (by decide)]; exact h1
    have f3 : M1 2 3 0 = (f : Int) := by rw [m1, mset_self]
    rw [f1 M1 e1]
    refine ⟨fun z => ?_, fun z M13 m13 M14 m14 => h M14 ?_ ?_⟩
    · have hfl : f < L := by omega
      have hby : byA b L f = b f := by unfold byA; rw [if_pos hfl]
      refine c9_byteAt (f0 M1 e1) (f1 M1 e1) hL ?_
      rw [hby]
      refine c9_isLetter (fun y => ⟨fun w => absurd w (by decide), fun _ M12 m12 => ?_⟩) (fun y => ⟨fun _ => ?_, fun w => absurd rfl w⟩)
      · -- a word
        have e12 : EqX tkF M M12 := by rw [m12]; exact e1.trans (EqX.mset (by decide))
        have hk : kd b L f = 1 := kd_1.mpr ⟨hfl, y⟩
        have hb : bh b L f = run pL b L f := by unfold bh; rw [if_neg (by omega), if_pos y]
        have g2 : M12 2 2 0 = 1 := by rw [m12, mset_self]
        have g3 : M12 2 3 0 = (f : Int) := by rw [m12, mset_ne (by simp)]; exact f3
        have fin : ∀ (j : Nat) (M3 : Mem), run pL b L f = j → M3 = mset M12 2 4 0 (j : Int) → Q M3 := by
          intro j M3 ej m3
          refine h M3 (by rw [m3]; exact e12.trans (EqX.mset (by decide))) ⟨?_, ?_, hL, hfL, ?_, ?_, ?_, fun w => by omega, htok⟩
          · exact f0 M3 (by rw [m3]; exact e12.trans (EqX.mset (by decide)))
          · exact f1 M3 (by rw [m3]; exact e12.trans (EqX.mset (by decide)))
          · rw [m3, mset_ne (by simp), g2, hk]
          · rw [m3, mset_ne (by simp), g3]
          · rw [m3, mset_self, hb, ej]
        have loop : ∀ (k j : Nat), L - j ≤ k → f ≤ j → j ≤ L → run pL b L j = run pL b L f → CW G Kx mX9_advance (n + 1) 66 [some (vO 2), some (vI (j : Int)), none] [] M12 (qV Q) := by
          intro k
          induction k with
          | zero =>
            intro j hk hj hj2 hr
            have ej : run pL b L f = j := by rw [← hr]; exact run_end (by omega)
            refine bX9_advance_66 (c9_byteAt (f0 M12 e12) (f1 M12 e12) hL ?_)
            have : byA b L j = -1 := by unfold byA; rw [if_neg (by omega)]
            rw [this]
            exact c9_isLetter (fun w => absurd w (by decide)) (fun _ => ⟨fun _ M3 m3 => fin j M3 ej m3, fun w => absurd rfl w⟩)
          | succ k ih =>
            intro j hk hj hj2 hr
            refine bX9_advance_66 (c9_byteAt (f0 M12 e12) (f1 M12 e12) hL ?_)
            rw [wr_nat (j := j) (by omega)]
            by_cases q : j < L
            · have : byA b L j = b j := by unfold byA; rw [if_pos q]
              rw [this]
              refine c9_isLetter (fun w => ⟨fun z => absurd z (by decide), fun _ => ⟨fun z => absurd z (by rw [f1 M12 e12]; omega), fun _ => ih (j + 1) (by omega) (by omega) (by omega) (by rw [← run_on q w]; exact hr)⟩⟩) (fun w => ⟨fun _ M3 m3 => fin j M3 (by rw [← hr]; exact run_off w) m3, fun z => absurd rfl z⟩)
            · have : byA b L j = -1 := by unfold byA; rw [if_neg q]
              rw [this]
              exact c9_isLetter (fun w => absurd w (by decide)) (fun _ => ⟨fun _ M3 m3 => fin j M3 (by rw [← hr]; exact run_end (by omega)) m3, fun w => absurd rfl w⟩)
        exact loop (L - f) f (Nat.le_refl _) (Nat.le_refl _) hfL rfl
      · refine c9_byteAt (f0 M1 e1) (f1 M1 e1) hL ?_
        rw [hby]
        refine c9_isDigit (fun w => ⟨fun x => absurd x (by decide), fun _ M9 m9 => ?_⟩) (fun w => ⟨fun _ M6 m6 => ?_, fun x => absurd rfl x⟩)
        · -- a number
          have e9 : EqX tkF M M9 := by rw [m9]; exact e1.trans (EqX.mset (by decide))
          have hk : kd b L f = 2 := kd_2.mpr ⟨hfl, w⟩
          have hb : bh b L f = run pD b L f := by unfold bh; rw [if_neg (by omega), if_neg y, if_pos w]
          refine c9_behindDigits (f0 M9 e9) (f1 M9 e9) hL hfL (fun M10 e10 g5 g6 M11 m11 => h M11 ?_ ?_)
          · rw [m11]; exact (e9.trans (e10.sub (by decide))).trans (EqX.mset (by decide))
          · have e11 : EqX tkF M M11 := by rw [m11]; exact (e9.trans (e10.sub (by decide))).trans (EqX.mset (by decide))
            refine ⟨f0 M11 e11, f1 M11 e11, hL, hfL, ?_, ?_, ?_, fun _ => ⟨?_, ?_⟩, htok⟩
            · rw [m11, mset_ne (by simp), e10 2 2 0 (by decide), m9, mset_self, hk]
            · rw [m11, mset_ne (by simp), e10 2 3 0 (by decide), m9, mset_ne (by simp)]; exact f3
            · rw [m11, mset_self, hb]
            · rw [m11, mset_ne (by simp)]; exact g5
            · rw [m11, mset_ne (by simp)]; exact g6
        · -- a sign
          have e6 : EqX tkF M M6 := by rw [m6]; exact e1.trans (EqX.mset (by decide))
          have hk : kd b L f = 3 := kd_3.mpr ⟨hfl, y, w⟩
          have hb : bh b L f = if (b f = 60 ∨ b f = 62) ∧ f + 1 < L ∧ b (f + 1) = 61 then f + 2 else f + 1 := by unfold bh; rw [if_neg (by omega), if_neg y, if_neg w]
          have g2 : M6 2 2 0 = 3 := by rw [m6, mset_self]
          have g3 : M6 2 3 0 = (f : Int) := by rw [m6, mset_ne (by simp)]; exact f3
          have fin : ∀ (j : Nat) (M3 : Mem), bh b L f = j → M3 = mset M6 2 4 0 (j : Int) → Q M3 := by
            intro j M3 ej m3
            refine h M3 (by rw [m3]; exact e6.trans (EqX.mset (by decide))) ⟨?_, ?_, hL, hfL, ?_, ?_, ?_, fun w => by omega, htok⟩
            · exact f0 M3 (by rw [m3]; exact e6.trans (EqX.mset (by decide)))
            · exact f1 M3 (by rw [m3]; exact e6.trans (EqX.mset (by decide)))
            · rw [m3, mset_ne (by simp), g2, hk]
            · rw [m3, mset_ne (by simp), g3]
            · rw [m3, mset_self, ej]
          have two : ∀ z0 : Int, (z0 = 0 ↔ ¬ (b f = 60 ∨ b f = 62)) → CW G Kx mX9_advance (n + 1) 146 [some (vO 2), some (vI (f : Int)), none] [vI z0] M6 (qV Q) := by
            intro z0 hz
            refine bX9_advance_146 ?_
            rw [wr_nat (j := f) (by omega), wrs (x := (f : Int) + 2) (by omega) (by omega)]
            refine ⟨fun x M3 m3 => fin (f + 1) M3 (by rw [hb, if_neg (fun q => hz.mp x q.1)]) m3, fun x => ?_⟩
            have hx : b f = 60 ∨ b f = 62 := Classical.byContradiction (fun q => x (hz.mpr q))
            refine c9_byteAt (f0 M6 e6) (f1 M6 e6) hL ⟨fun q M3 m3 => fin (f + 1) M3 ?_ m3, fun q M4 m4 => fin (f + 2) M4 ?_ (by rw [m4]; rfl)⟩
            · rw [hb, if_neg (fun u => q ?_)]
              unfold byA; rw [if_pos u.2.1]; exact u.2.2
            · unfold byA at q
              by_cases u : f + 1 < L
              · rw [if_pos u] at q; rw [hb, if_pos ⟨hx, u, q⟩]
              · rw [if_neg u] at q; omega
          refine c9_byteAt (f0 M6 e6) (f1 M6 e6) hL ?_
          rw [hby]
          refine ⟨fun x => two 1 ⟨fun q => absurd q (by decide), fun q => absurd (Or.inl x) q⟩, fun x => c9_byteAt (f0 M6 e6) (f1 M6 e6) hL ?_⟩
          rw [hby]
          exact ⟨fun u => two 0 ⟨fun _ q => q.elim x u, fun _ => rfl⟩, fun u => two 1 ⟨fun q => absurd q (by decide), fun q => absurd (Or.inr u) q⟩⟩
    · rw [m14, m13]; exact (e1.trans (EqX.mset (by decide))).trans (EqX.mset (by decide))
    · have e14 : EqX tkF M M14 := by rw [m14, m13]; exact (e1.trans (EqX.mset (by decide))).trans (EqX.mset (by decide))
      have hk : kd b L f = 0 := kd_0.mpr (by omega)
      have hb : bh b L f = f := by unfold bh; rw [if_pos (by omega)]
      refine ⟨f0 M14 e14, f1 M14 e14, hL, hfL, ?_, ?_, ?_, fun w => by omega, htok⟩
      · rw [m14, mset_ne (by simp), m13, mset_self, hk]
      · rw [m14, mset_ne (by simp), m13, mset_ne (by simp)]; exact f3
      · rw [m14, mset_self, hb]
  have loop : ∀ (k j : Nat), L - j ≤ k → j ≤ L → run pB b L j = run pB b L i → CW G Kx mX9_advance (n + 1) 5 [some (vO 2), some (vI (j : Int)), none] [] M (qV Q) := by
    intro k
    induction k with
    | zero =>
      intro j hk hj hr
      have ej : run pB b L i = j := by rw [← hr]; exact run_end (by omega)
      refine bX9_advance_5 ?_
      rw [h1]
      rw [ej] at piece
      exact ⟨fun _ => piece, fun z => absurd (by omega) z⟩
    | succ k ih =>
      intro j hk hj hr
      refine bX9_advance_5 ?_
      rw [h1, wr_nat (j := j) (by omega)]
      refine ⟨fun z => ?_, fun z => c9_byteAt h0 h1 hL ?_⟩
      · have ej : run pB b L i = j := by rw [← hr]; exact run_end (by omega)
        rw [ej] at piece; exact piece
      · have q : j < L := by omega
        have : byA b L j = b j := by unfold byA; rw [if_pos q]
        rw [this]
        refine ⟨fun w => ?_, fun w => ih (j + 1) (by omega) (by omega) (by rw [← run_on q (pB_iff.mpr w)]; exact hr)⟩
        have ej : run pB b L i = j := by rw [← hr]; exact run_off (by rw [pB_iff]; exact w)
        rw [ej] at piece; exact piece
  exact loop (L - i) i (Nat.le_refl _) hi rfl
theorem Tk.adv {Q : Mem → Prop} (T : Tk b L M f) (h : ∀ M', EqX tkF M M' → Tk b L M' (nx b L f) → Q M') : OkV G (n + 1) mX9_advance [vO 2] M Q :=
  c9_advance T.1 T.2.1 T.2.2.1 T.2.2.2.2.2.2.1 (bh_rng T.2.2.2.1).2.1 h
theorem c9_refuse {Q : Int → Mem → Prop} {k : Int} (T : Tk b L M f) (hk : 0 ≤ k ∧ k ≤ 4) (h : ∀ M', EqX [(2, 7)] M M' → M' 2 7 0 = 1 + 8 * (f : Int) + k → Q 0 M') : OkI G n mX9_refuse [vO 2, vI k] M Q := by
  obtain ⟨t0, t1, t2, t3, t4, t5, t6⟩ := T
  refine eX9_refuse (fun Kx => bX9_refuse_0 (fun M1 m1 => ?_))
  rw [t5, wrs (x := 8 * (f : Int)) (by omega) (by omega), wrs (x := 1 + 8 * (f : Int)) (by omega) (by omega), wrs (x := 1 + 8 * (f : Int) + k) (by omega) (by omega)] at m1
  exact h M1 (by rw [m1]; exact EqX.mset (by decide)) (by rw [m1, mset_self])
theorem c9_isSign {Q : Int → Mem → Prop} {c : Int} (T : Tk b L M f) (hc : ¬ pL c = true ∧ ¬ pD c = true ∧ c ≠ 60 ∧ c ≠ 62 ∧ c ≠ -1) (ht : f < L → b f = c → Q 1 M) (hf : ¬ (f < L ∧ b f = c) → Q 0 M) : OkI G (n + 1) mX9_isSign [vO 2, vI c] M Q := by
  have T' := T
  obtain ⟨t0, t1, t2, t3, t4, t5, t6, -⟩ := T
  have hbr := bh_rng (b := b) t3
  refine eX9_isSign (fun Kx => bX9_isSign_0 ?_)
  rw [t4, t5, t6, wrs (x := ((bh b L f : Nat) : Int) - (f : Int)) (by omega) (by omega)]
  have key : f < L → b f = c → kd b L f = 3 ∧ bh b L f = f + 1 := fun z y => by
    have h1 : ¬ pL (b f) = true := by rw [y]; exact hc.1
    have h2 : ¬ pD (b f) = true := by rw [y]; exact hc.2.1
    refine ⟨kd_3.mpr ⟨z, h1, h2⟩, ?_⟩
    unfold bh
    rw [if_neg (by omega), if_neg h1, if_neg h2, if_neg (by omega)]
  refine ⟨fun z => hf (fun y => z (key y.1 y.2).1), fun z => ⟨fun y => hf (fun w => y (by have := (key w.1 w.2).2; omega)), fun y => c9_byteAt t0 t1 t2 ⟨fun x => hf (fun w => x (by unfold byA; rw [if_pos w.1]; exact w.2)), fun x => ?_⟩⟩⟩
  have hl : f < L := (kd_3.mp z).1
  unfold byA at x
  rw [if_pos hl] at x
  exact ht hl x
theorem c9_isNumber {Q : Int → Mem → Prop} {lo hi : Int} (T : Tk b L M f) (ht : nF b L f lo hi = 0 → Q 1 M) (hf : nF b L f lo hi ≠ 0 → ∀ M', EqX [(2, 7)] M M' → M' 2 7 0 = nF b L f lo hi → Q 0 M') : OkI G (n + 1) mX9_isNumber [vO 2, vI lo, vI hi] M Q := by
  have T' := T
  obtain ⟨t0, t1, t2, t3, t4, t5, t6, t7, -⟩ := T
  refine eX9_isNumber (fun Kx => bX9_isNumber_0 ?_)
  rw [t4]
  have fin : ∀ z0 : Int, kd b L f = 2 → (z0 = 0 ↔ ¬ (dg b L f ≤ 5 ∧ lo ≤ nv b L f ∧ nv b L f ≤ hi)) → CW G Kx mX9_isNumber (n + 1) 43 [some (vO 2), none, none, none] [vI z0] M (qI Q) := by
    intro z0 hk hz
    refine bX9_isNumber_43 ⟨fun z => ht ?_, fun z => c9_refuse T' (by decide) (fun M1 e1 g => ⟨fun _ => ?_, fun w => absurd rfl w⟩)⟩
    · unfold nF; rw [if_pos hk, if_pos (Classical.byContradiction (fun q => z (hz.mpr q)))]
    · have e : nF b L f lo hi = 1 + 8 * (f : Int) + 1 := by unfold nF; rw [if_pos hk, if_neg (hz.mp z)]
      exact hf (by omega) M1 e1 (by rw [g, e])
  refine ⟨fun hk => ?_, fun hk => c9_refuse T' (by decide) (fun M1 e1 g => ⟨Or.inl rfl, ?_⟩)⟩
  · obtain ⟨g5, g6⟩ := t7 hk
    rw [g5, g6]
    refine ⟨fun z => fin 0 hk ⟨fun _ q => by omega, fun _ => rfl⟩, fun z => ⟨fun y => fin 0 hk ⟨fun _ q => by omega, fun _ => rfl⟩, fun y => ⟨fun x => fin 0 hk ⟨fun _ q => by omega, fun _ => rfl⟩, fun x => fin 1 hk ⟨fun q => absurd q (by decide), fun q => absurd ⟨by omega, by omega, by omega⟩ q⟩⟩⟩⟩
  · have e : nF b L f lo hi = 1 + 8 * (f : Int) + 0 := by unfold nF; rw [if_neg hk]
    exact hf (by omega) M1 e1 (by rw [g, e])
theorem c9_passSign {Q : Int → Mem → Prop} {c : Int} (T : Tk b L M f) (hc : ¬ pL c = true ∧ ¬ pD c = true ∧ c ≠ 60 ∧ c ≠ 62 ∧ c ≠ -1) (ht : f < L → b f = c → ∀ M', EqX tkF M M' → Tk b L M' (nx b L f) → Q 1 M') (hf : ¬ (f < L ∧ b f = c) → ∀ M', EqX [(2, 7)] M M' → M' 2 7 0 = 1 + 8 * (f : Int) + 0 → Q 0 M') : OkI G (n + 2) mX9_passSign [vO 2, vI c] M Q :=
  eX9_passSign (fun Kx => bX9_passSign_0 (c9_isSign T hc (fun a d => ⟨fun _ => T.adv (fun M1 e1 t1 => ht a d M1 e1 t1), fun z => absurd z (by decide)⟩) (fun a => ⟨fun z => absurd rfl z, fun _ => c9_refuse T (by decide) (fun M1 e1 g => ⟨Or.inl rfl, hf a M1 e1 g⟩)⟩)))
theorem c9_take {Q : Int → Mem → Prop} (T : Tk b L M f) (hk : kd b L f = 2) (h : ∀ M', EqX tkF M M' → Tk b L M' (nx b L f) → Q (nv b L f) M') : OkI G (n + 2) mX9_take [vO 2] M Q := by
  refine eX9_take (fun Kx => bX9_take_0 (T.adv (fun M1 e1 t1 => ?_)))
  rw [(T.2.2.2.2.2.2.2.1 hk).2]
  exact h M1 e1 t1
theorem c9_begin {Q : Mem → Prop} (h0 : M 2 0 = b) (h1 : M 2 1 0 = (L : Int)) (hL : L ≤ 400) (h : ∀ M', EqX ((2, 7) :: tkF) M M' → Tk b L M' (run pB b L 0) → Q M') : OkV G (n + 2) mX9_begin [vO 2] M Q := by
  refine eX9_begin (fun Kx => bX9_begin_0 (fun M1 m1 M2 m2 => ?_))
  have e2 : EqX ((2, 7) :: tkF) M M2 := by rw [m2, m1]; exact (EqX.mset (by decide)).trans (EqX.mset (by decide))
  refine c9_advance (i := 0) (b := b) (L := L) ?_ ?_ hL ?_ (by omega) (fun M3 e3 t3 => h M3 (e2.trans (e3.sub (by decide))) t3)
  · exact (e2.fld (by decide)).trans h0
  · rw [e2 2 1 0 (by decide)]; exact h1
  · rw [m2, mset_self]; rfl
end TKC
