/-! ===== a minute: the reference; tick ===== -/
section MN2
variable {G : Gx} {n : Nat} {M : Mem} {s : Int → Int} {ρ : Nat → Nat → Int}
theorem RuM_cg {M' : Mem} {k : Nat} (h : RuM ρ M k) (e : EqX dyF M M') : RuM ρ M' k := by
  have h3 : M' 0 3 = M 0 3 := e.fld (by decide)
  have h5 : M' 0 5 = M 0 5 := e.fld (by decide)
  have h6 : M' 0 6 = M 0 6 := e.fld (by decide)
  unfold RuM
  rw [h3, h5, h6]
  exact h
theorem ix5 {j : Nat} (hj : j < 8) : wr (172 + wr (5 * (j : Int))) = 172 + 5 * (j : Int) + 0 := by
  rw [wrs (x := 5 * (j : Int)) (by omega) (by omega), wrs (x := 172 + 5 * (j : Int)) (by omega) (by omega)]; omega
theorem ix5k {j : Nat} {i : Int} (hj : j < 8) (h0 : 0 ≤ i) (h5 : i < 5) : wr (172 + 5 * (j : Int) + 0 + i) = 172 + 5 * (j : Int) + i := by
  rw [wrs (x := 172 + 5 * (j : Int) + 0 + i) (by omega) (by omega)]; omega
theorem c12_minute {Q : Mem → Prop} {t : Int} {k : Nat} (hk : k < 6) (hs : sd M = s) (K : HOK s) (D2 : DOK2 s) (h14 : s 3 ≤ 1439) (ht : 0 < s 2 → isTop s t) (hR : RuM ρ M k) (hO : RuOK ρ)
    (h : ∀ M', EqX dyF M M' → sd M' = mnS ρ s → Q M') : OkV G (n + 4) mX12_minute [vO 0, vI (k : Int)] M Q := by
  have k8 := K.2.2.2.2.2.1
  have k5 := K.2.2.2.2.1
  have hh := K.hoist
  have D0 := D2.1.1
  refine eX12_minute (fun Kx => bX12_minute_0 ?_)
  have lp2 : ∀ (r : Int → Int), DOK2 r → r 2 = s 2 → arK r (s 2).toNat = mnS ρ s → ∀ (j : Nat) (Mc : Mem), j ≤ (s 2).toNat → (EqX dyF M Mc ∧ sd Mc = arK r j) → CW G Kx mX12_minute (n + 4) 45 [some (vO 0), none, some (vI (j : Int)), none] [] Mc (qV Q) := by
    intro r hD hr2 hms
    refine up_ind (fun Mc i => ?_) (fun j Mc hj i ih => ?_)
    · obtain ⟨a, b, c⟩ := arK_ok (s := r) (by omega) hD (s 2).toNat (by omega)
      have g2 : Mc 0 26 2 = s 2 := by
        have : sd Mc 2 = arK r (s 2).toNat 2 := by rw [i.2]
        rw [b.e2, hr2] at this; exact this
      refine bX12_minute_45 ?_
      rw [g2]
      exact ⟨fun _ => h Mc i.1 (i.2.trans hms), fun z => absurd (by omega) z⟩
    · obtain ⟨i1, i2⟩ := i
      have hj' : (j : Int) < s 2 := by omega
      have hj8 : j < 8 := by omega
      obtain ⟨a, b, c⟩ := arK_ok (s := r) (by omega) hD j (by omega)
      have g : ∀ x : Int, Mc 0 26 x.toNat = arK r j x := fun x => by rw [← i2]; rfl
      have g2 : Mc 0 26 2 = s 2 := by
        have := g 2
        rw [b.e2, hr2] at this; exact this
      have g3 : Mc 0 26 3 = arK r j 3 := g 3
      have hdp := a.1.2.2 (j : Int) (by omega) (by rw [b.e2, hr2]; exact hj')
      refine bX12_minute_45 ?_
      rw [g2, ix5 hj8, ix5k hj8 (i := 4) (by decide) (by decide), ix5k hj8 (i := 3) (by decide) (by decide), g (172 + 5 * (j : Int) + 0), g (172 + 5 * (j : Int) + 3), g (172 + 5 * (j : Int) + 4), g3, wr_n (b := 9) (k := j) (by omega) (by omega)]
      have skip : ¬ arC (arK r j) (j : Int) → CW G Kx mX12_minute (n + 4) 45 [some (vO 0), none, some (vI ((j + 1 : Nat) : Int)), none] [] Mc (qV Q) := fun z => ih Mc ⟨i1, by rw [arK_off z]; exact i2⟩
      have b0 : 0 ≤ 172 + 5 * (j : Int) + 0 ∧ 172 + 5 * (j : Int) + 0 < 328 := ⟨by omega, by omega⟩
      have b3 : 0 ≤ 172 + 5 * (j : Int) + 3 ∧ 172 + 5 * (j : Int) + 3 < 328 := ⟨by omega, by omega⟩
      have b4 : 0 ≤ 172 + 5 * (j : Int) + 4 ∧ 172 + 5 * (j : Int) + 4 < 328 := ⟨by omega, by omega⟩
      refine ⟨fun z => absurd z (by omega), fun _ => ⟨b0, fun z => skip (fun q => by have := q.1; omega), fun z => ⟨b4, fun y => skip (fun q => by have := q.2.1; omega), fun y => ⟨fun w => ⟨b3, b0, fun M1 m1 => ⟨b3, fun M2 m2 => ⟨b4, fun M3 m3 => ih M3 ⟨?_, ?_⟩⟩⟩⟩, fun w => skip (fun q => q.2.2 w)⟩⟩⟩⟩
      · rw [m3, m2, m1]; exact i1.trans (((EqX.mset (by decide)).trans (EqX.mset (by decide))).trans (EqX.mset (by decide)))
      · have hac : arC (arK r j) (j : Int) := ⟨by omega, by omega, w⟩
        rw [arK_on hac, m3, sd_us (by omega), m2, sd_us (by omega), m1, sd_us (by omega), i2]
        rfl
  have lp1 : ∀ (j : Nat) (Mc : Mem), j ≤ (s 2).toNat → (EqX dyF M Mc ∧ sd Mc = acK ρ s j) → CW G Kx mX12_minute (n + 4) 2 [some (vO 0), some (vI (k : Int)), some (vI (j : Int)), none] [] Mc (qV Q) := by
    refine up_ind (fun Mc i => ?_) (fun j Mc hj i ih => ?_)
    · obtain ⟨i1, i2⟩ := i
      obtain ⟨x, y, z⟩ := acK_ok (ρ := ρ) K D2 h14 ht (s 2).toNat (by omega)
      have g2 : Mc 0 26 2 = s 2 := by
        have : sd Mc 2 = acK ρ s (s 2).toNat 2 := by rw [i2]
        rw [y.e2] at this; exact this
      have g3 : Mc 0 26 3 = s 3 := by
        have : sd Mc 3 = acK ρ s (s 2).toNat 3 := by rw [i2]
        rw [z] at this; exact this
      have hno := (now_ok x (by omega) (by rw [y.e5]; omega)).1
      rw [z] at hno
      refine bX12_minute_2 ?_
      rw [g2, g3, wrs (x := s 3 + 1) (by omega) (by omega)]
      refine ⟨fun _ M1 m1 => lp2 (us (acK ρ s (s 2).toNat) 3 (s 3 + 1)) hno (by rw [us_ne (by decide)]; exact y.e2) rfl 0 M1 (by omega) ⟨by rw [m1]; exact i1.trans (EqX.mset (by decide)), ?_⟩, fun w => absurd (by omega) w⟩
      show sd M1 = us (acK ρ s (s 2).toNat) 3 (s 3 + 1)
      rw [m1, ← i2]
      exact sd_us (M := Mc) (k := 3) (v := s 3 + 1) (by decide)
    · obtain ⟨i1, i2⟩ := i
      have hj' : (j : Int) < s 2 := by omega
      obtain ⟨x, y, z⟩ := acK_ok (ρ := ρ) K D2 h14 ht j (by omega)
      have g2 : Mc 0 26 2 = s 2 := by
        have : sd Mc 2 = acK ρ s j 2 := by rw [i2]
        rw [y.e2] at this; exact this
      refine bX12_minute_2 ?_
      rw [g2, wr_n (b := 9) (k := j) (by omega) (by omega)]
      refine ⟨fun w => absurd w (by omega), fun _ => c12_personOf (by omega) (by omega) (by decide) (by decide) ?_⟩
      rw [i2]
      refine ⟨fun w => ih Mc ⟨i1, ?_⟩, fun w => ?_⟩
      · rw [acK_s, if_neg (by omega)]; exact i2
      · refine c12_does hk i2 (y.he.ok K) x (by omega) (y.top K (ht (by omega))) (by omega) (by rw [y.e2]; exact hj') (by omega) (RuM_cg hR i1) hO (fun M3 p1 p2 => ih M3 ⟨i1.trans p1, ?_⟩)
        rw [acK_s, if_pos (by omega)]; exact p2
  exact lp1 0 M (by omega) ⟨EqX.rf, hs⟩
/-- the rules, in both programs -/
def RuAll (M : Mem) : Prop := M 1 3 0 = M 0 2 0 ∧ 0 ≤ M 0 2 0 ∧ M 0 2 0 ≤ 6 ∧ ∀ k : Nat, (k : Int) < M 0 2 0 → M 1 2 k ≠ 0 ∧ ∃ ρ, RuC ρ (M (15 + k)) ∧ RuM ρ M k ∧ RuOK ρ
theorem oc_rule {k : Nat} (hk : k < 6) : oc (15 + k) = 6 := by
  have : ∀ k, k < 6 → oc (15 + k) = 6 := by decide
  exact this k hk
theorem c11_ruleTold {Q : Option (Nat × Nat) → Mem → Prop} {x : Int} (R : RuAll M) (ht : ∀ k : Nat, x = (k : Int) → k < 6 → (k : Int) < M 0 2 0 → Q (some (15 + k, 99)) M) (hf : ¬ (0 ≤ x ∧ x < M 0 2 0) → Q none M) : OkR G n mX11_ruleTold [vO 1, vI x] M Q := by
  obtain ⟨r1, r2, r3, r4⟩ := R
  refine eX11_ruleTold (fun Kx => bX11_ruleTold_0 ?_)
  rw [r1]
  refine ⟨fun z => hf (by omega), fun z => ⟨fun y => hf (by omega), fun y => ⟨fun w => ⟨⟨by omega, w⟩, ?_⟩, fun w => absurd w (by omega)⟩⟩⟩
  have hk := r4 x.toNat (by omega)
  rw [if_neg hk.1]
  exact ht x.toNat (by omega) (by omega) (by omega)
/-- the rules stay, if their steps do -/
theorem RuAll_cg {M' : Mem} {ρ : Nat → Nat → Int} {k0 : Nat} (R : RuAll M) (h1 : M' 1 2 = M 1 2) (h2 : M' 1 3 = M 1 3) (h02 : M' 0 2 = M 0 2) (h3 : M' 0 3 = M 0 3) (h5 : M' 0 5 = M 0 5) (h6 : M' 0 6 = M 0 6)
    (ho : ∀ k, k < 6 → k ≠ k0 → M' (15 + k) = M (15 + k)) (h0 : RuC ρ (M (15 + k0)) → RuC ρ (M' (15 + k0))) (hc : RuC ρ (M (15 + k0))) : RuAll M' := by
  obtain ⟨r1, r2, r3, r4⟩ := R
  unfold RuAll
  rw [h1, h2, h02]
  refine ⟨r1, r2, r3, fun k hk => ?_⟩
  obtain ⟨a, ρ', b, c, d⟩ := r4 k hk
  have c' : RuM ρ' M' k := by unfold RuM; rw [h3, h5, h6]; exact c
  by_cases e : k = k0
  · subst e
    refine ⟨a, ρ', fun j hj => ?_, c', d⟩
    have := h0 hc j hj
    rw [this, ← hc j hj]; exact b j hj
  · exact ⟨a, ρ', by rw [ho k (by omega) e]; exact b, c', d⟩
def TkP (M M2 : Mem) : Prop := (∀ o k i, o ≠ 5 → ¬ (15 ≤ o ∧ o < 21) → (o, k) ∉ dyF → M2 o k i = M o k i) ∧ RuAll M2 ∧ DX (sd M) (sd M2) ∧ DR (M2 5) (sd M2) ∧ DOK2 (sd M2)
theorem both_tick {x1 x2 : Int} {P : Int → Int → Mem → Prop} (H : HR (M 4) (sd M)) (K : HOK (sd M)) (D : DR (M 5) (sd M)) (D2 : DOK2 (sd M)) (R : RuAll M) (h : ∀ r M2, TkP M M2 → P r r M2) : OkI G (n + 6) mX11_tick [vO 1, vI x1, vI x2] M (fun r1 M1 => OkI G (n + 6) mX12_tick [vO 0, vI x1, vI x2] M1 (fun r2 M2 => P r1 r2 M2)) := by
  have hM : TkP M M := ⟨fun _ _ _ _ _ _ => rfl, R, DX.rf, D, D2⟩
  have d1 := D2.1.1
  have d2 := D2.1.2.1
  have k5 := K.2.2.2.2.1
  have htop : 0 < sd M 2 → isTop (sd M) (M 4 3 0) := fun q => H.2.2.2.2.2.2.2.2.2 (by
    apply Classical.byContradiction
    intro z
    have := K.2.2.2.2.2.2.1 (by have := K.1; omega)
    omega)
  have e3 : M 0 26 3 = sd M 3 := rfl
  have no : ¬ (0 ≤ x1 ∧ x1 < M 0 2 0 ∧ 1 ≤ x2 ∧ x2 ≤ 1440 ∧ sd M 3 + x2 ≤ 1440) → OkI G (n + 6) mX12_tick [vO 0, vI x1, vI x2] M (fun r2 M2 => P (-1) r2 M2) := by
    intro z
    refine eX12_tick (fun Kz => bX12_tick_0 (c12_isRule (fun a b => ⟨fun w => absurd w (by decide), fun _ => c12_in (fun c d => ⟨fun w => absurd w (by decide), fun _ => ?_⟩) (fun c => ⟨fun _ => h _ M hM, fun w => absurd rfl w⟩)⟩) (fun a => ⟨fun _ => h _ M hM, fun w => absurd rfl w⟩)))
    rw [e3, wrs (x := sd M 3 + x2) (by omega) (by omega)]
    exact ⟨fun w => absurd ⟨a, b, c, d, w⟩ z, fun _ => h _ M hM⟩
  refine eX11_tick (fun Kx => bX11_tick_0 (c11_ruleTold R (fun k hx hk hk2 => ⟨fun w => absurd w (by simp), fun c hc => ?_⟩) (fun a => ⟨fun _ => no (fun z => a ⟨z.1, z.2.1⟩), fun c hc => absurd hc (by simp)⟩)))
  have f0 : M 5 0 0 = sd M 3 := D.1
  rw [f0, wrs (x := 1440 - sd M 3) (by omega) (by omega)]
  refine ⟨fun w => no (by omega), fun a => ⟨fun w => no (by omega), fun b => ⟨fun d => ?_, fun w => no (by omega)⟩⟩⟩
  obtain ⟨r1, r2, r3, r4⟩ := id R
  obtain ⟨q1, ρ, q2, q3, q4⟩ := r4 k hk2
  have ex2 : x2 = ((x2.toNat : Nat) : Int) := by omega
  have hN : sd M 3 + ((x2.toNat : Nat) : Int) ≤ 1440 := by omega
  rw [ex2]
  generalize x2.toNat = N at *
  refine c0_pass (o := 15 + k) (d := 5) (oc_rule hk) rfl H K D D2 htop hN q2 q4 (fun M1 i1 i2 i3 => ?_)
  obtain ⟨a1, a2, a3⟩ := mnI_ok (ρ := ρ) K D2 htop N hN
  have o0 : M1 0 = M 0 := i1 0 (by decide) (by omega)
  have hs1 : sd M1 = sd M := by funext i; show M1 0 26 _ = M 0 26 _; rw [o0]
  rw [show M1 5 0 0 = sd M 3 + (N : Int) from i3.1.trans a3]
  have hR1 : RuM ρ M1 k := by unfold RuM; rw [o0]; exact q3
  refine eX12_tick (fun Kz => bX12_tick_0 (c12_isRule (fun u v => ⟨fun w => absurd w (by decide), fun _ => c12_in (fun u1 v1 => ⟨fun w => absurd w (by decide), fun _ => ?_⟩) (fun c => absurd ⟨by omega, by omega⟩ c)⟩) (fun c => absurd ⟨by omega, by rw [o0]; omega⟩ c)))
  rw [show M1 0 26 3 = sd M 3 by rw [o0]; rfl, wrs (x := sd M 3 + (N : Int)) (by omega) (by omega)]
  refine ⟨fun _ => ?_, fun w => absurd hN w⟩
  have loop : ∀ (j : Nat) (Mc : Mem), j ≤ N → (EqX dyF M1 Mc ∧ sd Mc = mnI ρ (sd M) j) → CW G Kz mX12_tick (n + 6) 38 [some (vO 0), some (vI x1), some (vI (N : Int)), some (vI (j : Int))] [] Mc (qI (fun r2 M2 => P (sd M 3 + (N : Int)) r2 M2)) := by
    refine up_ind (fun Mc i => ?_) (fun j Mc hj i ih => ?_)
    · obtain ⟨j1, j2⟩ := i
      refine bX12_tick_38 ⟨fun _ => ?_, fun z => absurd (Int.le_refl _) z⟩
      have g3 : Mc 0 26 3 = sd M 3 + (N : Int) := by
        have : sd Mc 3 = mnI ρ (sd M) N 3 := by rw [j2]
        rw [a3] at this; exact this
      rw [g3]
      have m5 : Mc 5 = M1 5 := j1.obj (by decide)
      have mo : Mc (15 + k) = M1 (15 + k) := j1.obj (by
        intro c hc
        have : c.1 = 0 := by rcases List.mem_cons.mp hc with e | hc; rw [e]; rcases List.mem_cons.mp hc with e | hc; rw [e]; rcases List.mem_cons.mp hc with e | hc; rw [e]; rcases List.mem_cons.mp hc with e | hc; rw [e]; cases hc
        omega)
      refine h _ Mc ⟨fun o q i p1 p2 p3 => ?_, ?_, ?_, ?_, ?_⟩
      · rw [j1 o q i p3, i1 o p1 (by omega)]
      · refine RuAll_cg (ρ := ρ) (k0 := k) R ?_ ?_ ?_ ?_ ?_ ?_ (fun k' hk' ne => ?_) (fun _ => by rw [mo]; exact i2) q2
        · rw [j1.fld (by decide), i1 1 (by decide) (by omega)]
        · rw [j1.fld (by decide), i1 1 (by decide) (by omega)]
        · rw [j1.fld (by decide), o0]
        · rw [j1.fld (by decide), o0]
        · rw [j1.fld (by decide), o0]
        · rw [j1.fld (by decide), o0]
        · have e1 : Mc (15 + k') = M1 (15 + k') := j1.obj (by
            intro c hc
            have : c.1 = 0 := by rcases List.mem_cons.mp hc with e | hc; rw [e]; rcases List.mem_cons.mp hc with e | hc; rw [e]; rcases List.mem_cons.mp hc with e | hc; rw [e]; rcases List.mem_cons.mp hc with e | hc; rw [e]; cases hc
            omega)
          rw [e1, i1 (15 + k') (by omega) (by omega)]
      · rw [j2]; exact a2
      · rw [j2, m5]; exact i3
      · rw [j2]; exact a1
    · obtain ⟨j1, j2⟩ := i
      obtain ⟨b1, b2, b3⟩ := mnI_ok (ρ := ρ) K D2 htop j (by omega)
      refine bX12_tick_38 ⟨fun z => absurd z (by omega), fun _ => ?_⟩
      rw [hx]
      refine c12_minute hk j2 (b2.he.ok K) b1 (by omega) (fun q => b2.top K (htop (by rw [b2.e2] at q; exact q))) (RuM_cg hR1 j1) q4 (fun M3 p1 p2 => ?_)
      rw [wr_n (b := 1441) (k := j) (by omega) (by omega), ← hx]
      exact ih M3 ⟨j1.trans p1, p2⟩
  exact loop 0 M1 (by omega) ⟨EqX.rf, hs1⟩
end MN2
