/-! ===== order ===== -/
section ORD
variable {G : Gx} {n : Nat} {M : Mem} {s : Int → Int} {m : Nat}
theorem isB_0 {b : Nat → Int} : isB s m 0 (-1) b := ⟨fun y hy => by omega, Or.inl ⟨rfl, fun y hy => by omega⟩⟩
theorem isB_skip {x : Nat} {v : Int} {b b' : Nat → Int} (hb : ∀ i, i < m → b' i = b i) (h : isB s m x v b) (hx : vld m 0 (Dg m m x) → VL s m 0 (Dg m m x) ≤ v) (hv : v = -1 → ¬ vld m 0 (Dg m m x)) : isB s m (x + 1) v b' := by
  obtain ⟨h1, h2⟩ := h
  refine ⟨fun y y1 y2 => ?_, ?_⟩
  · by_cases e : y = x
    · subst e; exact hx y2
    · exact h1 y (by omega) y2
  · rcases h2 with ⟨a, c⟩ | ⟨z, z1, z2, z3, z4, z5⟩
    · refine Or.inl ⟨a, fun y y1 => ?_⟩
      by_cases e : y = x
      · subst e; exact hv a
      · exact c y (by omega)
    · exact Or.inr ⟨z, by omega, z2, z3, z4, fun i hi => by rw [hb i hi]; exact z5 i hi⟩
theorem isB_take {x : Nat} {v : Int} {b b' : Nat → Int} (h : isB s m x v b) (hx : vld m 0 (Dg m m x)) (hv : v < VL s m 0 (Dg m m x)) (hb : ∀ i, i < m → b' i = ((Dg m m x).getD i 0 : Nat)) : isB s m (x + 1) (VL s m 0 (Dg m m x)) b' := by
  obtain ⟨h1, h2⟩ := h
  refine ⟨fun y y1 y2 => ?_, Or.inr ⟨x, by omega, hx, rfl, fun y y1 y2 => ?_, hb⟩⟩
  · by_cases e : y = x
    · subst e; exact Int.le_refl _
    · have := h1 y (by omega) y2; omega
  · have := h1 y y1 y2; omega
theorem VL_nn : ∀ (l : List Nat) (A : Nat), 0 ≤ VL s m A l
  | [], _ => Int.le_refl _
  | a :: l, A => by
    have := VL_nn l (ad A a)
    have := (cf_nn (s := s) (n := m) (A := ad A a) (a := a)).1
    unfold VL; omega
theorem pw_le (hm : m < 7) {k : Nat} (hk : k ≤ m) : m ^ k ≤ 46656 := by
  have : ∀ m, m < 7 → ∀ k, k < m + 1 → m ^ k ≤ 46656 := by decide +kernel
  exact this m hm k (by omega)
theorem c12_order {x1 x2 : Int} {Q : Int → Mem → Prop} (LO : LOK (sd M)) (no : ¬ (1 ≤ x1 ∧ x1 ≤ 6 ∧ 0 ≤ x2 ∧ x2 ≤ 6 ∧ (x2 < 6 → x2 < x1)) → Q (-1) M)
    (yes : ∀ m : Nat, x1 = (m : Int) → 1 ≤ m → m < 7 → 0 ≤ x2 → x2 ≤ 6 → (x2 < 6 → x2 < x1) → ∀ (M' : Mem) (v : Int), EqX [(0, 42), (0, 43)] M M' → isB (sd M) m (m ^ m) v (M' 0 43) → (x2 = 6 → Q v M') ∧ (x2 ≠ 6 → Q (M' 0 43 x2.toNat) M')) :
    OkI G (n + 1) mX12_order [vO 0, vI x1, vI x2] M Q := by
  refine eX12_order (fun K => bX12_order_0 (c12_in (fun a1 a2 => ⟨fun z => absurd z (by decide), fun _ => c12_in (fun b1 b2 => ⟨fun z => absurd z (by decide), fun _ => ?_⟩) (fun z => ⟨fun _ => no (fun w => z ⟨w.2.2.1, w.2.2.2.1⟩), fun y => absurd rfl y⟩)⟩) (fun z => ⟨fun _ => no (fun w => z ⟨w.1, w.2.1⟩), fun y => absurd rfl y⟩)))
  obtain ⟨m, rfl⟩ : ∃ m : Nat, x1 = (m : Int) := ⟨x1.toNat, by omega⟩
  have h1 : 1 ≤ m := by omega
  have hm : m < 7 := by omega
  have main : (x2 < 6 → x2 < (m : Int)) → CW G K mX12_order (n + 1) 42 [some (vO 0), some (vI (m : Int)), some (vI x2), some (vI 1), some (vI 0), none, none, none] [] M (qI Q) := by
    intro hw
    have yes' := yes m rfl h1 hm b1 b2 hw
    have numb : ∀ (x : Nat) (a : Int × Mem), x ≤ m ^ m → (EqX [(0, 42), (0, 43)] M a.2 ∧ isB (sd M) m x a.1 (a.2 0 43) ∧ -1 ≤ a.1) → CW G K mX12_order (n + 1) 64 [some (vO 0), some (vI (m : Int)), some (vI x2), some (vI ((m ^ m : Nat) : Int)), some (vI a.1), some (vI (x : Int)), none, none] [] a.2 (qI Q) := by
      have hpw := pw_le hm (Nat.le_refl m)
      refine up_ind (fun a i => ?_) (fun x a hx i ih => ?_)
      · obtain ⟨v, Mc⟩ := a
        dsimp only at i ⊢
        obtain ⟨q1, q2⟩ := yes' Mc v i.1 i.2.1
        refine bX12_order_64 ⟨fun _ => ⟨fun z => ⟨⟨b1, by omega⟩, q2 z⟩, q1⟩, fun z => absurd (Int.le_refl _) z⟩
      · obtain ⟨v, Mc⟩ := a
        dsimp only at i ih ⊢
        obtain ⟨i1, i2, i3⟩ := i
        refine bX12_order_64 ⟨fun z => absurd z (by omega), fun _ => ?_⟩
        rw [wr_n (b := 50000) (k := x) (by omega) (by omega)]
        refine c12_isOrder hm h1 (by omega) (fun M1 j1 j2 => ?_)
        have hE1 : EqX [(0, 42), (0, 43)] M M1 := i1.trans (j1.sub (by decide))
        have es : sd M1 = sd M := DR4 hE1 (by decide)
        have hvs := vld_st (n := m) hm h1 (x := x) m 0 (Nat.pow_pos (by decide)) (by show p6 0 + m = m; rw [show p6 0 = 0 from rfl]; omega)
        rw [Nat.zero_or] at hvs
        have h43 : ∀ i, i < m → M1 0 43 i = Mc 0 43 i := fun i _ => j1 0 43 i (by decide)
        refine ⟨fun e => ?_, fun e => ?_⟩
        · refine ⟨fun _ => ?_, fun z => absurd z (by decide)⟩
          have hv := hvs.mpr e
          refine c12_goDown (l := Dg m m x) es LO hm (Dg_len m) hv (fun k hk => by rw [j2 k hk, getD_Dg m k hk]) ?_
          refine ⟨fun z => ?_, fun z => ih (v, M1) ⟨hE1, isB_skip h43 i2 (fun _ => by omega) (fun w => by have := VL_nn (s := sd M) (m := m) (Dg m m x) 0; omega), i3⟩⟩
          have cp : ∀ (k : Nat) (M2 : Mem), k ≤ m → (EqX [(0, 42), (0, 43)] M M2 ∧ (∀ i, i < m → M2 0 42 i = M1 0 42 i) ∧ ∀ i, i < k → M2 0 43 i = M1 0 42 i) → CW G K mX12_order (n + 1) 107 [some (vO 0), some (vI (m : Int)), some (vI x2), some (vI ((m ^ m : Nat) : Int)), some (vI (VL (sd M) m 0 (Dg m m x))), some (vI (x : Int)), none, some (vI (k : Int))] [] M2 (qI Q) := by
            refine up_ind (fun M2 c => ?_) (fun k M2 hk c ihk => ?_)
            · obtain ⟨c1, c2, c3⟩ := c
              refine bX12_order_107 ⟨fun _ => ?_, fun z => absurd (Int.le_refl _) z⟩
              rw [wr_n (b := 50000) (k := x) (by omega) (by omega)]
              refine ih (VL (sd M) m 0 (Dg m m x), M2) ⟨c1, isB_take i2 hv z (fun i hi => (c3 i hi).trans (by rw [j2 i hi, getD_Dg m i hi])), by omega⟩
            · obtain ⟨c1, c2, c3⟩ := c
              refine bX12_order_107 ⟨fun z => absurd z (by omega), fun _ => ⟨⟨by omega, by omega⟩, ⟨by omega, by omega⟩, fun M3 em => ?_⟩⟩
              rw [Int.toNat_natCast] at em
              rw [wr_n (b := 50000) (k := k) (by omega) (by omega)]
              refine ihk M3 ⟨?_, fun i hi => ?_, fun i hi => ?_⟩
              · rw [em]; exact c1.trans (EqX.mset (by decide))
              · rw [em, mset_ne (fun w => absurd w.2.1 (by decide))]; exact c2 i hi
              · by_cases e : i = k
                · rw [em, e, mset_self]; exact c2 k hk
                · rw [em, mset_ne (fun w => e w.2.2)]; exact c3 i (by omega)
          exact cp 0 M1 (by omega) ⟨hE1, fun i _ => rfl, fun i hi => by omega⟩
        · refine ⟨fun z => absurd rfl z, fun _ => ?_⟩
          have hv : ¬ vld m 0 (Dg m m x) := fun w => e (hvs.mp w)
          exact ih (v, M1) ⟨hE1, isB_skip h43 i2 (fun w => absurd w hv) (fun _ => hv), i3⟩
    have pow : ∀ (k : Nat) (_ : Unit), k ≤ m → True → CW G K mX12_order (n + 1) 42 [some (vO 0), some (vI (m : Int)), some (vI x2), some (vI ((m ^ k : Nat) : Int)), some (vI (k : Int)), none, none, none] [] M (qI Q) := by
      refine up_ind (fun _ _ => ?_) (fun k _ hk _ ih => ?_)
      · refine bX12_order_42 ⟨fun _ => numb 0 (-1, M) (by omega) ⟨EqX.rf, isB_0, Int.le_refl _⟩, fun z => absurd (Int.le_refl _) z⟩
      · have hpw := pw_le hm (k := k + 1) (by omega)
        refine bX12_order_42 ⟨fun z => absurd z (by omega), fun _ => ?_⟩
        have e : wr (((m ^ k : Nat) : Int) * (m : Int)) = ((m ^ (k + 1) : Nat) : Int) := by
          rw [Nat.pow_succ, Int.natCast_mul]
          rw [Nat.pow_succ] at hpw
          exact wrs (by omega) (by have := Int.ofNat_le.mpr hpw; rw [Int.natCast_mul] at this; omega)
        rw [e, wr_n (b := 50000) (k := k) (by omega) (by omega)]
        exact ih () trivial
    exact pow 0 () (by omega) trivial
  exact ⟨fun z => main (fun w => absurd w (by omega)), fun z => ⟨fun y => main (fun _ => y), fun y => no (fun w => y (w.2.2.2.2 (by omega)))⟩⟩
theorem both_order {x1 x2 : Int} {P : Int → Int → Mem → Prop} (L : LR (M 6) (sd M)) (LO : LOK (sd M)) (h : ∀ r M2, EqX [(1, 16), (0, 42), (0, 43)] M M2 → P r r M2) : OkI G (n + 3) mX11_order [vO 1, vI x1, vI x2] M (fun r1 M1 => OkI G (n + 3) mX12_order [vO 0, vI x1, vI x2] M1 (fun r2 M2 => P r1 r2 M2)) := by
  have no : ¬ (1 ≤ x1 ∧ x1 ≤ 6 ∧ 0 ≤ x2 ∧ x2 ≤ 6 ∧ (x2 < 6 → x2 < x1)) → OkI G (n + 3) mX12_order [vO 0, vI x1, vI x2] M (fun r2 M2 => P (-1) r2 M2) := fun z => c12_order LO (fun _ => h _ M EqX.rf) (fun m e a b c d f => absurd ⟨by omega, by omega, c, d, f⟩ z)
  refine eX11_order (fun K => bX11_order_0 ?_)
  have main : 1 ≤ x1 → x1 ≤ 6 → 0 ≤ x2 → x2 ≤ 6 → (x2 < 6 → x2 < x1) → CW G K mX11_order (n + 3) 36 [some (vO 1), some (vI x1), some (vI x2), none, none, none] [] M (qI (fun r1 M1 => OkI G (n + 3) mX12_order [vO 0, vI x1, vI x2] M1 (fun r2 M2 => P r1 r2 M2))) := by
    intro a b c d e
    obtain ⟨m, rfl⟩ : ∃ m : Nat, x1 = (m : Int) := ⟨x1.toNat, by omega⟩
    have h1 : 1 ≤ m := by omega
    have hm : m < 7 := by omega
    have hp : 0 < 2 ^ m := Nat.pow_pos (by decide)
    have h64 := p2_64 hm
    refine bX11_order_36 (c11_weigh L LO hm h1 (fun M1 i1 i2 => ?_))
    have es : sd M1 = sd M := DR4 i1 (by decide)
    have e6 : M1 6 = M 6 := i1.obj (by decide)
    have hT : isT (sd M) m (M1 1 16) := fun A hA => (i2 A hA).1
    obtain ⟨l, l1, l2⟩ := g_ex hT hm m 0 hp (by rw [show p6 0 = 0 from rfl]; omega)
    have two : ∀ v : Int, (x2 = 6 → v = M1 1 16 0) → (x2 ≠ 6 → v = ((l.getD x2.toNat 0 : Nat) : Int)) → OkI G (n + 3) mX12_order [vO 0, vI (m : Int), vI x2] M1 (fun r2 M2 => P v r2 M2) := by
      intro v v1 v2
      refine c12_order (by rw [es]; exact LO) (fun z => absurd ⟨a, b, c, d, e⟩ z) (fun m' em _ _ _ _ _ M2 w j1 j2 => ?_)
      obtain rfl : m = m' := by omega
      rw [es] at j2
      obtain ⟨q1, q2⟩ := isB_end hT hm h1 l1 l2 j2
      have hh := h v M2 ((i1.sub (by decide)).trans (j1.sub (by decide)))
      refine ⟨fun y => by rw [q1, ← v1 y]; exact hh, fun y => ?_⟩
      rw [q2 x2.toNat (by omega), ← v2 y]; exact hh
    refine ⟨fun y => ?_, fun y => two _ (fun _ => rfl) (fun w => absurd y w)⟩
    have walk : ∀ (u : List Nat) (i A : Nat) (x4 : Int), i + u.length = m → A < 2 ^ m → isG (sd M) m (M1 1 16) A u → (∀ k, k < u.length → u.getD k 0 = l.getD (i + k) 0) → (x2 < (i : Int) → x4 = ((l.getD x2.toNat 0 : Nat) : Int)) → (i : Int) ≤ x2 + 1 → CW G K mX11_order (n + 3) 62 [some (vO 1), some (vI (m : Int)), some (vI x2), some (vI (A : Int)), some (vI x4), some (vI (i : Int))] [] M1 (qI (fun r1 M1 => OkI G (n + 3) mX12_order [vO 0, vI (m : Int), vI x2] M1 (fun r2 M2 => P r1 r2 M2))) := by
      intro u
      induction u with
      | nil =>
        intro i A x4 hi hA hg hu hx hle
        rw [List.length_nil] at hi
        refine bX11_order_62 ⟨fun z => two x4 (fun w => absurd w y) (fun _ => hx z), fun z => absurd (by have := e (by omega); omega) z⟩
      | cons a0 u ihu =>
        intro i A x4 hi hA hg hu hx hle
        rw [List.length_cons] at hi hu
        refine bX11_order_62 ⟨fun z => two x4 (fun w => absurd w y) (fun _ => hx z), fun z => ?_⟩
        have ha := hg.1.1
        refine c11_next (a := a0) (by rw [e6]; exact L) LO hm hA i2 hg.1 ⟨fun _ => ?_, fun w => absurd w (by omega)⟩
        rw [k_ad (by omega) (by omega), wr_n (b := 50000) (k := i) (by omega) (by omega)]
        have h0 := hu 0 (by omega)
        rw [List.getD_cons_zero, Nat.add_zero] at h0
        refine ihu (i + 1) (ad A a0) (a0 : Int) (by omega) (ad_lt hA ha) hg.2 (fun k hk => ?_) (fun w => ?_) (by omega)
        · have := hu (k + 1) (by omega)
          rw [List.getD_cons_succ] at this
          rw [this]; congr 1; omega
        · rw [h0]; congr 2; omega
    exact walk l 0 0 (-1) (by omega) hp l2 (fun k _ => by rw [Nat.zero_add]) (fun w => absurd w (by omega)) (by omega)
  refine ⟨fun a => no (by omega), fun a => ⟨fun b => no (by omega), fun b => ⟨fun c => no (by omega), fun c => ⟨fun d => ⟨fun e => main (by omega) (by omega) (by omega) d (fun z => absurd z (by omega)), fun e => ⟨fun f => main (by omega) (by omega) (by omega) d (fun _ => f), fun f => no (fun w => f (w.2.2.2.2 (by omega)))⟩⟩, fun d => no (by omega)⟩⟩⟩⟩
end ORD
