section CRA
variable {G : Gx} {n : Nat} {M M' : Mem} {b : Nat → Int} {L f m l o c : Nat} {u : Nat → Int} {ρ : Nat → Nat → Int}
theorem rD_ok (hf : f ≤ L) (h : (rD b L f c).1 = 0) : (f ≤ (rD b L f c).2.2.2 ∧ (rD b L f c).2.2.2 ≤ L ∧ run pB b L (rD b L f c).2.2.2 = (rD b L f c).2.2.2) ∧ (0 ≤ (rD b L f c).2.1 ∧ (rD b L f c).2.1 ≤ 2) := by
  obtain ⟨n1, n2, -⟩ := nx_rng (b := b) hf
  obtain ⟨k1, k2, -⟩ := nx_rng (b := b) n2
  have r := dw_rng (b := b) (L := L) (f := f)
  by_cases q1 : dw b L f = -1
  · have e : rD b L f c = (1 + 8 * (f : Int) + 0, 0, 0, 0) := by unfold rD; rw [if_pos q1]
    rw [e] at h
    have h' : 1 + 8 * (f : Int) + 0 = 0 := h
    omega
  by_cases q2 : c = 12
  · have e : rD b L f c = (1 + 8 * (f : Int) + 4, 0, 0, 0) := by unfold rD; rw [if_neg q1, if_pos q2]
    rw [e] at h
    have h' : 1 + 8 * (f : Int) + 4 = 0 := h
    omega
  by_cases q3 : dw b L f = 0
  · have e : rD b L f c = (nF b L (nx b L f) 0 23, 0, nv b L (nx b L f), nx b L (nx b L f)) := by unfold rD; rw [if_neg q1, if_neg q2, if_pos q3]
    rw [e]
    exact ⟨⟨Nat.le_trans n1 k1, k2, nx_tok n2⟩, Int.le_refl 0, show (0 : Int) ≤ 2 by decide⟩
  · have e : rD b L f c = (0, dw b L f, 0, nx b L f) := by unfold rD; rw [if_neg q1, if_neg q2, if_neg q3]
    rw [e]
    exact ⟨⟨n1, n2, nx_tok hf⟩, by show 0 ≤ dw b L f; omega, r.2⟩
theorem rI_nx {g : Nat} (h : rI b L f m l c ρ) (h1 : f ≤ g) (h2 : g ≤ L) (h3 : run pB b L g = g) : rI b L g m l c ρ := by
  obtain ⟨a1, a2, a3, a4⟩ := h
  exact ⟨h2, h3, by omega, a4⟩
/-- a fault is more than nothing -/
def Fz (S : St) : Prop := S.1 = 5 → 1 ≤ S.2.2.2.2.2.2
theorem Fz_stp {S : St} (h : Fz S) : Fz (stp b L S) := by
  obtain ⟨md, f, m, l, u, σ, φ⟩ := S
  have fl : ∀ φ : Int, 1 ≤ φ → Fz (flt φ) := fun _ h _ => h
  have no : ∀ (md f m l : Nat) (u : Nat → Int) (σ : List Int) (φ : Int), md ≠ 5 → Fz (md, f, m, l, u, σ, φ) := fun _ _ _ _ _ _ _ h z => absurd z h
  by_cases c0 : md = 0
  · subst c0; rw [stp_0]; unfold s0 cI
    repeat' split
    all_goals first | exact fl _ (by omega) | exact no _ _ _ _ _ _ _ (by decide)
  by_cases c1 : md = 1
  · subst c1; rw [stp_1]; unfold s1
    by_cases q : nF b L f 0 99999 = 0
    · repeat' split
      all_goals first | exact fl _ (by omega) | exact no _ _ _ _ _ _ _ (by decide) | contradiction
    · have := nF_pos q
      repeat' split
      all_goals first | exact fl _ (by omega) | exact no _ _ _ _ _ _ _ (by decide) | contradiction
  by_cases c2 : md = 2
  · subst c2; rw [stp_2]; unfold s2
    repeat' split
    all_goals first | exact fl _ (by omega) | exact no _ _ _ _ _ _ _ (by decide)
  by_cases c3 : md = 3
  · subst c3; rw [stp_3]; unfold s3 cI
    repeat' split
    all_goals first | exact fl _ (by omega) | exact no _ _ _ _ _ _ _ (by decide)
  have : stp b L (md, f, m, l, u, σ, φ) = (md, f, m, l, u, σ, φ) := (if_neg c0).trans ((if_neg c1).trans ((if_neg c2).trans (if_neg c3)))
  rw [this]; exact h
theorem flt_pos {u : Nat → Int} {σ : List Int} {φ ψ : Int} (r : Rc b L (0, f, m, l, u, σ, ψ) (flt φ)) : 1 ≤ φ := by
  have key : ∀ (k : Nat) (S : St), Fz S → Fz (itr b L k S) := by
    intro k
    induction k with
    | zero => intro S h; exact h
    | succ k ih => intro S h; exact ih _ (Fz_stp h)
  obtain ⟨k, e⟩ := r
  have := key k (0, f, m, l, u, σ, ψ) (fun z => absurd z (show ¬ (0 : Nat) = 5 by decide))
  rw [e] at this
  exact this rfl
theorem c7_readAll {Q : Int → Mem → Prop} (ho : oc o = 7) (hr : oc (o - 6) = 6) (h0 : M 2 0 = b) (h1 : M 2 1 0 = (L : Int)) (hL : L ≤ 400) (hp : M o 2 0 = 0)
    (ht : (rAll b L (M (o - 6))).1 = 0 → ∀ M', EqX (raF o) M M' → (∀ k, k ≤ 5 → M' (o - 6) k = (rAll b L (M (o - 6))).2 k) → RuOK (rAll b L (M (o - 6))).2 → Q 1 M')
    (hf : (rAll b L (M (o - 6))).1 ≠ 0 → ∀ M', EqX (raF o) M M' → M' 2 7 0 = (rAll b L (M (o - 6))).1 → Q 0 M') : OkI G (3 * 10 + n + 12) mX7_readAll [vO o] M Q := by
  obtain ⟨q1, q2, q3⟩ := o2 ho hr
  refine eX7_readAll (fun Kx => bX7_readAll_0 ho hr (eX6_clear (fun _ => bX6_clear_0 hr (fun M1 m1 M2 m2 => ?_))))
  have E2 : EqX (raF o) M M2 := by rw [m2, m1]; exact (EqX.mset (by simp)).trans (EqX.mset (by simp))
  have eT : M2 2 = M 2 := by funext k i; rw [m2, mset_ne (fun w => q2 w.1.symm), m1, mset_ne (fun w => q2 w.1.symm)]
  have eO : M2 o = M o := by funext k i; rw [m2, mset_ne (fun w => q3 w.1), m1, mset_ne (fun w => q3 w.1)]
  have g0 : ∀ k i, M2 (o - 6) k i = if k = 0 ∧ i = 0 then 0 else if k = 6 ∧ i = 0 then 0 else M (o - 6) k i := by
    intro k i
    by_cases w : k = 6 ∧ i = 0
    · obtain ⟨w1, w2⟩ := w
      subst w1; subst w2
      rw [m2, mset_self]; rfl
    · rw [m2, mset_ne (fun v => w v.2)]
      by_cases v : k = 0 ∧ i = 0
      · obtain ⟨w1, w2⟩ := v
        subst w1; subst w2
        rw [m1, mset_self]; rfl
      · rw [m1, mset_ne (fun x => v x.2), if_neg v, if_neg w]
  refine c9_begin (b := b) (L := L) (by rw [eT]; exact h0) (by rw [eT]; exact h1) hL (fun M3 e3 T3 => ?_)
  have e3' : EqX (raF o) M2 M3 := e3.sub (fun c hc => List.mem_cons_of_mem _ (List.mem_cons_of_mem _ (List.mem_cons_of_mem _ (List.mem_cons_of_mem _ (List.mem_cons_of_mem _ (List.mem_cons_of_mem _ (List.mem_cons_of_mem _ (List.mem_cons_of_mem _ (List.mem_cons_of_mem _ hc)))))))))
  have k2 : ∀ c ∈ ((2, 7) :: tkF : List (Nat × Nat)), c.1 = 2 := by decide
  have eO3 : M3 o = M2 o := e3.obj (fun c hc => by rw [k2 c hc]; exact fun z => q1 z.symm)
  have eR3 : M3 (o - 6) = M2 (o - 6) := e3.obj (fun c hc => by rw [k2 c hc]; exact fun z => q2 z.symm)
  have loop : ∀ (k c f m l : Nat) (ρ : Nat → Nat → Int) (Mc : Mem), c + k = 13 → c ≤ 12 → EqX (raF o) M Mc → RelC b L o Mc f m l (ρ 5) → rI b L f m l c ρ → (∀ j, j ≤ 4 → Mc (o - 6) j = ρ j) → rLp b L k c f m l ρ = rAll b L (M (o - 6)) → CW G Kx mX7_readAll (3 * 10 + n + 12) 16 [some (vO o), some (vI (c : Int))] [] Mc (qI Q) := by
    intro k
    induction k with
    | zero => intro c f m l ρ Mc hk hc; omega
    | succ k ih =>
      intro c f m l ρ Mc hk hc E R I hj he
      rw [rLp_s] at he
      have hc0 : Mc (o - 6) 0 0 = (c : Int) := by rw [hj 0 (by decide)]; exact I.2.2.2.2.2.2.1
      refine bX7_readAll_16 ho hr ⟨fun z => absurd z (by omega), fun _ => c7_readDeed ho hr R.1 hc0 hc (fun z hc12 M4 e4 w0 T4 w3 wa wb wc => ⟨fun w => absurd w (by decide), fun _ => ⟨fun _ => ⟨⟨by omega, by omega⟩, fun M5 m5 => ?_⟩, fun w => absurd (by omega) w⟩⟩) (fun z M4 e4 g4 => ⟨fun _ => ?_, fun w => absurd rfl w⟩)⟩
      · obtain ⟨⟨f1, f2, f3⟩, d1⟩ := rD_ok I.1 z
        have hcl : rCl b L f c m l ρ = rT b L c (rD b L f c).2.1 (rD b L f c).2.2.1 (rD b L f c).2.2.2 m l ρ := by unfold rCl; rw [if_pos z]
        generalize (rD b L f c).2.1 = d at *
        generalize (rD b L f c).2.2.1 = w at *
        generalize (rD b L f c).2.2.2 = g at *
        have g6 : M4 (o - 6) 6 0 = (l : Int) := by rw [w3 6 (by decide)]; exact R.2.2.1
        rw [g6, Int.toNat_natCast] at m5
        have E5 : EqX (raF o) M M5 := by rw [m5]; exact (E.trans e4).trans (EqX.mset (by simp))
        have T5 : Tk b L M5 g := by rw [m5]; exact T4.mset q2
        have R5 : RelC b L o M5 g m l (ρ 5) := ⟨T5, by rw [m5, mset_ne (fun v => q3 v.1), w0]; exact R.2.1, by rw [m5, mset_ne (by simp)]; exact g6, by funext i; rw [m5, mset_ne (by simp), w3 5 (by decide), R.2.2.2]⟩
        have h5 : ∀ l' u', (∀ j, j ≤ 3 → M5 (o - 6) j = rup ρ c d w l l' u' j) ∧ M5 (o - 6) 4 = ρ 4 := by
          intro l' u'
          refine ⟨fun j hj3 => ?_, ?_⟩
          · funext i
            have cs : j = 0 ∨ j = 1 ∨ j = 2 ∨ j = 3 := by omega
            rcases cs with v | v | v | v <;> subst v
            · rw [m5, mset_ne (by simp), wa i, hj 0 (by decide)]; rfl
            · rw [m5, mset_ne (by simp), wb i, hj 1 (by decide)]; rfl
            · rw [m5, mset_ne (by simp), wc i, hj 2 (by decide)]; rfl
            · rw [m5, mset_fn, w3 3 (by decide), hj 3 (by decide)]; rfl
          · funext i; rw [m5, mset_ne (by simp), w3 4 (by decide), hj 4 (by decide)]
        -- behind the test
        have t82 : ∀ (f' m' l' : Nat) (u' : Nat → Int) (Md : Mem), EqX (raF o) M Md → RelC b L o Md f' m' l' u' → (∀ j, j ≤ 4 → Md (o - 6) j = M5 (o - 6) j) → rCl b L f c m l ρ = (0, f', m', l', rup ρ c d w l l' u') → rI b L f' m' l' (c + 1) (rup ρ c d w l l' u') → CW G Kx mX7_readAll (3 * 10 + n + 12) 82 [some (vO o), some (vI (c : Int))] [] Md (qI Q) := by
          intro f' m' l' u' Md Ed Rd hjd hcl' I'
          rw [hcl'] at he
          have he' : (if L ≤ f' then ((0 : Int), rup ρ c d w l l' u') else if b f' = 59 then rLp b L k (c + 1) (nx b L f') m' l' (rup ρ c d w l l' u') else (1 + 8 * (f' : Int) + 0, ρ)) = rAll b L (M (o - 6)) := he
          obtain ⟨v1, v2⟩ := h5 l' u'
          refine bX7_readAll_82 ho hr ⟨⟨by omega, by omega⟩, fun M6 m6 => ?_⟩
          rw [show Md (o - 6) 6 0 = (l' : Int) from Rd.2.2.1, Int.toNat_natCast] at m6
          have E6 : EqX (raF o) M M6 := by rw [m6]; exact Ed.trans (EqX.mset (by simp))
          have T6 : Tk b L M6 f' := by rw [m6]; exact Rd.1.mset q2
          have R6 : RelC b L o M6 f' m' l' u' := ⟨T6, by rw [m6, mset_ne (fun v => q3 v.1)]; exact Rd.2.1, by rw [m6, mset_ne (by simp)]; exact Rd.2.2.1, by funext i; rw [m6, mset_ne (by simp), Rd.2.2.2]⟩
          have h6 : ∀ j, j ≤ 4 → M6 (o - 6) j = rup ρ c d w l l' u' j := by
            intro j hj4
            funext i
            by_cases v : j = 4
            · subst v
              rw [m6, mset_fn, hjd 4 (by decide), v2]; rfl
            · rw [m6, mset_ne (fun x => v x.2.1), hjd j hj4, v1 j (by omega)]
          rw [show M6 2 2 0 = kd b L f' from T6.2.2.2.2.1]
          refine ⟨fun y => ?_, fun y => ?_⟩
          · have hlt : f' < L := by
              by_cases v : L ≤ f'
              · exact absurd (kd_0.mpr v) y
              · omega
            rw [if_neg (by omega)] at he'
            obtain ⟨n1, n2, -⟩ := nx_rng (b := b) I'.1
            refine c9_passSign T6 (by decide) (fun _ x M7 e7 T7 => ⟨fun _ => ?_, fun v => absurd v (by decide)⟩) (fun x M7 e7 g7 => ⟨fun v => absurd rfl v, fun _ => ?_⟩)
            · rw [if_pos x] at he'
              rw [wr_nat (j := c) (by omega)]
              have eR7 : M7 (o - 6) = M6 (o - 6) := tk_off e7 q2
              exact ih (c + 1) (nx b L f') m' l' (rup ρ c d w l l' u') M7 (by omega) (by omega) (E6.trans (ra_tk e7)) (R6.tk ho hr e7 T7) (rI_nx I' n1 n2 (nx_tok I'.1)) (fun j hj4 => by rw [eR7]; exact h6 j hj4) he'
            · rw [if_neg (fun v => x ⟨hlt, v⟩)] at he'
              refine hf (by rw [← he']; show ¬ (1 + 8 * (f' : Int) + 0 = 0); omega) M7 (E6.trans (ra_f7 e7)) (by rw [g7, ← he'])
          · rw [if_pos (kd_0.mp y)] at he'
            refine ht (by rw [← he']) M6 E6 (fun j hj5 => ?_) (by rw [← he']; exact rI_ok I')
            rw [← he']
            by_cases v : j = 5
            · subst v; exact R6.2.2.2
            · exact h6 j (by omega)
        refine c9_isWord (j := 6) (by decide) T5 (fun y => ⟨fun v => absurd v (by decide), fun _ => T5.adv (fun M6 e6 T6 => ?_)⟩) (fun y => ⟨fun _ => ?_, fun v => absurd rfl v⟩)
        · have hglt := (kd_1.mp y.1).1
          obtain ⟨n1, n2, n3⟩ := nx_rng (b := b) f2
          have eR6 : M6 (o - 6) = M5 (o - 6) := tk_off e6 q2
          have R6 := R5.tk ho hr e6 T6
          have I6 : MIv b L l 0 (nx b L g) m l (ρ 5) [] := rI_MIv I (by omega) n2 (nx_tok f2)
          have E6 := E5.trans (ra_tk (o := o) e6)
          refine (c_all (G := G) (b := b) (L := L) (a := l) ho hr 10).2 n M6 (nx b L g) m l (ρ 5) [] _ rfl (Or.inl rfl) R6 I6 (fun M7 f' m' l' u' e7 R7 rc7 lt7 na no => ⟨fun _ => ?_, fun v => absurd v (by decide)⟩) (fun M7 φ e7 g7 rc7 => ⟨fun v => absurd rfl v, fun _ => ?_⟩)
          · have st : stp b L (3, f', m', l', u', [], 0) = (4, f', m', l', u', [], 0) := by
              rw [stp_3]; unfold s3
              have eh : hd ([] : List Int) = 0 := rfl
              rw [eh, if_neg (by decide), cI_f na, if_neg (by decide), cI_f no, if_neg (by decide)]
            have rc8 := rc7.then st
            refine t82 f' m' l' u' M7 (E6.trans (ra_w e7)) R7 (fun j hj4 => ?_) (by rw [hcl]; exact rT_t y rc8) (rI_test I hc12 d1 (by omega) n2 (nx_tok f2) (by omega) rc8)
            rw [← eR6]
            refine e7.fld (fun v => ?_)
            simp at v
            omega
          · have hcl' : rCl b L f c m l ρ = (φ, 0, 0, 0, ρ) := by rw [hcl]; exact rT_f y rc7
            rw [hcl'] at he
            have hz := flt_pos rc7
            have he' : (if φ = 0 then _ else (φ, ρ)) = rAll b L (M (o - 6)) := he
            rw [if_neg (by omega)] at he'
            exact hf (by rw [← he']; show ¬ φ = 0; omega) M7 (E6.trans (ra_w e7)) (by rw [g7, ← he'])
        · exact t82 g m l (ρ 5) M5 E5 R5 (fun _ _ => rfl) (by rw [hcl]; exact rT_n y) (rI_up I hc12 d1 f1 f2 f3 I.2.2.2.1 (by have := I.2.2.1; omega) (Nat.le_refl _) (fun _ _ => rfl) (Or.inl rfl))
      · have hcl : rCl b L f c m l ρ = ((rD b L f c).1, 0, 0, 0, ρ) := by unfold rCl; rw [if_neg z]
        rw [hcl] at he
        have he' : (if (rD b L f c).1 = 0 then _ else ((rD b L f c).1, ρ)) = rAll b L (M (o - 6)) := he
        rw [if_neg z] at he'
        exact hf (by rw [← he']; exact z) M4 (E.trans e4) (by rw [g4, ← he'])
  have L0 : RelC b L o M3 (run pB b L 0) 0 0 ((fun k i => if k = 0 ∧ i = 0 then 0 else M (o - 6) k i) 5) := by
    refine ⟨T3, by rw [eO3, eO]; exact hp, by rw [eR3, g0]; rfl, ?_⟩
    funext i
    rw [eR3, g0, if_neg (by omega), if_neg (by omega)]
    exact (if_neg (by omega)).symm
  refine loop 13 0 (run pB b L 0) 0 0 (fun k i => if k = 0 ∧ i = 0 then 0 else M (o - 6) k i) M3 rfl (by decide) (E2.trans e3') L0 ⟨run_le (Nat.zero_le _), run_run (Nat.zero_le _), Nat.zero_le _, by decide, by decide, hL, rfl, fun j hj => absurd hj (Nat.not_lt_zero j)⟩ (fun j hj => ?_) rfl
  funext i
  rw [eR3, g0]
  by_cases v : j = 0 ∧ i = 0
  · rw [if_pos v, if_pos v]
  · rw [if_neg v, if_neg (by omega), if_neg v]
end CRA
