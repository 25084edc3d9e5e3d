theorem bOr01 {a b : Int} (ha : a = 0 ∨ a = 1) (hb : b = 0 ∨ b = 1) : (bOr a b = 0 ∨ bOr a b = 1) ∧ (bOr a b = 0 → a = 0 ∧ b = 0) := by
  rcases ha with rfl | rfl <;> rcases hb with rfl | rfl <;> decide
theorem nfc_zero {P : Nat → Prop} : ∀ n, nfc P n = 0 → ∀ k, k < n → ¬ P k
  | 0, _, k, hk => absurd hk (Nat.not_lt_zero _)
  | n + 1, h, k, hk => by
    unfold nfc at h
    by_cases e : k = n
    · subst e
      intro z
      rw [if_pos z] at h
      omega
    · exact nfc_zero n (by omega) k (by omega)
section CR2
variable {G : Gx} {n : Nat} {M : Mem} {s : Int → Int} {S : Src} {o o1 : Nat}
theorem UA_mono {D0 D D' : Tb} {r : Int} (h : Sg s S D D') (hu : UA s D0 D r) : UA s D0 D' r := fun a b t ht c d => Int.le_trans (h.2.2 t 1 ⟨ht.1, ht.2.1, Or.inr rfl⟩) (hu a b t ht c d)
theorem GA_mono (K : HOK s) {D0 D D' : Tb} {w st u : Int} (hw1 : 0 ≤ w) (hw2 : w < s 1) (hu : u = 0 ∨ u = 1) (h : Sg s S D D') (hg : GA s D0 D w st u) : GA s D0 D' w st u := fun a b c d => by
  have := endW_in K (r := st) hw1 hw2
  exact Int.le_trans (h.2.2 _ u ⟨b, by omega, hu⟩) (hg a b c d)
theorem l5_goUp {Kx : Kx} {Q : Int → Mem → Prop} {D0 : Tb} (ho : oc o = 5) (h1 : oc o1 = 1) (H : HR (M o1) s) (K : HOK s) (hD : ∀ r u, VN s r u → tbC M o r u ≤ D0 r u)
    (h : ∀ (c : Int) (M' : Mem), (c = 0 ∨ c = 1) → EqX [(o, 0)] M M' → (c = 0 → M' = M) → Sg s S (tbC M o) (tbC M' o) → (∀ r, VN s r 0 → UA s D0 (tbC M' o) r) → Q c M') :
    ∀ (f : Nat) (c r : Int) (Mc : Mem), 0 ≤ r → r ≤ s 0 → (s 0 - r).toNat ≤ f → (c = 0 ∨ c = 1) → EqX [(o, 0)] M Mc → (c = 0 → Mc = M) → Sg s S (tbC M o) (tbC Mc o) → (∀ q, 0 ≤ q → q < r → UA s D0 (tbC Mc o) q) → CW G Kx mX5_goUp (n + 1) 4 [some (vO o), some (vO o1), some (vI c), some (vI r), none] [] Mc (qI Q) := by
  have k1 := K.2.1
  intro f
  induction f with
  | zero =>
    intro c r Mc h2 h3 h4 h5 h6 h7 h8 h9
    have hE := HR_far h1 ho h6
    refine bX5_goUp_4 h1 ho ?_
    rw [hE, H.1]
    exact ⟨fun _ => ⟨h5, h c Mc h5 h6 h7 h8 (fun q hq => h9 q hq.1 (by have := hq.2.1; omega))⟩, fun a => absurd (by omega) a⟩
  | succ f ih =>
    intro c r Mc h2 h3 h4 h5 h6 h7 h8 h9
    have hE := HR_far h1 ho h6
    have H' : HR (Mc o1) s := by rw [hE]; exact H
    refine bX5_goUp_4 h1 ho ?_
    rw [hE, H.1]
    refine ⟨fun a => ⟨h5, h c Mc h5 h6 h7 h8 (fun q hq => h9 q hq.1 (by have := hq.2.1; omega))⟩, fun a => ?_⟩
    have hv : VN s r 0 := ⟨h2, by omega, Or.inl rfl⟩
    have hTr := h8.1 r 0 h2 (by omega) (Or.inl rfl)
    rw [wrs (x := r + 1) (by omega) (by omega)]
    have hoi := K.hoist
    refine c5_get ho h2 (by omega) (Or.inl rfl) (c1_hoistLeaves h1 H' (by omega) (by omega) (fun b => ?_) (fun b b2 b3 => ?_))
    · refine ⟨fun _ => ?_, fun z => absurd rfl z⟩
      refine ih c (r + 1) Mc (by omega) (by omega) (by omega) h5 h6 h7 h8 (fun q hq hq2 => ?_)
      by_cases e : q = r
      · subst e
        intro a1 a2 t ht a3 a4
        have g1 := h8.2.2 q 0 hv
        have g2 := hD q 0 hv
        have g3 := hoM_mono (s := s) (show tbC Mc o q 0 ≤ D0 q 0 by omega) hTr.1 (by omega)
        exact absurd ⟨by omega, hTr.1, by omega⟩ b
      · exact h9 q hq (by omega)
    · have hho := hoM_le (s := s) b2 b
      refine ⟨fun z => absurd z (by omega), fun _ => ?_⟩
      have htop : isTop s (M o1 3 0) := H.2.2.2.2.2.2.2.2.2 (by omega)
      have e4 : Mc o1 4 0 = s 4 := H'.2.2.2.1
      rw [e4, hE, wrs (x := hoM s (tbC Mc o r 0) + s 4) (by omega) (by omega)]
      have hvt : VN s (M o1 3 0) 1 := ⟨htop.1, htop.2.1, Or.inr rfl⟩
      refine c5_put ho htop.1 (by have := htop.2.1; omega) (Or.inr rfl) (fun d => ?_) (fun d e => ?_)
      · obtain ⟨q1, q2⟩ := bOr01 h5 (Or.inl (rfl : (0 : Int) = 0))
        refine ih _ (r + 1) Mc (by omega) (by omega) (by omega) q1 h6 (fun z => h7 (q2 z).1) h8 (fun q hq hq2 => ?_)
        by_cases e : q = r
        · subst e
          intro a1 a2 t ht a3 a4
          have g1 := h8.2.2 q 0 hv
          have g2 := hD q 0 hv
          have g3 := hoM_mono (s := s) (show tbC Mc o q 0 ≤ D0 q 0 by omega) hTr.1 (by omega)
          rw [isTop_one ht htop]
          omega
        · exact h9 q hq (by omega)
      · obtain ⟨q1, q2⟩ := bOr01 h5 (Or.inr (rfl : (1 : Int) = 1))
        have hr : Rch s S (M o1 3 0) 1 (hoM s (tbC Mc o r 0) + s 4) := Rch_step (h8.2.1 r 0 hv (by omega)) (Or.inr ⟨rfl, rfl, by omega, htop, b3, rfl⟩) d
        have hsg := put_Sg (o := o) K hvt h8.1 h8.2.1 (by omega) d e hr
        refine ih _ (r + 1) _ (by omega) (by omega) (by omega) q1 (h6.trans (EqX.mset (List.mem_singleton.mpr rfl))) (fun z => absurd (q2 z).2 (by decide)) (h8.trans hsg) (fun q hq hq2 => ?_)
        by_cases e2 : q = r
        · subst e2
          intro a1 a2 t ht a3 a4
          have g1 := h8.2.2 q 0 hv
          have g2 := hD q 0 hv
          have g3 := hoM_mono (s := s) (show tbC Mc o q 0 ≤ D0 q 0 by omega) hTr.1 (by omega)
          rw [isTop_one ht htop, tbC_set htop.1 (by have := htop.2.1; omega) (Or.inr rfl) htop.1 (by have := htop.2.1; omega) (Or.inr rfl), if_pos ⟨rfl, rfl⟩]
          omega
        · exact UA_mono hsg (h9 q hq (by omega))
theorem c5_goUp {Q : Int → Mem → Prop} {D0 : Tb} (ho : oc o = 5) (h1 : oc o1 = 1) (H : HR (M o1) s) (K : HOK s) (hT : TO (tbC M o)) (hs : Snd s S (tbC M o)) (hD : ∀ r u, VN s r u → tbC M o r u ≤ D0 r u)
    (h : ∀ (c : Int) (M' : Mem), (c = 0 ∨ c = 1) → EqX [(o, 0)] M M' → (c = 0 → M' = M) → Sg s S (tbC M o) (tbC M' o) → (∀ r, VN s r 0 → UA s D0 (tbC M' o) r) → Q c M') : OkI G (n + 1) mX5_goUp [vO o, vO o1] M Q :=
  eX5_goUp (fun Kx => bX5_goUp_0 (l5_goUp ho h1 H K hD h (s 0).toNat 0 0 M (Int.le_refl _) K.1 (by omega) (Or.inl rfl) EqX.rf (fun _ => rfl) (Sg.rf hT hs) (fun q a b => by omega)))
/-- how far a round has come: up to way w, riding u -/
def RD (s : Int → Int) (D0 D : Tb) (w u : Int) : Prop := (∀ r, VN s r 0 → UA s D0 D r) ∧ ∀ w' u' : Int, 0 ≤ w' → w' < s 1 → (u' = 0 ∨ u' = 1) → (w' < w ∨ (w' = w ∧ u' < u)) → GA s D0 D w' (s (28 + 6 * w' + 0)) u' ∧ GA s D0 D w' (s (28 + 6 * w' + 1)) u'
theorem RD_mono (K : HOK s) {D0 D D' : Tb} {w u : Int} (h : Sg s S D D') (hr : RD s D0 D w u) : RD s D0 D' w u :=
  ⟨fun r hv => UA_mono h (hr.1 r hv), fun w' u' a b c d => ⟨GA_mono K a b c h (hr.2 w' u' a b c d).1, GA_mono K a b c h (hr.2 w' u' a b c d).2⟩⟩
theorem RD_rel {D0 D : Tb} (hr : RD s D0 D (s 1) 0) : Rel s D0 D := by
  intro r u hv hle r' u' m' he hm
  rcases he with ⟨rfl, a, w, w1, w2, w3, w4, rfl⟩ | ⟨rfl, rfl, a, b, c, rfl⟩
  · have g := hr.2 w u' w1 w2 hv.2.2 (Or.inl w2)
    have hend : r = s (28 + 6 * w + 0) ∨ r = s (28 + 6 * w + 1) := by
      unfold endW at w3
      split at w3
      · rename_i q; exact Or.inl q.symm
      · split at w3
        · rename_i q; exact Or.inr q.2.symm
        · omega
    subst w3
    rcases hend with e | e
    · rw [e] at a hle w4 hm ⊢; exact g.1 hle a w4 hm
    · rw [e] at a hle w4 hm ⊢; exact g.2 hle a w4 hm
  · exact hr.1 r hv hle a r' b c hm
/-- a round of spread, from its ways on -/
theorem l5_round {Kx : Kx} {Q : Mem → Prop} {j : Int} (ho : oc o = 5) (h1 : oc o1 = 1) (H : HR (M o1) s) (K : HOK s) (hT : TO (tbC M o)) (hs : Snd s S (tbC M o))
    (h : ∀ (c : Int) (M' : Mem), (c = 0 ∨ c = 1) → EqX [(o, 0)] M M' → (c = 0 → M' = M) → Sg s S (tbC M o) (tbC M' o) → Rel s (tbC M o) (tbC M' o) → CW G Kx mX5_spread (n + 3) 4 [some (vO o), some (vO o1), some (vI c), some (vI (wr (j + 1))), none, none] [] M' (qV Q)) :
    ∀ (f : Nat) (c w : Int) (Mc : Mem), 0 ≤ w → w ≤ s 1 → (s 1 - w).toNat ≤ f → (c = 0 ∨ c = 1) → EqX [(o, 0)] M Mc → (c = 0 → Mc = M) → Sg s S (tbC M o) (tbC Mc o) → RD s (tbC M o) (tbC Mc o) w 0 → CW G Kx mX5_spread (n + 3) 26 [some (vO o), some (vO o1), some (vI c), some (vI j), some (vI w), none] [] Mc (qV Q) := by
  have k3 := K.2.2.2.1
  intro f
  induction f with
  | zero =>
    intro c w Mc h2 h3 h4 h5 h6 h7 h8 h9
    have hE := HR_far h1 ho h6
    have e : w = s 1 := by omega
    refine bX5_spread_26 h1 ?_
    rw [hE, H.2.1]
    exact ⟨fun _ => h c Mc h5 h6 h7 h8 (RD_rel (e ▸ h9)), fun a => absurd (by omega) a⟩
  | succ f ih =>
    intro c w Mc h2 h3 h4 h5 h6 h7 h8 h9
    have hE := HR_far h1 ho h6
    refine bX5_spread_26 h1 ?_
    rw [hE, H.2.1]
    refine ⟨fun a => ?_, fun a => ⟨fun b => absurd b (by omega), fun _ => ?_⟩⟩
    · have e : w = s 1 := by omega
      exact h c Mc h5 h6 h7 h8 (RD_rel (e ▸ h9))
    · have hw : w < s 1 := by omega
      obtain ⟨v0, v1, -⟩ := K.way h2 hw
      -- the two ways of riding
      have ride : ∀ (g : Nat) (c u : Int) (Mc : Mem), 0 ≤ u → u ≤ 2 → (2 - u).toNat ≤ g → (c = 0 ∨ c = 1) → EqX [(o, 0)] M Mc → (c = 0 → Mc = M) → Sg s S (tbC M o) (tbC Mc o) → RD s (tbC M o) (tbC Mc o) w u → CW G Kx mX5_spread (n + 3) 45 [some (vO o), some (vO o1), some (vI c), some (vI j), some (vI w), some (vI u)] [] Mc (qV Q) := by
        intro g
        induction g with
        | zero =>
          intro c u Mc i1 i2 i3 i4 i5 i6 i7 i8
          have e : u = 2 := by omega
          subst e
          refine bX5_spread_45 ho h1 ⟨fun _ => ?_, fun z => absurd (by decide) z⟩
          rw [wrs (x := w + 1) (by omega) (by omega)]
          refine ih c (w + 1) Mc (by omega) (by omega) (by omega) i4 i5 i6 i7 ⟨i8.1, fun w' u' a1 a2 a3 a4 => i8.2 w' u' a1 a2 a3 (by omega)⟩
        | succ g ihg =>
          intro c u Mc i1 i2 i3 i4 i5 i6 i7 i8
          refine bX5_spread_45 ho h1 ⟨fun a => ?_, fun a => ⟨⟨h2, by omega⟩, ?_⟩⟩
          · have e : u = 2 := by omega
            subst e
            rw [wrs (x := w + 1) (by omega) (by omega)]
            exact ih c (w + 1) Mc (by omega) (by omega) (by omega) i4 i5 i6 i7 ⟨i8.1, fun w' u' a1 a2 a3 a4 => i8.2 w' u' a1 a2 a3 (by omega)⟩
          · have hu : u = 0 ∨ u = 1 := by omega
            have hE1 := HR_far h1 ho i5
            have H1 : HR (Mc o1) s := by rw [hE1]; exact H
            rw [(H1.way h2 hw).1]
            refine c5_goAlong (S := S) (D0 := tbC M o) ho h1 H1 K i7.1 i7.2.1 h2 hw ⟨v0.1, v0.2, hu⟩ i7.2.2 (fun c1 M1 j1 j2 j3 j4 j5 => ⟨⟨h2, by omega⟩, ?_⟩)
            have hE2 := HR_far h1 ho j2
            have H2 : HR (M1 o1) s := by rw [hE2]; exact H1
            have i7' := i7.trans j4
            rw [(H2.way h2 hw).2.1]
            refine c5_goAlong (S := S) (D0 := tbC M o) ho h1 H2 K i7'.1 i7'.2.1 h2 hw ⟨v1.1, v1.2, hu⟩ i7'.2.2 (fun c2 M2 l1 l2 l3 l4 l5 => ?_)
            obtain ⟨q1, q2⟩ := bOr01 i4 j1
            obtain ⟨q3, q4⟩ := bOr01 q1 l1
            rw [wrs (x := u + 1) (by omega) (by omega)]
            refine ihg _ (u + 1) M2 (by omega) (by omega) (by omega) q3 ((i5.trans j2).trans l2) (fun z => ?_) (i7'.trans l4) ⟨fun r hr => UA_mono (j4.trans l4) (i8.1 r hr), fun w' u' a1 a2 a3 a4 => ?_⟩
            · have z1 := q4 z
              have z2 := q2 z1.1
              rw [l3 z1.2, j3 z2.2, i6 z2.1]
            · by_cases e : w' = w ∧ u' = u
              · rw [e.1, e.2]
                exact ⟨GA_mono K h2 hw hu l4 j5, l5⟩
              · obtain ⟨y1, y2⟩ := i8.2 w' u' a1 a2 a3 (by omega)
                exact ⟨GA_mono K a1 a2 a3 (j4.trans l4) y1, GA_mono K a1 a2 a3 (j4.trans l4) y2⟩
      exact ride 2 c 0 Mc (by decide) (by decide) (by decide) h5 h6 h7 h8 h9
theorem l5_spread {Kx : Kx} {Q : Mem → Prop} (ho : oc o = 5) (h1 : oc o1 = 1) (H : HR (M o1) s) (K : HOK s) (hS : SOK s S)
    (h : ∀ M' : Mem, EqX [(o, 0)] M M' → TO (tbC M' o) → Tab s S (tbC M' o) → Q M') :
    ∀ (f : Nat) (c j : Int) (Mc : Mem), 0 ≤ j → j ≤ 33 → (33 - j).toNat ≤ f → (c = 0 ∨ c = 1) → EqX [(o, 0)] M Mc → TO (tbC Mc o) → Snd s S (tbC Mc o) → (∀ r u m, S r u m → tbC Mc o r u ≤ m) → (c = 0 → nfc (NF s S (tbC Mc o)) 32 = 0) → ((nfc (NF s S (tbC Mc o)) 32 : Int) + j ≤ 32 ∨ nfc (NF s S (tbC Mc o)) 32 = 0) → CW G Kx mX5_spread (n + 3) 4 [some (vO o), some (vO o1), some (vI c), some (vI j), none, none] [] Mc (qV Q) := by
  have fin : ∀ Mc : Mem, EqX [(o, 0)] M Mc → TO (tbC Mc o) → Snd s S (tbC Mc o) → nfc (NF s S (tbC Mc o)) 32 = 0 → Q Mc := by
    intro Mc a1 a2 a3 a4
    refine h Mc a1 a2 ⟨a3, fun r u hv => ?_⟩
    obtain ⟨e1, e2⟩ := NF_of (s := s) (D := tbC Mc o) hv
    have z := nfc_zero 32 a4 (2 * r + u).toNat (by have := K.2.1; obtain ⟨b1, b2, b3⟩ := hv; omega)
    unfold NF at z
    rw [e1, e2] at z
    apply Classical.byContradiction
    intro y
    exact z ⟨hv, y⟩
  intro f
  induction f with
  | zero =>
    intro c j Mc h2 h3 h4 h5 h6 h7 h8 h9 h10 h11
    refine bX5_spread_4 ho ⟨fun _ => fin Mc h6 h7 h8 (by omega), fun a => absurd (by omega) a⟩
  | succ f ih =>
    intro c j Mc h2 h3 h4 h5 h6 h7 h8 h9 h10 h11
    refine bX5_spread_4 ho ⟨fun a => fin Mc h6 h7 h8 (by omega), fun a => ⟨fun b => fin Mc h6 h7 h8 (h10 b), fun b => ?_⟩⟩
    have hE := HR_far h1 ho h6
    have H1 : HR (Mc o1) s := by rw [hE]; exact H
    refine c5_goUp (S := S) (D0 := tbC Mc o) ho h1 H1 K h7 h8 (fun r u _ => Int.le_refl _) (fun c1 M1 i1 i2 i3 i4 i5 => ?_)
    refine l5_round (M := Mc) (S := S) ho h1 H1 K h7 h8 (fun c2 M2 j1 j2 j3 j4 j5 => ?_) (s 1).toNat c1 0 M1 (Int.le_refl _) K.2.2.1 (by omega) i1 i2 i3 i4 ⟨i5, fun w' u' a1 a2 a3 a4 => by omega⟩
    rw [wrs (x := j + 1) (by omega) (by omega)]
    have hle : nfc (NF s S (tbC M2 o)) 32 ≤ nfc (NF s S (tbC Mc o)) 32 := nfc_le (fun k hk => ⟨hk.1, fun z => hk.2 (fun m hm => by have := j4.2.2 _ _ hk.1; have := z m hm; omega)⟩) 32
    have hgr : nfc (NF s S (tbC Mc o)) 32 = 0 ∨ nfc (NF s S (tbC M2 o)) 32 < nfc (NF s S (tbC Mc o)) 32 := by
      by_cases z : ∃ r u, VN s r u ∧ ¬ Fin1 s S (tbC Mc o) r u
      · exact Or.inr (grow K hS h9 h8 j4.2.2 j5 z)
      · left
        have : ∀ k, k < 32 → ¬ NF s S (tbC Mc o) k := fun k _ y => z ⟨_, _, y.1, y.2⟩
        have key : ∀ m, m ≤ 32 → nfc (NF s S (tbC Mc o)) m = 0 := by
          intro m
          induction m with
          | zero => intro _; rfl
          | succ m ihm => intro hm; unfold nfc; rw [if_neg (this m (by omega)), ihm (by omega)]
        exact key 32 (Nat.le_refl _)
    refine ih c2 (j + 1) M2 (by omega) (by omega) (by omega) j1 (h6.trans j2) j4.1 j4.2.1 (fun r u m hm => Int.le_trans (j4.2.2 r u (hS r u m hm).1) (h9 r u m hm)) (fun z => ?_) (by omega)
    have e := j3 z
    subst e
    omega
theorem c5_spread {Q : Mem → Prop} (ho : oc o = 5) (h1 : oc o1 = 1) (H : HR (M o1) s) (K : HOK s) (hS : SOK s S) (hT : TO (tbC M o)) (hs : Snd s S (tbC M o)) (hsr : ∀ r u m, S r u m → tbC M o r u ≤ m)
    (h : ∀ M' : Mem, EqX [(o, 0)] M M' → TO (tbC M' o) → Tab s S (tbC M' o) → Q M') : OkV G (n + 3) mX5_spread [vO o, vO o1] M Q :=
  eX5_spread (fun Kx => bX5_spread_0 (l5_spread ho h1 H K hS h 33 1 0 M (by decide) (by decide) (by decide) (Or.inr rfl) EqX.rf hT hs hsr (fun z => absurd z (by decide)) (Or.inl (by have := nfc_n (P := NF s S (tbC M o)) 32; omega))))
def src1 (r0 u0 m0 : Int) : Src := fun r u m => r = r0 ∧ u = u0 ∧ m = m0
theorem src1_ok {r0 u0 m0 : Int} (hv : VN s r0 u0) (h0 : 0 ≤ m0) (h1 : m0 ≤ 1439) : SOK s (src1 r0 u0 m0) := by
  rintro r u m ⟨rfl, rfl, rfl⟩; exact ⟨hv, h0, h1⟩
theorem c5_clear {Q : Mem → Prop} (ho : oc o = 5) (h : Q (mfill M o 0 32 1000000)) : OkV G (n + 1) mX5_clear [vO o] M Q :=
  eX5_clear (fun K => bX5_clear_0 ho (c_fill (by rw [ho]; rfl) (by rw [ho]; rfl) (by decide) h))
theorem tbC_fill {r u : Int} (h1 : 0 ≤ r) (h2 : r < 16) (h3 : u = 0 ∨ u = 1) : tbC (mfill M o 0 32 1000000) o r u = 1000000 := by
  unfold tbC mfill; rw [if_pos ⟨rfl, rfl, by omega⟩]
theorem c5_from {Q : Mem → Prop} {r0 m0 hz : Int} (ho : oc o = 5) (h1 : oc o1 = 1) (H : HR (M o1) s) (K : HOK s) (hv : 0 ≤ r0 ∧ r0 < s 0) (hm0 : 0 ≤ m0) (hm1 : m0 ≤ 1439)
    (h : ∀ M' : Mem, EqX [(o, 0)] M M' → TO (tbC M' o) → Tab s (src1 r0 (if hz = 0 then 1 else 0) m0) (tbC M' o) → Q M') : OkV G (n + 4) mX5_from [vO o, vO o1, vI r0, vI m0, vI hz] M Q := by
  have k1 := K.2.1
  have key : ∀ u : Int, (u = 0 ∨ u = 1) → (∀ M' : Mem, EqX [(o, 0)] M M' → TO (tbC M' o) → Tab s (src1 r0 u m0) (tbC M' o) → Q M') → OkI G (n + 3) mX5_put [vO o, vI r0, vI u, vI m0] (mfill M o 0 32 1000000) (fun _ M2 => OkV G (n + 3) mX5_spread [vO o, vO o1] M2 (fun M3 => Q M3)) := by
    intro u hu hq
    have ef := tbC_fill (M := M) (o := o) hv.1 (by omega) hu
    refine c5_put ho hv.1 (by omega) hu (fun z => by rw [ef] at z; omega) (fun _ _ => ?_)
    have he : EqX [(o, 0)] M (mset (mfill M o 0 32 1000000) o 0 (16 * u + r0).toNat m0) := mfill_eqX.trans (EqX.mset (List.mem_singleton.mpr rfl))
    have hval : ∀ a b : Int, 0 ≤ a → a < 16 → (b = 0 ∨ b = 1) → tbC (mset (mfill M o 0 32 1000000) o 0 (16 * u + r0).toNat m0) o a b = if a = r0 ∧ b = u then m0 else 1000000 := by
      intro a b a1 a2 a3
      rw [tbC_set hv.1 (by omega) hu a1 a2 a3, tbC_fill a1 a2 a3]
    refine c5_spread (S := src1 r0 u m0) ho h1 (by rw [HR_far h1 ho he]; exact H) K (src1_ok ⟨hv.1, hv.2, hu⟩ hm0 hm1) (fun a b a1 a2 a3 => ?_) (fun a b hab hle => ?_) ?_ (fun M' i1 i2 i3 => hq M' (he.trans i1) i2 i3)
    · rw [hval a b a1 a2 a3]; split <;> omega
    · rw [hval a b hab.1 (by have := hab.2.1; omega) hab.2.2] at hle ⊢
      by_cases e : a = r0 ∧ b = u
      · rw [if_pos e]; exact Rch_src ⟨e.1, e.2, rfl⟩
      · rw [if_neg e] at hle; omega
    · rintro r u' m ⟨rfl, rfl, rfl⟩
      rw [hval r u' hv.1 (by omega) hu, if_pos ⟨rfl, rfl⟩]; exact Int.le_refl _
  refine eX5_from (fun Kx => bX5_from_0 ho (c5_clear ho ⟨fun a => ?_, fun a => ?_⟩))
  · rw [if_pos a] at h; exact key 1 (Or.inr rfl) h
  · rw [if_neg a] at h; exact key 0 (Or.inl rfl) h
theorem c5_leastAt {Q : Int → Mem → Prop} {r : Int} (ho : oc o = 5) (h1 : 0 ≤ r) (h2 : r < 16) (h : Q (if tbC M o r 1 < tbC M o r 0 then tbC M o r 1 else tbC M o r 0) M) : OkI G (n + 1) mX5_leastAt [vO o, vI r] M Q :=
  eX5_leastAt (fun K => bX5_leastAt_0 ho (c5_get ho h1 h2 (Or.inl rfl) (c5_get ho h1 h2 (Or.inr rfl) h)))
end CR2
