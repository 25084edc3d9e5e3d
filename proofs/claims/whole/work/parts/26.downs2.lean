section DC
variable {G : Gx} {n : Nat} {M : Mem} {s : Int → Int} {t : Int} {o : Nat} {T : Int → Int × Int}
theorem c1_isFlightFrom {Q : Int → Mem → Prop} {w r : Int} (ho : oc o = 1) (H : HR (M o) s) (K : HOK s) (h1 : 0 ≤ w) (h2 : w < s 1) (ht : s (28 + 6 * w + 3) = 0 → s (28 + 6 * w + 0) = r → Q 1 M) (hf : ¬ (s (28 + 6 * w + 3) = 0 ∧ s (28 + 6 * w + 0) = r) → Q 0 M) : OkI G (n + 1) mX1_isFlightFrom [vO o, vI w, vI r] M Q := by
  have k3 := K.2.2.2.1
  obtain ⟨w0, w1, w2, w3, w4, w5⟩ := H.way h1 h2
  refine eX1_isFlightFrom (fun Kx => bX1_isFlightFrom_0 ho (c1_isWay ho H k3 (fun _ _ => ⟨fun z => absurd z (by decide), fun _ => ⟨⟨h1, by omega⟩, ?_⟩⟩) (fun z => absurd ⟨h1, h2⟩ z)))
  rw [w3, w0]
  exact ⟨fun a => hf (fun z => a z.1), fun a => ⟨⟨h1, by omega⟩, fun b => hf (fun z => b z.2), fun b => ht a b⟩⟩
theorem wr_s {k : Nat} {b : Int} (h : (k : Int) < b) (hb : b ≤ 24) : wr ((k : Int) + 1) = ((k + 1 : Nat) : Int) := by
  rw [wrs (x := (k : Int) + 1) (by omega) (by omega)]; omega
theorem HR_eqX {M' : Mem} {l : List (Nat × Nat)} (h : EqX l M M') (hn : ∀ c ∈ l, oc c.1 ≠ 1) (ho : oc o = 1) : M' o = M o := h.obj (fun c hc e => hn c hc (by rw [e]; exact ho))
def cdF (s : Int → Int) (T : Int → Int × Int) (r : Int) (k : Nat) : Prop := s (28 + 6 * (k : Int) + 3) = 0 ∧ s (28 + 6 * (k : Int) + 0) = r ∧ 0 < (T (s (28 + 6 * (k : Int) + 1))).1
theorem l1_rdf {Kx : Kx} {Q : Mem → Prop} {r : Int} {F : Nat → Int × Int} {Z : Int × Int} (hF : ∀ k, cdF s T r k → F (k + 1) = (mn6 ((F k).1 + (T (s (28 + 6 * (k : Int) + 1))).1), mx (F k).2 ((T (s (28 + 6 * (k : Int) + 1))).2 + 1))) (hF' : ∀ k, ¬ cdF s T r k → F (k + 1) = F k) (hZ : F (s 1).toNat = Z) (gT : ∀ r, gdD 41 (T r)) (gF : ∀ k, gdD 42 (F k)) (ho : oc o = 1) (H : HR (M o) s) (K : HOK s) (h1 : 0 ≤ r) (h2 : r < s 0)
    (hT : ∀ j : Nat, (j : Int) < s 1 → isFl s j r → M 1 12 (s (28 + 6 * (j : Int) + 1)).toNat = (T (s (28 + 6 * (j : Int) + 1))).1 ∧ M 1 13 (s (28 + 6 * (j : Int) + 1)).toNat = enc (T (s (28 + 6 * (j : Int) + 1))))
    (h : ∀ M' : Mem, EqX [(1, 12), (1, 13)] M M' → (∀ j : Nat, j ≠ r.toNat → M' 1 12 j = M 1 12 j ∧ M' 1 13 j = M 1 13 j) → M' 1 12 r.toNat = Z.1 → M' 1 13 r.toNat = enc Z → Q M') :
    ∀ (f k : Nat) (Mc : Mem), (k : Int) ≤ s 1 → (s 1).toNat - k ≤ f → EqX [(1, 12), (1, 13)] M Mc → (∀ j : Nat, j ≠ r.toNat → Mc 1 12 j = M 1 12 j ∧ Mc 1 13 j = M 1 13 j) → Mc 1 12 r.toNat = (F k).1 → Mc 1 13 r.toNat = enc (F k) → CW G Kx mX1_reckonDownsFrom (n + 2) 49 [some (vO o), some (vI r), none, some (vA 1 12), some (vA 1 13), some (vI (k : Int)), none] [] Mc (qV Q) := by
  have k1 := K.2.1
  have k3 := K.2.2.2.1
  have done : ∀ (k : Nat) (Mc : Mem), k = (s 1).toNat → EqX [(1, 12), (1, 13)] M Mc → (∀ j : Nat, j ≠ r.toNat → Mc 1 12 j = M 1 12 j ∧ Mc 1 13 j = M 1 13 j) → Mc 1 12 r.toNat = (F k).1 → Mc 1 13 r.toNat = enc (F k) → Q Mc := by
    intro k Mc e a1 a2 a3 a4
    rw [e, hZ] at a3 a4
    exact h Mc a1 a2 a3 a4
  intro f
  induction f with
  | zero =>
    intro k Mc i1 i2 i3 i4 i5 i6
    refine bX1_reckonDownsFrom_49 ho ?_
    rw [HR_eqX i3 (by decide) ho, H.2.1]
    exact ⟨fun _ => done k Mc (by omega) i3 i4 i5 i6, fun a => absurd (by omega) a⟩
  | succ f ih =>
    intro k Mc i1 i2 i3 i4 i5 i6
    have eo := HR_eqX i3 (by decide) ho
    have H' : HR (Mc o) s := by rw [eo]; exact H
    refine bX1_reckonDownsFrom_49 ho ?_
    rw [eo, H.2.1]
    refine ⟨fun a => done k Mc (by omega) i3 i4 i5 i6, fun a => ?_⟩
    have hk : (k : Int) < s 1 := by omega
    have skip : ¬ cdF s T r k → CW G Kx mX1_reckonDownsFrom (n + 2) 49 [some (vO o), some (vI r), none, some (vA 1 12), some (vA 1 13), some (vI ((k + 1 : Nat) : Int)), none] [] Mc (qV Q) := by
      intro z
      refine ih (k + 1) Mc (by omega) (by omega) i3 i4 ?_ ?_
      · rw [hF' _ z]; exact i5
      · rw [hF' _ z]; exact i6
    obtain ⟨-, hb, -⟩ := K.way (w := (k : Int)) (by omega) hk
    have w1 : M o 9 (k : Int).toNat = s (28 + 6 * (k : Int) + 1) := (H.way (by omega) hk).2.1
    refine c1_isFlightFrom ho H' K (by omega) hk (fun b c => ⟨fun z => absurd z (by decide), fun _ => ⟨⟨by omega, by omega⟩, ?_⟩⟩) (fun b => ⟨fun _ => bX1_reckonDownsFrom_112 ho ⟨fun _ => by rw [wr_s hk k3]; exact skip (fun z => b ⟨z.1, z.2.1⟩), fun z => absurd rfl z⟩, fun z => absurd rfl z⟩)
    rw [eo, w1]
    refine c1_isRoom ho H' k1 (fun _ _ => ⟨fun z => absurd z (by decide), fun _ => ?_⟩) (fun z => absurd hb z)
    rw [eo, w1]
    refine ⟨⟨by omega, by omega⟩, fun z => absurd z (by omega), fun _ => ⟨⟨by omega, by omega⟩, fun z => absurd z (by omega), fun _ => bX1_reckonDownsFrom_112 ho ⟨fun z => absurd z (by decide), fun _ => ⟨⟨by omega, by omega⟩, ?_⟩⟩⟩⟩
    rw [eo, w1, wr_s hk k3]
    have hne : (s (28 + 6 * (k : Int) + 1)).toNat ≠ r.toNat := by
      intro z
      have hd := (isFl_down K hk (k := k) (r := r) ⟨b, c⟩).2.2
      have : s (28 + 6 * (k : Int) + 1) = r := by omega
      rw [this] at hd; omega
    obtain ⟨t1, t2⟩ := hT k hk ⟨b, c⟩
    have v1 : Mc 1 12 (s (28 + 6 * (k : Int) + 1)).toNat = (T (s (28 + 6 * (k : Int) + 1))).1 := by rw [(i4 _ hne).1, t1]
    have v2 : Mc 1 13 (s (28 + 6 * (k : Int) + 1)).toNat = enc (T (s (28 + 6 * (k : Int) + 1))) := by rw [(i4 _ hne).2, t2]
    have gd := gT (s (28 + 6 * (k : Int) + 1))
    have gf := gF k
    refine ⟨⟨by omega, by omega⟩, fun z => ?_, fun z => ⟨⟨h1, by omega⟩, ⟨by omega, by omega⟩, ⟨by omega, by omega⟩, ⟨h1, by omega⟩, fun M1 em1 => ?_⟩⟩
    · rw [v1] at z; exact skip (fun y => by have := y.2.2; omega)
    · rw [v1] at z
      have zz : cdF s T r k := ⟨b, c, by omega⟩
      rw [v1, i5] at em1
      have j3 : EqX [(1, 12), (1, 13)] M M1 := by rw [em1]; exact i3.trans (EqX.mset (by decide))
      have eo1 := HR_eqX j3 (by decide) ho
      have u13 : ∀ j, M1 1 13 j = Mc 1 13 j := fun j => by rw [em1]; exact mset_ne (by simp)
      rw [eo1, w1]
      refine ⟨⟨h1, by omega⟩, ⟨by omega, by omega⟩, ⟨by omega, by omega⟩, ⟨h1, by omega⟩, fun M2 em2 => ?_⟩
      rw [u13, u13, v2, i6] at em2
      unfold gdD at gd gf
      have hs : wr ((F k).1 + (T (s (28 + 6 * (k : Int) + 1))).1) = (F k).1 + (T (s (28 + 6 * (k : Int) + 1))).1 := wrs (by omega) (by omega)
      have hen : enc (T (s (28 + 6 * (k : Int) + 1))) = (T (s (28 + 6 * (k : Int) + 1))).2 := by unfold enc; rw [if_pos zz.2.2]
      rw [hs] at em1
      rw [hen, wrs (x := (T (s (28 + 6 * (k : Int) + 1))).2 + 1) (by omega) (by omega)] at em2
      refine ih (k + 1) M2 (by omega) (by omega) (by rw [em2]; exact j3.trans (EqX.mset (by decide))) (fun j hj => ?_) ?_ ?_
      · rw [em2, em1]
        exact ⟨by rw [mset_ne (by simp), mset_ne (fun z => hj z.2.2)]; exact (i4 j hj).1, by rw [mset_ne (fun z => hj z.2.2), mset_ne (by simp)]; exact (i4 j hj).2⟩
      · rw [em2, mset_ne (by simp), em1, mset_self]
        rw [hF _ zz]
        rfl
      · rw [em2, mset_self]
        have hd : F (k + 1) = (mn6 ((F k).1 + (T (s (28 + 6 * (k : Int) + 1))).1), mx (F k).2 ((T (s (28 + 6 * (k : Int) + 1))).2 + 1)) := by
          rw [hF _ zz]
        rw [hd]
        generalize F k = x at *
        generalize T (s (28 + 6 * (k : Int) + 1)) = y at *
        obtain ⟨xa, xb⟩ := x
        obtain ⟨ya, yb⟩ := y
        dsimp only at *
        have hp : 0 < mn6 (xa + ya) := by unfold mn6; split <;> omega
        unfold enc
        dsimp only
        rw [if_pos hp]
        unfold mx
        by_cases q : 0 < xa
        · rw [if_pos q]
        · rw [if_neg q, if_pos (show -2 < yb + 1 by omega), if_pos (show xb < yb + 1 by omega)]
theorem c1_rdf {Q : Mem → Prop} {r : Int} (hDT : DT s t T) (ho : oc o = 1) (H : HR (M o) s) (K : HOK s) (h1 : 0 ≤ r) (h2 : r < s 0)
    (hT : ∀ j : Nat, (j : Int) < s 1 → isFl s j r → M 1 12 (s (28 + 6 * (j : Int) + 1)).toNat = (T (s (28 + 6 * (j : Int) + 1))).1 ∧ M 1 13 (s (28 + 6 * (j : Int) + 1)).toNat = enc (T (s (28 + 6 * (j : Int) + 1))))
    (h : ∀ M' : Mem, EqX [(1, 12), (1, 13)] M M' → (∀ j : Nat, j ≠ r.toNat → M' 1 12 j = M 1 12 j ∧ M' 1 13 j = M 1 13 j) → M' 1 12 r.toNat = (T r).1 → M' 1 13 r.toNat = enc (T r) → Q M') : OkV G (n + 2) mX1_reckonDownsFrom [vO o, vI r, vI t, vA 1 12, vA 1 13] M Q := by
  have k1 := K.2.1
  have go : ∀ (Kx : Kx) (a b : Int) (M1 : Mem), bas t r = (a, if a = 1 then 0 else -1) → b = (if a = 1 then 0 else -2) → (a = 0 ∨ a = 1) → M1 = mset (mset M 1 12 r.toNat a) 1 13 r.toNat b → CW G Kx mX1_reckonDownsFrom (n + 2) 49 [some (vO o), some (vI r), none, some (vA 1 12), some (vA 1 13), some (vI 0), none] [] M1 (qV Q) := by
    intro Kx a b M1 eb eb2 ha em
    have hE : EqX [(1, 12), (1, 13)] M M1 := by rw [em]; exact (EqX.mset (by decide)).trans (EqX.mset (by decide))
    have hoth : ∀ j : Nat, j ≠ r.toNat → M1 1 12 j = M 1 12 j ∧ M1 1 13 j = M 1 13 j := by
      intro j hj
      rw [em]
      exact ⟨by rw [mset_ne (by simp), mset_ne (fun z => hj z.2.2)], by rw [mset_ne (fun z => hj z.2.2), mset_ne (by simp)]⟩
    refine l1_rdf (F := fun k => dFo s t T r k) (Z := T r) (fun k z => if_pos z) (fun k z => if_neg z) (hDT.1 r h1 h2).symm hDT.2.1 (fun k => dFo_gd hDT.2.1 k) ho (by rw [HR_eqX hE (by decide) ho]; exact H) K h1 h2 (fun j hj hf => ?_) (fun M' i1 i2 i3 i4 => h M' (hE.trans i1) (fun j hj => ⟨(i2 j hj).1.trans (hoth j hj).1, (i2 j hj).2.trans (hoth j hj).2⟩) i3 i4) (s 1).toNat 0 M1 K.2.2.1 (by omega) EqX.rf (fun j hj => ⟨rfl, rfl⟩) ?_ ?_
    · have hne : (s (28 + 6 * (j : Int) + 1)).toNat ≠ r.toNat := by
        intro z
        obtain ⟨d1, d2, d3⟩ := isFl_down K hj hf
        have : s (28 + 6 * (j : Int) + 1) = r := by omega
        rw [this] at d3; omega
      rw [(hoth _ hne).1, (hoth _ hne).2]; exact hT j hj hf
    · rw [em, mset_ne (by simp), mset_self]; unfold dFo; rw [eb]
    · rw [em, mset_self]; unfold dFo; rw [eb, eb2]; unfold enc
      rcases ha with rfl | rfl <;> decide
  refine eX1_reckonDownsFrom (fun Kx => bX1_reckonDownsFrom_0 ⟨fun a => absurd a (by omega), fun _ => ⟨fun a => absurd a (by omega), fun _ => ⟨fun _ => ⟨fun a => ?_, fun a => ?_⟩, fun a => absurd (by omega) a⟩⟩⟩)
  · refine bX1_reckonDownsFrom_30 ⟨⟨h1, by omega⟩, fun M1 e1 => ⟨fun _ => ⟨⟨h1, by omega⟩, fun M2 e2 => ?_⟩, fun z => absurd z a⟩⟩
    exact go Kx 0 (-2) M2 (by unfold bas; rw [if_neg a]; rfl) rfl (Or.inl rfl) (by rw [e2, e1])
  · refine bX1_reckonDownsFrom_30 ⟨⟨h1, by omega⟩, fun M1 e1 => ⟨fun z => absurd a z, fun _ => ⟨⟨h1, by omega⟩, fun M2 e2 => ?_⟩⟩⟩
    exact go Kx 1 0 M2 (by unfold bas; rw [if_pos a]; rfl) rfl (Or.inr rfl) (by rw [e2, e1])
/-- the rooms below a level, and of a level those ahead of room k, are reckoned -/
def RK (s : Int → Int) (T : Int → Int × Int) (M : Mem) (l k : Int) : Prop := ∀ r : Int, 0 ≤ r → r < s 0 → (s (12 + r) < l ∨ (s (12 + r) = l ∧ r < k)) → M 1 12 r.toNat = (T r).1 ∧ M 1 13 r.toNat = enc (T r)
theorem l1_rd {Kx : Kx} {Q : Mem → Prop} (hDT : DT s t T) (ho : oc o = 1) (H : HR (M o) s) (K : HOK s) (h : ∀ M' : Mem, EqX [(1, 12), (1, 13)] M M' → RK s T M' 41 0 → Q M') :
    ∀ (f : Nat) (l : Int) (Mc : Mem), 0 ≤ l → l ≤ 41 → (41 - l).toNat ≤ f → EqX [(1, 12), (1, 13)] M Mc → RK s T Mc l 0 → CW G Kx mX1_reckonDowns (n + 3) 3 [some (vO o), some (vI t), some (vA 1 12), some (vA 1 13), some (vI l), none] [] Mc (qV Q) := by
  have k1 := K.2.1
  intro f
  induction f with
  | zero =>
    intro l Mc i1 i2 i3 i4 i5
    have e : l = 41 := by omega
    subst e
    exact bX1_reckonDowns_3 ⟨fun _ => h Mc i4 i5, fun a => absurd (by decide) a⟩
  | succ f ih =>
    intro l Mc i1 i2 i3 i4 i5
    refine bX1_reckonDowns_3 ⟨fun a => ?_, fun a => ?_⟩
    · have e : l = 41 := by omega
      subst e; exact h Mc i4 i5
    · have inner : ∀ (g : Nat) (k : Int) (Mc : Mem), 0 ≤ k → k ≤ s 0 → (s 0 - k).toNat ≤ g → EqX [(1, 12), (1, 13)] M Mc → RK s T Mc l k → CW G Kx mX1_reckonDowns (n + 3) 13 [some (vO o), some (vI t), some (vA 1 12), some (vA 1 13), some (vI l), some (vI k)] [] Mc (qV Q) := by
        intro g
        induction g with
        | zero =>
          intro k Mc j1 j2 j3 j4 j5
          refine bX1_reckonDowns_13 ho ?_
          rw [HR_eqX j4 (by decide) ho, H.1]
          refine ⟨fun _ => ?_, fun z => absurd (by omega) z⟩
          rw [wrs (x := l + 1) (by omega) (by omega)]
          exact ih (l + 1) Mc (by omega) (by omega) (by omega) j4 (fun r r1 r2 r3 => j5 r r1 r2 (by omega))
        | succ g ihg =>
          intro k Mc j1 j2 j3 j4 j5
          have eo := HR_eqX j4 (by decide) ho
          refine bX1_reckonDowns_13 ho ?_
          rw [eo, H.1]
          refine ⟨fun z => ?_, fun z => ⟨fun y => absurd y (by omega), fun _ => ⟨⟨j1, by omega⟩, ?_⟩⟩⟩
          · rw [wrs (x := l + 1) (by omega) (by omega)]
            exact ih (l + 1) Mc (by omega) (by omega) (by omega) j4 (fun r r1 r2 r3 => j5 r r1 r2 (by omega))
          · have hk : k < s 0 := by omega
            rw [wrs (x := k + 1) (by omega) (by omega), H.2.2.2.2.2.2.1 k j1 hk]
            refine ⟨fun y => ihg (k + 1) Mc (by omega) (by omega) (by omega) j4 (fun r r1 r2 r3 => j5 r r1 r2 ?_), fun y => ?_⟩
            · by_cases e : r = k
              · subst e; omega
              · omega
            · refine c1_rdf hDT ho (by rw [eo]; exact H) K j1 hk (fun j hj hf => ?_) (fun M' q1 q2 q3 q4 => ?_)
              · obtain ⟨d1, d2, d3⟩ := isFl_down K hj hf
                exact j5 _ d1 d2 (by omega)
              · refine ihg (k + 1) M' (by omega) (by omega) (by omega) (j4.trans q1) (fun r r1 r2 r3 => ?_)
                by_cases e : r = k
                · subst e; exact ⟨q3, q4⟩
                · have hne : r.toNat ≠ k.toNat := by omega
                  rw [(q2 _ hne).1, (q2 _ hne).2]
                  exact j5 r r1 r2 (by omega)
      exact inner (s 0).toNat 0 Mc (by decide) K.1 (by omega) i4 i5
theorem c1_rd {Q : Mem → Prop} (hDT : DT s t T) (ho : oc o = 1) (H : HR (M o) s) (K : HOK s) (h : ∀ M' : Mem, EqX [(1, 12), (1, 13)] M M' → (∀ r : Int, 0 ≤ r → r < s 0 → M' 1 12 r.toNat = (T r).1 ∧ M' 1 13 r.toNat = enc (T r)) → Q M') : OkV G (n + 3) mX1_reckonDowns [vO o, vI t, vA 1 12, vA 1 13] M Q :=
  eX1_reckonDowns (fun Kx => bX1_reckonDowns_0 (l1_rd hDT ho H K (fun M' i1 i2 => h M' i1 (fun r r1 r2 => i2 r r1 r2 (Or.inl (by have := K.height r1 r2; omega)))) 41 0 M (by decide) (by decide) (by decide) EqX.rf (fun r r1 r2 r3 => by have := K.height r1 r2; omega)))
end DC
