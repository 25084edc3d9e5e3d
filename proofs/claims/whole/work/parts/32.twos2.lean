section TC
variable {G : Gx} {n : Nat} {M : Mem} {s : Int → Int} {fl : Int} {o : Nat} {R : Rw}
def TR (s : Int → Int) (o k : Nat) (M : Mem) (R : Rw) : Prop := ∀ r : Int, 0 ≤ r → r < s 0 → M o k r.toNat = ((R r : Nat) : Int)
theorem TR_set {p k : Nat} {a b : Int} (h : TR s p k M R) (hlt : ∀ r, R r < 65536) (ha : 0 ≤ a ∧ a < s 0) (hb : 0 ≤ b ∧ b < s 0) : TR s p k (mset M p k a.toNat (bOr (M p k a.toNat) (M p k b.toNat))) (up1 R a b) := by
  intro r r1 r2
  rw [h a ha.1 ha.2, h b hb.1 hb.2, bOr_nat (by have := hlt a; omega) (by have := hlt b; omega)]
  by_cases e : r = a
  · rw [e, mset_self]
    unfold up1; rw [if_pos rfl]
  · rw [mset_ne (fun z => e (by have := z.2.2; omega)), h r r1 r2]
    unfold up1; rw [if_neg e]
theorem up1_same {a b : Int} (h : R a ||| R b = R a) : up1 R a b = R := by
  funext r; unfold up1; split
  · rename_i e; rw [e, h]
  · rfl
theorem c1_widen {Q : Int → Mem → Prop} {a b : Int} (hs : s 0 ≤ 16) (hT : TR s 1 14 M R) (hlt : ∀ r, R r < 65536) (ha : 0 ≤ a ∧ a < s 0) (hb : 0 ≤ b ∧ b < s 0) (h : ∀ (x : Int) (M' : Mem), EqX [(1, 14)] M M' → TR s 1 14 M' (up1 R a b) → (x = 0 ∨ x = 1) → (x = 0 → up1 R a b = R) → (up1 R a b = R → x = 0) → Q x M') : OkI G n mX1_widen [vI a, vI b, vA 1 14] M Q := by
  have a16 : 0 ≤ a ∧ a < 16 := ⟨ha.1, by omega⟩
  have b16 : 0 ≤ b ∧ b < 16 := ⟨hb.1, by omega⟩
  refine eX1_widen (fun K => bX1_widen_0 ⟨fun z => absurd z (by omega), fun _ => ⟨fun z => absurd z (by omega), fun _ => ⟨fun z => absurd z (by omega), fun _ => ⟨fun _ => ⟨a16, b16, a16, fun M1 e1 => ?_⟩, fun z => absurd (by omega) z⟩⟩⟩⟩)
  have hE : EqX [(1, 14)] M M1 := by rw [e1]; exact EqX.mset (by decide)
  have hR : TR s 1 14 M1 (up1 R a b) := by rw [e1]; exact TR_set hT hlt ha hb
  have v : M1 1 14 a.toNat = ((up1 R a b a : Nat) : Int) := hR a ha.1 ha.2
  have v0 := hT a ha.1 ha.2
  have eu : up1 R a b a = R a ||| R b := by unfold up1; rw [if_pos rfl]
  rw [v, v0]
  refine ⟨a16, fun z => h 0 M1 hE hR (Or.inl rfl) (fun _ => up1_same (by rw [← eu]; omega)) (fun _ => rfl), fun z => h 1 M1 hE hR (Or.inr rfl) (fun y => absurd y (by decide)) (fun y => absurd (by rw [y]) z)⟩
theorem bOr02 {x y : Int} (hx : x = 0 ∨ x = 1) (hy : y = 0 ∨ y = 1) : (bOr x y = 0 ∨ bOr x y = 1) ∧ (bOr x y = 0 ↔ x = 0 ∧ y = 0) := by
  rcases hx with rfl | rfl <;> rcases hy with rfl | rfl <;> decide
/-- the flag of a round that began with R0 and has come to R -/
def FL (s : Int → Int) (fl : Int) (R0 : Rw) (R : Rw) (x : Int) : Prop := (x = 0 ∨ x = 1) ∧ (x = 0 → R = R0) ∧ (clA s fl R0 → x = 0)
theorem l1_tw {Kx : Kx} {Q : Int → Mem → Prop} {x4 : Int} (ho : oc o = 1) (H : HR (M o) s) (K : HOK s) (hlt : ∀ r, R r < 65536) (h4 : 0 ≤ x4 ∧ x4 ≤ 16)
    (hQ : ∀ (x : Int) (M' : Mem), EqX [(1, 14)] M M' → TR s 1 14 M' (rd s fl R (s 1).toNat) → FL s fl R (rd s fl R (s 1).toNat) x → CW G Kx mX1_twos (n + 1) 33 [some (vO o), some (vI fl), some (vA 1 14), some (vI x), some (vI (x4 + 1)), none] [] M' (qI Q)) :
    ∀ (k : Nat) (a : Int × Mem), k ≤ (s 1).toNat → (EqX [(1, 14)] M a.2 ∧ TR s 1 14 a.2 (rd s fl R k) ∧ FL s fl R (rd s fl R k) a.1) → CW G Kx mX1_twos (n + 1) 49 [some (vO o), some (vI fl), some (vA 1 14), some (vI a.1), some (vI x4), some (vI (k : Int))] [] a.2 (qI Q) := by
  have k1 := K.2.1
  have k2 := K.2.2.1
  have k3 := K.2.2.2.1
  refine up_ind (fun a i => ?_) (fun k a hk i ih => ?_)
  · obtain ⟨x, Mc⟩ := a
    obtain ⟨i1, i2, i3⟩ := i
    refine bX1_twos_49 ho ?_
    dsimp only at i1 i2 i3 ⊢
    rw [HR_eqX i1 (by decide) ho, H.2.1, wrs (x := x4 + 1) (by omega) (by omega)]
    exact ⟨fun _ => hQ x Mc i1 i2 i3, fun z => absurd (by omega) z⟩
  · obtain ⟨x, Mc⟩ := a
    obtain ⟨i1, i2, i3⟩ := i
    dsimp only at i1 i2 i3 ⊢
    have eo := HR_eqX i1 (by decide) ho
    have hk' : (k : Int) < s 1 := by omega
    have kb : (0 : Int) ≤ k ∧ (k : Int) < 24 := ⟨by omega, by omega⟩
    obtain ⟨w0, w1, w2, w3, w4, w5⟩ := H.way kb.1 hk'
    obtain ⟨r0, r1, -⟩ := K.way (w := (k : Int)) kb.1 hk'
    refine bX1_twos_49 ho ?_
    rw [eo, H.2.1, w0, w1]
    refine ⟨fun z => absurd z (by omega), fun _ => ⟨fun z => absurd z (by omega), fun _ => ⟨kb, kb, ?_⟩⟩⟩
    refine c1_widen k1 i2 (rd_lt hlt k) r0 r1 (fun y M1 j1 j2 j3 j4 j5 => ⟨kb, ?_⟩)
    have i1' := i1.trans j1
    have eo1 := HR_eqX i1' (by decide) ho
    rw [eo1, w3, wr_n hk' (by omega)]
    obtain ⟨f1, f2, f3⟩ := i3
    have b1 := bOr02 f1 j3
    have hsp : rd s fl R (k + 1) = sp s fl (rd s fl R k) k := rfl
    have two : ((k : Int) = fl ∨ s (28 + 6 * (k : Int) + 3) = 1) → CW G Kx mX1_twos (n + 1) 103 [some (vO o), some (vI fl), some (vA 1 14), some (vI (bOr x y)), some (vI x4), some (vI (k : Int))] [] M1 (qI Q) := by
      intro hc
      refine bX1_twos_103 ho ⟨kb, kb, ?_⟩
      rw [eo1, w0, w1]
      refine c1_widen k1 j2 (up1_lt (rd_lt hlt k) _ _) r1 r0 (fun y2 M2 q1 q2 q3 q4 q5 => ?_)
      rw [wr_n hk' (by omega)]
      have es : rd s fl R (k + 1) = up1 (up1 (rd s fl R k) (s (28 + 6 * (k : Int) + 0)) (s (28 + 6 * (k : Int) + 1))) (s (28 + 6 * (k : Int) + 1)) (s (28 + 6 * (k : Int) + 0)) := by
        rw [hsp]; unfold sp; rw [if_pos hc]
      have b2 := bOr02 b1.1 q3
      refine ih (bOr (bOr x y) y2, M2) ⟨i1'.trans q1, by rw [es]; exact q2, b2.1, fun z => ?_, fun z => ?_⟩
      · obtain ⟨z1, z2⟩ := b2.2.mp z
        obtain ⟨z3, z4⟩ := b1.2.mp z1
        rw [es, q4 z2, j4 z4, f2 z3]
      · have e0 := clA_rd z (k := k) (by omega)
        have e1 := clA_rd z (k := k + 1) (by omega)
        have x0 := f3 z
        have same1 : up1 (rd s fl R k) (s (28 + 6 * (k : Int) + 0)) (s (28 + 6 * (k : Int) + 1)) = rd s fl R k := by
          rw [e0]
          funext r
          apply Nat.eq_of_testBit_eq
          intro t
          exact up1_cl (z t k (by omega)).1 r
        have y0 := j5 same1
        refine b2.2.mpr ⟨b1.2.mpr ⟨x0, y0⟩, q5 ?_⟩
        rw [← es, e1, same1, e0]
    refine ⟨fun hc => two (Or.inr hc), fun hc => ⟨fun hf => ?_, fun hf => two (Or.inl hf)⟩⟩
    have es : rd s fl R (k + 1) = up1 (rd s fl R k) (s (28 + 6 * (k : Int) + 0)) (s (28 + 6 * (k : Int) + 1)) := by
      rw [hsp]; unfold sp; rw [if_neg (fun z => z.elim hf hc)]
    refine ih (bOr x y, M1) ⟨i1', by rw [es]; exact j2, b1.1, fun z => ?_, fun z => ?_⟩
    · obtain ⟨z3, z4⟩ := b1.2.mp z
      rw [es, j4 z4, f2 z3]
    · refine b1.2.mpr ⟨f3 z, j5 ?_⟩
      rw [← es, clA_rd z (k := k + 1) (by omega), clA_rd z (k := k) (by omega)]
theorem l1_ts {Kx : Kx} {Q : Int → Mem → Prop} (ho : oc o = 1) (H : HR (M o) s) (K : HOK s) (hlt : ∀ r, R r < 65536) (hT : TR s 1 14 M R) (hQ : Q (smR R (s 0).toNat) M) : ∀ (k : Nat) (_ : Unit), k ≤ (s 0).toNat → True → CW G Kx mX1_twos (n + 1) 142 [some (vO o), none, some (vA 1 14), none, some (vI (smR R k)), some (vI (k : Int))] [] M (qI Q) := by
  have k1 := K.2.1
  have k0 := K.1
  refine up_ind (fun _ i => ?_) (fun k _ hk i ih => ?_)
  · refine bX1_twos_142 ho ?_
    rw [H.1]
    exact ⟨fun _ => hQ, fun z => absurd (by omega) z⟩
  · have hk' : (k : Int) < s 0 := by omega
    refine bX1_twos_142 ho ?_
    rw [H.1]
    refine ⟨fun z => absurd z (by omega), fun _ => ⟨fun z => absurd z (by omega), fun _ => ⟨⟨by omega, by omega⟩, ?_⟩⟩⟩
    rw [hT (k : Int) (by omega) hk']
    refine c6_bitCount (hlt _) ?_
    rw [wr_n hk' (by omega)]
    have b := pc_le (hlt (k : Int))
    have c := smR_in hlt k
    have e : wr (smR R k + (wr ((pc (R (k : Int)) : Int) - 1))) = smR R (k + 1) := by
      rw [wrs (x := (pc (R (k : Int)) : Int) - 1) (by omega) (by omega), wrs (x := smR R k + ((pc (R (k : Int)) : Int) - 1)) (by omega) (by omega)]
      rfl
    rw [e]
    exact ih () trivial
theorem c1_twos {Q : Int → Mem → Prop} (ho : oc o = 1) (H : HR (M o) s) (K : HOK s) (h : ∀ M', EqX [(1, 14)] M M' → Q (smR (itF s fl) (s 0).toNat) M') : OkI G (n + 1) mX1_twos [vO o, vI fl, vA 1 14] M Q := by
  have k1 := K.2.1
  have k0 := K.1
  refine eX1_twos (fun Kx => bX1_twos_0 ?_)
  have fin : ∀ Mc : Mem, EqX [(1, 14)] M Mc → TR s 1 14 Mc (itF s fl) → CW G Kx mX1_twos (n + 1) 142 [some (vO o), none, some (vA 1 14), none, some (vI 0), some (vI 0)] [] Mc (qI Q) := fun Mc i1 i2 =>
    l1_ts ho (by rw [HR_eqX i1 (by decide) ho]; exact H) K (itR_lt 16) i2 (h Mc i1) 0 () (by omega) trivial
  have rounds : ∀ (k : Nat) (a : Int × Mem), k ≤ 17 → (EqX [(1, 14)] M a.2 ∧ TR s 1 14 a.2 (itR s fl k) ∧ (a.1 = 0 → itR s fl k = itF s fl)) → CW G Kx mX1_twos (n + 1) 33 [some (vO o), some (vI fl), some (vA 1 14), some (vI a.1), some (vI (k : Int)), none] [] a.2 (qI Q) := by
    refine up_ind (fun a i => ?_) (fun k a hk i ih => ?_)
    · refine bX1_twos_33 ⟨fun _ => fin a.2 i.1 ?_, fun z => absurd (by decide) z⟩
      have := i.2.1
      rw [itF_17 K (by decide)] at this
      exact this
    · obtain ⟨x, Mc⟩ := a
      obtain ⟨i1, i2, i3⟩ := i
      dsimp only at i1 i2 i3 ⊢
      refine bX1_twos_33 ⟨fun z => absurd z (by omega), fun _ => ⟨fun z => fin Mc i1 (by rw [← i3 z]; exact i2), fun z => ?_⟩⟩
      refine l1_tw (M := Mc) ho (by rw [HR_eqX i1 (by decide) ho]; exact H) K (itR_lt k) ⟨by omega, by omega⟩ (fun x' M' j1 j2 j3 => ?_) 0 (0, Mc) (by omega) ⟨EqX.rf, i2, Or.inl rfl, fun _ => rfl, fun _ => rfl⟩
      refine ih (x', M') ⟨i1.trans j1, j2, fun y => ?_⟩
      have e := j3.2.1 y
      show rd s fl (itR s fl k) (s 1).toNat = _
      rw [e]; exact itF_of K e
  have init : ∀ (k : Nat) (Mc : Mem), k ≤ (s 0).toNat → (EqX [(1, 14)] M Mc ∧ ∀ r : Int, 0 ≤ r → r < (k : Int) → Mc 1 14 r.toNat = ((itR s fl 0 r : Nat) : Int)) → CW G Kx mX1_twos (n + 1) 2 [some (vO o), some (vI fl), some (vA 1 14), some (vI (k : Int)), none, none] [] Mc (qI Q) := by
    refine up_ind (fun Mc i => ?_) (fun k Mc hk i ih => ?_)
    · refine bX1_twos_2 ho ?_
      rw [HR_eqX i.1 (by decide) ho, H.1]
      exact ⟨fun _ => rounds 0 (1, Mc) (by omega) ⟨i.1, fun r r1 r2 => i.2 r r1 (by omega), fun z => absurd (show (1 : Int) = 0 from z) (by decide)⟩, fun z => absurd (by omega) z⟩
    · have hk' : (k : Int) < s 0 := by omega
      refine bX1_twos_2 ho ?_
      rw [HR_eqX i.1 (by decide) ho, H.1, wr_n hk' (by omega), bShl_nat (by omega)]
      refine ⟨fun z => absurd z (by omega), fun _ => ⟨fun z => absurd z (by omega), fun _ => ⟨⟨by omega, by omega⟩, fun M1 e1 => ih M1 ⟨?_, fun r r1 r2 => ?_⟩⟩⟩⟩
      · rw [e1]; exact i.1.trans (EqX.mset (by decide))
      · by_cases e : r = (k : Int)
        · rw [e1, e, mset_self]
          show _ = (((if 0 ≤ (k : Int) ∧ (k : Int) < 16 then 2 ^ (k : Int).toNat else 0 : Nat) : Nat) : Int)
          rw [if_pos ⟨by omega, by omega⟩, Int.toNat_natCast]
        · rw [e1, mset_ne (fun z => e (by have := z.2.2; omega))]
          exact i.2 r r1 (by omega)
  exact init 0 M (by omega) ⟨EqX.rf, fun r r1 r2 => by omega⟩
end TC
