section TM
variable {G : Gx} {n : Nat} {M : Mem} {s : Int → Int} {fl : Int} {R : Rw}
theorem sp_same {k : Nat} {R' : Rw} (he : R' = sp s fl R k) (h1 : R' (s (28 + 6 * (k : Int) + 0)) = R (s (28 + 6 * (k : Int) + 0))) (h2 : R' (s (28 + 6 * (k : Int) + 1)) = R (s (28 + 6 * (k : Int) + 1))) : R' = R := by
  funext r
  by_cases a : r = s (28 + 6 * (k : Int) + 0)
  · rw [a]; exact h1
  · by_cases b : r = s (28 + 6 * (k : Int) + 1)
    · rw [b]; exact h2
    · rw [he]
      unfold sp
      split
      · show (if r = _ then _ else (if r = _ then _ else R r)) = R r
        rw [if_neg b, if_neg a]
      · show (if r = _ then _ else R r) = R r
        rw [if_neg a]
theorem l12_tw {Kx : Kx} {Q : Int → Mem → Prop} (hs : sd M = s) (K : HOK s) (hlt : ∀ r, R r < 65536)
    (hQ : ∀ (x : Int) (M' : Mem), EqX [(0, 44)] M M' → TR s 0 44 M' (rd s fl R (s 1).toNat) → FL s fl R (rd s fl R (s 1).toNat) x → CW G Kx mX12_twos (n + 1) 29 [some (vO 0), some (vI fl), some (vI x), none, none, none, none, none] [] M' (qI Q)) :
    ∀ (k : Nat) (a : Int × Mem), k ≤ (s 1).toNat → (EqX [(0, 44)] M a.2 ∧ TR s 0 44 a.2 (rd s fl R k) ∧ FL s fl R (rd s fl R k) a.1) → CW G Kx mX12_twos (n + 1) 37 [some (vO 0), some (vI fl), some (vI a.1), some (vI (k : Int)), none, none, none, none] [] a.2 (qI Q) := by
  have k1 := K.2.1
  have k2 := K.2.2.1
  have k3 := K.2.2.2.1
  refine up_ind (fun a i => ?_) (fun k a hk i ih => ?_)
  · obtain ⟨x, Mc⟩ := a
    obtain ⟨i1, i2, i3⟩ := i
    dsimp only at i1 i2 i3 ⊢
    exact bX12_twos_37 ⟨fun _ => hQ x Mc i1 i2 i3, fun z => absurd (show sd Mc 1 ≤ _ by rw [sd_eq i1 (by decide), hs]; omega) z⟩
  · obtain ⟨x, Mc⟩ := a
    obtain ⟨i1, i2, i3⟩ := i
    dsimp only at i1 i2 i3 ⊢
    have es : sd Mc = s := by rw [← hs]; exact DR4 i1 (by decide)
    have e1 : Mc 0 26 1 = s 1 := by rw [← es]; rfl
    have hk' : (k : Int) < s 1 := by omega
    have kb : (0 : Int) ≤ k ∧ (k : Int) < 24 := ⟨by omega, by omega⟩
    obtain ⟨r0, r1, -⟩ := K.way (w := (k : Int)) kb.1 hk'
    refine bX12_twos_37 ⟨fun z => absurd z (by rw [e1]; omega), fun _ => ?_⟩
    refine c12_wayOf kb.1 kb.2 (by decide) (by decide) (c12_wayOf kb.1 kb.2 (by decide) (by decide) ?_)
    rw [es]
    have a16 : 0 ≤ s (28 + 6 * (k : Int) + 0) ∧ s (28 + 6 * (k : Int) + 0) < 16 := ⟨r0.1, by omega⟩
    have b16 : 0 ≤ s (28 + 6 * (k : Int) + 1) ∧ s (28 + 6 * (k : Int) + 1) < 16 := ⟨r1.1, by omega⟩
    refine ⟨a16, b16, a16, b16, a16, fun M3 em3 => ?_⟩
    obtain ⟨f1, f2, f3⟩ := i3
    have hsp : rd s fl R (k + 1) = sp s fl (rd s fl R k) k := rfl
    have j3 : EqX [(0, 44)] Mc M3 := by rw [em3]; exact EqX.mset (by decide)
    have t3 : TR s 0 44 M3 (up1 (rd s fl R k) (s (28 + 6 * (k : Int) + 0)) (s (28 + 6 * (k : Int) + 1))) := by rw [em3]; exact TR_set i2 (rd_lt hlt k) r0 r1
    have es3 : sd M3 = s := by rw [← es]; exact DR4 j3 (by decide)
    have fin : ∀ M4 : Mem, EqX [(0, 44)] M M4 → TR s 0 44 M4 (rd s fl R (k + 1)) → CW G Kx mX12_twos (n + 1) 130 [some (vO 0), some (vI fl), some (vI x), some (vI (k : Int)), some (vI (s (28 + 6 * (k : Int) + 0))), some (vI (s (28 + 6 * (k : Int) + 1))), some (vI (Mc 0 44 (s (28 + 6 * (k : Int) + 0)).toNat)), some (vI (Mc 0 44 (s (28 + 6 * (k : Int) + 1)).toNat))] [] M4 (qI Q) := by
      intro M4 q1 q2
      rw [i2 _ r0.1 r0.2, i2 _ r1.1 r1.2]
      refine bX12_twos_130 ?_
      rw [q2 _ r0.1 r0.2, q2 _ r1.1 r1.2, wr_n hk' (by omega)]
      have go : ∀ y : Int, (y = 0 ∨ y = 1) → (y = 0 → rd s fl R (k + 1) = rd s fl R k) → (rd s fl R (k + 1) = rd s fl R k → y = 0) → CW G Kx mX12_twos (n + 1) 37 [some (vO 0), some (vI fl), some (vI (bOr x y)), some (vI ((k + 1 : Nat) : Int)), none, none, none, none] [] M4 (qI Q) := by
        intro y y1 y2 y3
        have b1 := bOr02 f1 y1
        refine ih (bOr x y, M4) ⟨q1, q2, b1.1, fun z => ?_, fun z => ?_⟩
        · obtain ⟨z1, z2⟩ := b1.2.mp z
          rw [y2 z2, f2 z1]
        · refine b1.2.mpr ⟨f3 z, y3 ?_⟩
          rw [clA_rd z (k := k + 1) (by omega), clA_rd z (k := k) (by omega)]
      refine ⟨a16, fun z => go 1 (Or.inr rfl) (fun y => absurd y (by decide)) (fun y => absurd (by rw [y]) z), fun z => ⟨b16, fun y => go 0 (Or.inl rfl) (fun _ => ?_) (fun _ => rfl), fun y => go 1 (Or.inr rfl) (fun w => absurd w (by decide)) (fun w => absurd (by rw [w]) y)⟩⟩
      exact sp_same hsp (by omega) (by omega)
    have two : ((k : Int) = fl ∨ s (28 + 6 * (k : Int) + 3) = 1) → ∀ M4 : Mem, M4 = mset M3 0 44 (s (28 + 6 * (k : Int) + 1)).toNat (bOr (M3 0 44 (s (28 + 6 * (k : Int) + 1)).toNat) (M3 0 44 (s (28 + 6 * (k : Int) + 0)).toNat)) → CW G Kx mX12_twos (n + 1) 130 [some (vO 0), some (vI fl), some (vI x), some (vI (k : Int)), some (vI (s (28 + 6 * (k : Int) + 0))), some (vI (s (28 + 6 * (k : Int) + 1))), some (vI (Mc 0 44 (s (28 + 6 * (k : Int) + 0)).toNat)), some (vI (Mc 0 44 (s (28 + 6 * (k : Int) + 1)).toNat))] [] M4 (qI Q) := by
      intro hc M4 em4
      refine fin M4 ((i1.trans j3).trans (by rw [em4]; exact EqX.mset (by decide))) ?_
      rw [hsp, em4]
      unfold sp
      rw [if_pos hc]
      exact TR_set t3 (up1_lt (rd_lt hlt k) _ _) r1 r0
    refine ⟨fun hc => ⟨b16, a16, b16, fun M4 em4 => two (Or.inl hc) M4 em4⟩, fun hc => c12_wayOf kb.1 kb.2 (by decide) (by decide) ?_⟩
    rw [es3]
    refine ⟨fun hd => fin M3 (i1.trans j3) ?_, fun hd => ⟨b16, a16, b16, fun M4 em4 => two (Or.inr hd) M4 em4⟩⟩
    rw [hsp]; unfold sp; rw [if_neg (fun z => z.elim hc hd)]; exact t3
theorem l12_ts {Kx : Kx} {Q : Int → Mem → Prop} (hs : sd M = s) (K : HOK s) (hlt : ∀ r, R r < 65536) (hT : TR s 0 44 M R) (hQ : Q (smR R (s 0).toNat) M) : ∀ (k : Nat) (_ : Unit), k ≤ (s 0).toNat → True → CW G Kx mX12_twos (n + 1) 176 [some (vO 0), none, none, some (vI (smR R k)), some (vI (k : Int)), none, none, none] [] M (qI Q) := by
  have k1 := K.2.1
  have k0 := K.1
  have e0 : M 0 26 0 = s 0 := by rw [← hs]; rfl
  refine up_ind (fun _ i => ?_) (fun k _ hk i ih => ?_)
  · refine bX12_twos_176 ?_
    rw [e0]
    exact ⟨fun _ => hQ, fun z => absurd (by omega) z⟩
  · have hk' : (k : Int) < s 0 := by omega
    refine bX12_twos_176 ?_
    rw [e0]
    refine ⟨fun z => absurd z (by omega), fun _ => ⟨⟨by omega, by omega⟩, ?_⟩⟩
    rw [hT (k : Int) (by omega) hk']
    refine c12_bits (hlt _) ?_
    rw [wr_n hk' (by omega)]
    have b := pc_le (hlt (k : Int))
    have c := smR_in hlt k
    have e : wr (smR R k + (wr ((pc (R (k : Int)) : Int) - 1))) = smR R (k + 1) := by
      rw [wrs (x := (pc (R (k : Int)) : Int) - 1) (by omega) (by omega), wrs (x := smR R k + ((pc (R (k : Int)) : Int) - 1)) (by omega) (by omega)]
      rfl
    rw [e]
    exact ih () trivial
theorem c12_twos {Q : Int → Mem → Prop} (hs : sd M = s) (K : HOK s) (h : ∀ M', EqX [(0, 44)] M M' → Q (smR (itF s fl) (s 0).toNat) M') : OkI G (n + 1) mX12_twos [vO 0, vI fl] M Q := by
  have k1 := K.2.1
  have k0 := K.1
  refine eX12_twos (fun Kx => bX12_twos_0 ?_)
  have fin : ∀ Mc : Mem, EqX [(0, 44)] M Mc → TR s 0 44 Mc (itF s fl) → CW G Kx mX12_twos (n + 1) 176 [some (vO 0), none, none, some (vI 0), some (vI 0), none, none, none] [] Mc (qI Q) := fun Mc i1 i2 =>
    l12_ts (by rw [← hs]; exact DR4 i1 (by decide)) K (itR_lt 16) i2 (h Mc i1) 0 () (by omega) trivial
  have rounds : ∀ (k : Nat) (a : Int × Mem), k ≤ 17 → (EqX [(0, 44)] M a.2 ∧ TR s 0 44 a.2 (itR s fl k) ∧ (a.1 = 0 → itR s fl k = itF s fl) ∧ (17 ≤ k → a.1 = 0)) → CW G Kx mX12_twos (n + 1) 29 [some (vO 0), some (vI fl), some (vI a.1), none, none, none, none, none] [] a.2 (qI Q) := by
    refine up_ind (fun a i => ?_) (fun k a hk i ih => ?_)
    · obtain ⟨x, Mc⟩ := a
      obtain ⟨i1, i2, i3, i4⟩ := i
      dsimp only at i1 i2 i3 i4 ⊢
      have x0 := i4 (Nat.le_refl _)
      refine bX12_twos_29 ⟨fun _ => fin Mc i1 ?_, fun z => absurd x0 z⟩
      rw [← i3 x0]; exact i2
    · obtain ⟨x, Mc⟩ := a
      obtain ⟨i1, i2, i3, -⟩ := i
      dsimp only at i1 i2 i3 ⊢
      refine bX12_twos_29 ⟨fun z => fin Mc i1 (by rw [← i3 z]; exact i2), fun z => ?_⟩
      refine l12_tw (M := Mc) (by rw [← hs]; exact DR4 i1 (by decide)) K (itR_lt k) (fun x' M' j1 j2 j3 => ?_) 0 (0, Mc) (by omega) ⟨EqX.rf, i2, Or.inl rfl, fun _ => rfl, fun _ => rfl⟩
      refine ih (x', M') ⟨i1.trans j1, j2, fun y => ?_, fun y => j3.2.2 (itR_clA K (by omega))⟩
      have e := j3.2.1 y
      show rd s fl (itR s fl k) (s 1).toNat = _
      rw [e]; exact itF_of K e
  have init : ∀ (k : Nat) (Mc : Mem), k ≤ (s 0).toNat → (EqX [(0, 44)] M Mc ∧ ∀ r : Int, 0 ≤ r → r < (k : Int) → Mc 0 44 r.toNat = ((itR s fl 0 r : Nat) : Int)) → CW G Kx mX12_twos (n + 1) 2 [some (vO 0), some (vI fl), some (vI (k : Int)), none, none, none, none, none] [] Mc (qI Q) := by
    refine up_ind (fun Mc i => ?_) (fun k Mc hk i ih => ?_)
    · have e0 : Mc 0 26 0 = s 0 := by rw [← hs]; exact sd_eq i.1 (by decide) 0
      refine bX12_twos_2 ?_
      rw [e0]
      exact ⟨fun _ => rounds 0 (1, Mc) (by omega) ⟨i.1, fun r r1 r2 => i.2 r r1 (by omega), fun z => absurd (show (1 : Int) = 0 from z) (by decide), fun z => absurd z (by decide)⟩, fun z => absurd (by omega) z⟩
    · have hk' : (k : Int) < s 0 := by omega
      have e0 : Mc 0 26 0 = s 0 := by rw [← hs]; exact sd_eq i.1 (by decide) 0
      refine bX12_twos_2 ?_
      rw [e0, wr_n hk' (by omega), bShl_nat (by omega)]
      refine ⟨fun z => absurd z (by omega), fun _ => ⟨⟨by omega, by omega⟩, fun M1 e1 => ih M1 ⟨?_, fun r r1 r2 => ?_⟩⟩⟩
      · rw [e1]; exact i.1.trans (EqX.mset (by decide))
      · by_cases e : r = (k : Int)
        · rw [e1, e, mset_self]
          show _ = (((if 0 ≤ (k : Int) ∧ (k : Int) < 16 then 2 ^ (k : Int).toNat else 0 : Nat) : Nat) : Int)
          rw [if_pos ⟨by omega, by omega⟩, Int.toNat_natCast]
        · rw [e1, mset_ne (fun z => e (by have := z.2.2; omega))]
          exact i.2 r r1 (by omega)
  exact init 0 M (by omega) ⟨EqX.rf, fun r r1 r2 => by omega⟩
/-- the flight that should be gone up, and its twos, of those below k -/
def bsU (s : Int → Int) : Nat → Int × Int
  | 0 => (-2, -2)
  | k + 1 => if s (28 + 6 * (k : Int) + 3) = 0 ∧ (bsU s k).2 < smR (itF s (k : Int)) (s 0).toNat then ((k : Int), smR (itF s (k : Int)) (s 0).toNat) else bsU s k
theorem bsU_ge : ∀ k, -2 ≤ (bsU s k).2
  | 0 => Int.le_refl _
  | k + 1 => by
    have := bsU_ge k
    unfold bsU
    split
    · rename_i c; exact Int.le_trans this (Int.le_of_lt c.2)
    · exact this
theorem c12_upward {x : Int} {P : Int → Mem → Prop} (K : HOK (sd M)) (p1 : ¬ (sd M 0 ≠ 0 ∧ 0 ≤ x ∧ x ≤ 2) → P (-1) M) (p2 : sd M 0 ≠ 0 → 0 ≤ x → x ≤ 2 → ∀ M2 : Mem, EqX [(0, 44)] M M2 → P (if x = 2 then smR (itF (sd M) (-1)) (sd M 0).toNat else if x = 0 then (bsU (sd M) (sd M 1).toNat).1 else (bsU (sd M) (sd M 1).toNat).2) M2) : OkI G (n + 2) mX12_upward [vO 0, vI x] M P := by
  have k2 := K.2.2.1
  have k3 := K.2.2.2.1
  refine eX12_upward (fun Kx => bX12_upward_0 ⟨fun a => p1 (fun z => z.1 a), fun a => c12_in (fun b c => ⟨fun _ => ⟨fun d => ?_, fun d => ?_⟩, fun z => absurd z (by decide)⟩) (fun b => ⟨fun z => absurd rfl z, fun _ => p1 (by omega)⟩)⟩)
  · have p := p2 a b c
    rw [if_neg d] at p
    have loop : ∀ (k : Nat) (Mc : Mem), k ≤ (sd M 1).toNat → EqX [(0, 44)] M Mc → CW G Kx mX12_upward (n + 2) 43 [some (vO 0), some (vI x), some (vI (bsU (sd M) k).1), some (vI (bsU (sd M) k).2), some (vI (k : Int)), none] [] Mc (qI P) := by
      refine up_ind (fun Mc i => ?_) (fun k Mc hk i ih => ?_)
      · have q := p Mc i
        refine bX12_upward_43 ⟨fun _ => ⟨fun e => ?_, fun e => ?_⟩, fun z => absurd (show sd Mc 1 ≤ _ by rw [sd_eq i (by decide)]; omega) z⟩
        · rw [if_neg e] at q; exact q
        · rw [if_pos e] at q; exact q
      · have es : sd Mc = sd M := DR4 i (by decide)
        have e1 : Mc 0 26 1 = sd M 1 := by rw [← es]; rfl
        have hk' : (k : Int) < sd M 1 := by omega
        have kb : (0 : Int) ≤ k ∧ (k : Int) < 24 := ⟨by omega, by omega⟩
        obtain ⟨-, -, -, q, -⟩ := K.way (w := (k : Int)) kb.1 hk'
        refine bX12_upward_43 ⟨fun z => absurd z (by rw [e1]; omega), fun _ => c12_wayOf kb.1 kb.2 (by decide) (by decide) ?_⟩
        rw [es, wr_n hk' (by omega)]
        have eb : bsU (sd M) (k + 1) = if sd M (28 + 6 * (k : Int) + 3) = 0 ∧ (bsU (sd M) k).2 < smR (itF (sd M) (k : Int)) (sd M 0).toNat then ((k : Int), smR (itF (sd M) (k : Int)) (sd M 0).toNat) else bsU (sd M) k := rfl
        refine ⟨fun f => c12_twos es K (fun M2 j => ⟨fun g => ?_, fun g => ?_⟩), fun f => ?_⟩
        · have := ih M2 (i.trans j)
          rw [eb, if_pos ⟨by omega, g⟩] at this; exact this
        · have := ih M2 (i.trans j)
          rw [eb, if_neg (fun z => g z.2)] at this; exact this
        · have := ih Mc i
          rw [eb, if_neg (fun z => by have := z.1; omega)] at this; exact this
    exact loop 0 M (by omega) EqX.rf
  · refine c12_twos rfl K (fun M2 j => ?_)
    have p := p2 a b c M2 j
    rw [if_pos d] at p; exact p
theorem both_upward {x : Int} {P : Int → Int → Mem → Prop} (H : HR (M 4) (sd M)) (K : HOK (sd M)) (h : ∀ r M2, EqX [(1, 14), (0, 44)] M M2 → P r r M2) : OkI G (n + 3) mX11_upward [vO 1, vI x] M (fun r1 M1 => OkI G (n + 3) mX12_upward [vO 0, vI x] M1 (fun r2 M2 => P r1 r2 M2)) := by
  have k2 := K.2.2.1
  have k3 := K.2.2.2.1
  have no : ¬ (sd M 0 ≠ 0 ∧ 0 ≤ x ∧ x ≤ 2) → OkI G (n + 3) mX12_upward [vO 0, vI x] M (fun r2 M2 => P (-1) r2 M2) := fun z => c12_upward K (fun _ => h _ M EqX.rf) (fun a b c => absurd ⟨a, b, c⟩ z)
  have e0 : M 4 0 0 = sd M 0 := H.1
  have two : sd M 0 ≠ 0 → 0 ≤ x → x ≤ 2 → ∀ M1 : Mem, EqX [(1, 14)] M M1 → ∀ v : Int, v = (if x = 2 then smR (itF (sd M) (-1)) (sd M 0).toNat else if x = 0 then (bsU (sd M) (sd M 1).toNat).1 else (bsU (sd M) (sd M 1).toNat).2) → OkI G (n + 3) mX12_upward [vO 0, vI x] M1 (fun r2 M2 => P v r2 M2) := by
    intro a b c M1 i v hv
    have es : sd M1 = sd M := DR4 i (by decide)
    refine c12_upward (by rw [es]; exact K) (fun z => absurd (by rw [es]; exact ⟨a, b, c⟩) z) (fun _ _ _ M2 j => ?_)
    rw [es, ← hv]
    exact h _ M2 ((i.sub (by decide)).trans (j.sub (by decide)))
  refine eX11_upward (fun Kx => bX11_upward_0 ?_)
  rw [e0]
  refine ⟨fun a => no (fun z => z.1 a), fun a => ⟨fun b => no (by omega), fun b => ⟨fun c => ⟨fun d => ?_, fun d => ?_⟩, fun c => no (by omega)⟩⟩⟩
  · have loop : ∀ (k : Nat) (Mc : Mem), k ≤ (sd M 1).toNat → EqX [(1, 14)] M Mc → CW G Kx mX11_upward (n + 3) 51 [some (vO 1), some (vI x), some (vO 4), some (vI (bsU (sd M) k).1), some (vI (bsU (sd M) k).2), some (vI (k : Int)), none] [] Mc (qI (fun r1 M1 => OkI G (n + 3) mX12_upward [vO 0, vI x] M1 (fun r2 M2 => P r1 r2 M2))) := by
      refine up_ind (fun Mc i => ?_) (fun k Mc hk i ih => ?_)
      · have e4 : Mc 4 = M 4 := i.obj (by decide)
        refine bX11_upward_51 ?_
        rw [e4, H.2.1]
        refine ⟨fun _ => ⟨fun e => ?_, fun e => ?_⟩, fun z => absurd (by omega) z⟩
        · exact two a (by omega) c Mc i _ (by rw [if_neg d, if_neg e])
        · exact two a (by omega) c Mc i _ (by rw [if_neg d, if_pos e])
      · have e4 : Mc 4 = M 4 := i.obj (by decide)
        have hk' : (k : Int) < sd M 1 := by omega
        have kb : (0 : Int) ≤ k ∧ (k : Int) < 24 := ⟨by omega, by omega⟩
        obtain ⟨-, -, -, q, -⟩ := K.way (w := (k : Int)) kb.1 hk'
        refine bX11_upward_51 ?_
        rw [e4, H.2.1, (H.way kb.1 hk').2.2.2.1, wr_n hk' (by omega)]
        have eb : bsU (sd M) (k + 1) = if sd M (28 + 6 * (k : Int) + 3) = 0 ∧ (bsU (sd M) k).2 < smR (itF (sd M) (k : Int)) (sd M 0).toNat then ((k : Int), smR (itF (sd M) (k : Int)) (sd M 0).toNat) else bsU (sd M) k := rfl
        refine ⟨fun z => absurd z (by omega), fun _ => ⟨fun z => absurd z (by omega), fun _ => ⟨kb, fun f => ⟨fun _ => ?_, fun g => absurd (bsU_ge k) g⟩, fun f => c1_twos rfl (by rw [e4]; exact H) K (fun M2 j => ⟨fun g => ?_, fun g => ?_⟩)⟩⟩⟩
        · have := ih Mc i
          rw [eb, if_neg (fun z => f z.1)] at this; exact this
        · have := ih M2 (i.trans j)
          rw [eb, if_neg (fun z => by have := z.2; omega)] at this; exact this
        · have := ih M2 (i.trans j)
          rw [eb, if_pos ⟨f, by omega⟩] at this; exact this
    exact loop 0 M (by omega) EqX.rf
  · exact c1_twos rfl H K (fun M2 j => two a (by omega) c M2 j _ (by rw [if_pos d]))
end TM
