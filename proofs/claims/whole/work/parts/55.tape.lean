/-! ===== the tape ===== -/
section TPE
variable {G : Gx} {n : Nat} {M : Mem}
/-- a byte of the class beside a byte of the reference -/
def bRel (c r : Int) : Prop := 0 ≤ c ∧ c ≤ 255 ∧ -128 ≤ r ∧ r ≤ 127 ∧ (c = r ∨ c = r + 256)
theorem bAnd255 {x : Int} (h : inI x) : bAnd x 255 = x % 256 := by
  show (Int32.ofInt x &&& Int32.ofInt 255).toBitVec.toInt = _
  rw [Int32.toBitVec_and]
  have e1 : (Int32.ofInt 255).toBitVec = 255#32 := rfl
  have e2 : (Int32.ofInt x).toBitVec = BitVec.ofInt 32 x := rfl
  rw [e1, e2]
  have e3 : (BitVec.ofInt 32 x &&& 255#32).toNat = (x % 256).toNat := by
    rw [BitVec.toNat_and, BitVec.toNat_ofInt, show (255#32).toNat = 2 ^ 8 - 1 from rfl, Nat.and_two_pow_sub_one_eq_mod]
    omega
  rw [bv_toInt e3 (by omega)]
  omega
theorem toB_bmod {x : Int} (h : inI x) : toB x = Int.bmod x 256 := by
  unfold toB
  rw [Int8.toInt_toInt32, Int32.toInt_toInt8, i32_id h]
theorem toB_rel {x : Int} (h : inI x) : bRel (bAnd x 255) (toB (toB x)) := by
  have e1 := toB_bmod h
  have hb : -128 ≤ Int.bmod x 256 ∧ Int.bmod x 256 ≤ 127 := by
    have a := Int.le_bmod (x := x) (m := 256) (by decide)
    have b := Int.bmod_lt (x := x) (m := 256) (by decide)
    omega
  have e2 : toB (toB x) = Int.bmod x 256 := by
    rw [e1, toB_bmod (x := Int.bmod x 256) ⟨by omega, by omega⟩]
    rw [Int.bmod_bmod]
  rw [e2, bAnd255 h]
  have : Int.bmod x 256 = x % 256 ∨ Int.bmod x 256 = x % 256 - 256 := by
    rw [Int.bmod_def]
    split
    · exact Or.inl rfl
    · exact Or.inr rfl
  unfold bRel
  omega
theorem bShr_in (x y : Int) : inI (bShr x y) := i32_in _
def apF (g : Int → Int) (f : Nat → Int) (L : Nat) (x : Int) : Nat → Int := fun i => if L ≤ i ∧ i < L + 4 then g (bShr x (24 - 8 * ((i - L : Nat) : Int))) else f i
theorem apF_rel {f f' : Nat → Int} {L : Nat} {x : Int} (h : ∀ i, i < 400 → bRel (f i) (f' i)) : ∀ i, i < 400 → bRel (apF (fun v => bAnd v 255) f L x i) (apF (fun v => toB (toB v)) f' L x i) := by
  intro i hi
  unfold apF
  by_cases c : L ≤ i ∧ i < L + 4
  · rw [if_pos c, if_pos c]; exact toB_rel (bShr_in _ _)
  · rw [if_neg c, if_neg c]; exact h i hi
theorem apF_eq {M1 M2 M3 M4 : Nat → Int} {g : Int → Int} {f : Nat → Int} {L : Nat} {x : Int} (h1 : ∀ i, M1 i = if i = L then g (bShr x 24) else f i) (h2 : ∀ i, M2 i = if i = L + 1 then g (bShr x 16) else M1 i) (h3 : ∀ i, M3 i = if i = L + 2 then g (bShr x 8) else M2 i) (h4 : ∀ i, M4 i = if i = L + 3 then g (bShr x 0) else M3 i) : M4 = apF g f L x := by
  funext i
  rw [h4, h3, h2, h1]
  unfold apF
  by_cases c : L ≤ i ∧ i < L + 4
  · rw [if_pos c]
    by_cases c3 : i = L + 3
    · rw [if_pos c3, show (24 - 8 * ((i - L : Nat) : Int)) = 0 by omega]
    · rw [if_neg c3]
      by_cases c2 : i = L + 2
      · rw [if_pos c2, show (24 - 8 * ((i - L : Nat) : Int)) = 8 by omega]
      · rw [if_neg c2]
        by_cases c1 : i = L + 1
        · rw [if_pos c1, show (24 - 8 * ((i - L : Nat) : Int)) = 16 by omega]
        · rw [if_neg c1, if_pos (by omega), show (24 - 8 * ((i - L : Nat) : Int)) = 24 by omega]
  · rw [if_neg c, if_neg (by omega), if_neg (by omega), if_neg (by omega), if_neg (by omega)]
theorem mset_fn {M : Mem} {o k j : Nat} {x : Int} (i : Nat) : mset M o k j x o k i = if i = j then x else M o k i := by
  by_cases e : i = j
  · rw [if_pos e, e, mset_self]
  · rw [if_neg e, mset_ne (fun z => e z.2.2)]
theorem c9_append {Q : Mem → Prop} {x : Int} {L : Nat} (hL : M 2 1 0 = (L : Int)) (hb : L + 4 ≤ 400) (h : ∀ M' : Mem, EqX [(2, 0), (2, 1)] M M' → M' 2 1 0 = ((L + 4 : Nat) : Int) → M' 2 0 = apF (fun v => bAnd v 255) (M 2 0) L x → Q M') : OkV G n mX9_append [vO 2, vI x] M Q := by
  have one : ∀ {K : Kx} (L : Nat) (y : Int) (M : Mem) (Q : Mem → Prop), M 2 1 0 = (L : Int) → L < 400 → ¬ y < 0 → (∀ M1 M2 : Mem, M1 = mset M 2 0 L (bAnd (bShr x y) 255) → M2 = mset M1 2 1 0 ((L + 1 : Nat) : Int) → CW G K mX9_append n 3 [some (vO 2), some (vI x), some (vI (wr (y + (-8))))] [] M2 (qV Q)) → CW G K mX9_append n 3 [some (vO 2), some (vI x), some (vI y)] [] M (qV Q) := by
    intro K L y M Q hL hl hy hk
    refine bX9_append_3 ⟨fun z => absurd z hy, fun _ => ?_⟩
    rw [hL]
    refine ⟨fun z => absurd z (by omega), fun _ => ⟨⟨by omega, by omega⟩, fun M1 e1 M2 e2 => ?_⟩⟩
    rw [Int.toNat_natCast] at e1
    have : M1 2 1 0 = (L : Int) := by rw [e1, mset_ne (by simp)]; exact hL
    rw [this, wr_n (b := 400) (k := L) (by omega) (by omega)] at e2
    exact hk M1 M2 e1 e2
  refine eX9_append (fun K => bX9_append_0 ?_)
  refine one L 24 M Q hL (by omega) (by decide) (fun A1 B1 a1 b1 => ?_)
  rw [show wr (24 + (-8)) = 16 from rfl]
  refine one (L + 1) 16 B1 Q (by rw [b1, mset_self]) (by omega) (by decide) (fun A2 B2 a2 b2 => ?_)
  rw [show wr (16 + (-8)) = 8 from rfl]
  refine one (L + 2) 8 B2 Q (by rw [b2, mset_self]) (by omega) (by decide) (fun A3 B3 a3 b3 => ?_)
  rw [show wr (8 + (-8)) = 0 from rfl]
  refine one (L + 3) 0 B3 Q (by rw [b3, mset_self]) (by omega) (by decide) (fun A4 B4 a4 b4 => ?_)
  rw [show wr (0 + (-8)) = -8 from rfl]
  refine bX9_append_3 ⟨fun _ => h B4 ?_ (by rw [b4, mset_self]) ?_, fun z => absurd (by decide) z⟩
  · rw [b4, a4, b3, a3, b2, a2, b1, a1]
    exact (((((((EqX.mset (by decide)).trans (EqX.mset (by decide))).trans (EqX.mset (by decide))).trans (EqX.mset (by decide))).trans (EqX.mset (by decide))).trans (EqX.mset (by decide))).trans (EqX.mset (by decide))).trans (EqX.mset (by decide))
  · refine apF_eq (M1 := B1 2 0) (M2 := B2 2 0) (M3 := B3 2 0) (fun i => ?_) (fun i => ?_) (fun i => ?_) (fun i => ?_)
    · rw [b1, mset_ne (by simp), a1, mset_fn]
    · rw [b2, mset_ne (by simp), a2, mset_fn]
    · rw [b3, mset_ne (by simp), a3, mset_fn]
    · rw [b4, mset_ne (by simp), a4, mset_fn]
theorem c12_four {Q : Mem → Prop} {x : Int} {L : Nat} (hL : M 0 1 0 = (L : Int)) (hb : L + 4 ≤ 400) (h : ∀ M' : Mem, EqX [(0, 0), (0, 1)] M M' → M' 0 1 0 = ((L + 4 : Nat) : Int) → M' 0 0 = apF (fun v => toB (toB v)) (M 0 0) L x → Q M') : OkV G n mX12_four [vO 0, vI x] M Q := by
  have one : ∀ {K : Kx} (L : Nat) (y : Int) (M : Mem) (Q : Mem → Prop), M 0 1 0 = (L : Int) → L < 400 → ¬ y < 0 → (∀ M1 M2 : Mem, M1 = mset M 0 0 L (toB (toB (bShr x y))) → M2 = mset M1 0 1 0 ((L + 1 : Nat) : Int) → CW G K mX12_four n 3 [some (vO 0), some (vI x), some (vI (wr (y + (-8))))] [] M2 (qV Q)) → CW G K mX12_four n 3 [some (vO 0), some (vI x), some (vI y)] [] M (qV Q) := by
    intro K L y M Q hL hl hy hk
    refine bX12_four_3 ⟨fun z => absurd z hy, fun _ => ?_⟩
    rw [hL]
    refine ⟨⟨by omega, by omega⟩, fun M1 e1 M2 e2 => ?_⟩
    rw [Int.toNat_natCast] at e1
    have : M1 0 1 0 = (L : Int) := by rw [e1, mset_ne (by simp)]; exact hL
    rw [this, wr_n (b := 400) (k := L) (by omega) (by omega)] at e2
    exact hk M1 M2 e1 e2
  refine eX12_four (fun K => bX12_four_0 ?_)
  refine one L 24 M Q hL (by omega) (by decide) (fun A1 B1 a1 b1 => ?_)
  rw [show wr (24 + (-8)) = 16 from rfl]
  refine one (L + 1) 16 B1 Q (by rw [b1, mset_self]) (by omega) (by decide) (fun A2 B2 a2 b2 => ?_)
  rw [show wr (16 + (-8)) = 8 from rfl]
  refine one (L + 2) 8 B2 Q (by rw [b2, mset_self]) (by omega) (by decide) (fun A3 B3 a3 b3 => ?_)
  rw [show wr (8 + (-8)) = 0 from rfl]
  refine one (L + 3) 0 B3 Q (by rw [b3, mset_self]) (by omega) (by decide) (fun A4 B4 a4 b4 => ?_)
  rw [show wr (0 + (-8)) = -8 from rfl]
  refine bX12_four_3 ⟨fun _ => h B4 ?_ (by rw [b4, mset_self]) ?_, fun z => absurd (by decide) z⟩
  · rw [b4, a4, b3, a3, b2, a2, b1, a1]
    exact (((((((EqX.mset (by decide)).trans (EqX.mset (by decide))).trans (EqX.mset (by decide))).trans (EqX.mset (by decide))).trans (EqX.mset (by decide))).trans (EqX.mset (by decide))).trans (EqX.mset (by decide))).trans (EqX.mset (by decide))
  · refine apF_eq (M1 := B1 0 0) (M2 := B2 0 0) (M3 := B3 0 0) (fun i => ?_) (fun i => ?_) (fun i => ?_) (fun i => ?_)
    · rw [b1, mset_ne (by simp), a1, mset_fn]
    · rw [b2, mset_ne (by simp), a2, mset_fn]
    · rw [b3, mset_ne (by simp), a3, mset_fn]
    · rw [b4, mset_ne (by simp), a4, mset_fn]
/-- the two tapes -/
def TpR (M : Mem) : Prop := M 2 1 0 = M 0 1 0 ∧ 0 ≤ M 0 1 0 ∧ M 0 1 0 ≤ 400 ∧ ∀ i, i < 400 → bRel (M 2 0 i) (M 0 0 i)
theorem both_feed {x1 x2 x3 x4 x5 : Int} {P : Int → Int → Mem → Prop} (T : TpR M) (h : ∀ r M2, EqX [(2, 0), (2, 1), (0, 0), (0, 1)] M M2 → TpR M2 → P r r M2) : OkI G (n + 1) mX11_feed [vO 1, vI x1, vI x2, vI x3, vI x4, vI x5] M (fun r1 M1 => OkI G (n + 1) mX12_feed [vO 0, vI x1, vI x2, vI x3, vI x4, vI x5] M1 (fun r2 M2 => P r1 r2 M2)) := by
  obtain ⟨t1, t2, t3, t4⟩ := T
  refine eX11_feed (fun K => bX11_feed_0 ?_)
  rw [t1, wrs (x := M 0 1 0 + 20) (by omega) (by omega)]
  refine ⟨fun z => ?_, fun z => eX12_feed (fun K => bX12_feed_0 ?_)⟩
  · obtain ⟨L, hL⟩ : ∃ L : Nat, M 0 1 0 = (L : Int) := ⟨(M 0 1 0).toNat, by omega⟩
    rw [hL] at t1 z
    refine c9_append t1 (by omega) (fun A1 a1 a2 a3 => c9_append a2 (by omega) (fun A2 b1 b2 b3 => c9_append b2 (by omega) (fun A3 c1 c2 c3 => c9_append c2 (by omega) (fun A4 d1 d2 d3 => c9_append d2 (by omega) (fun A5 e1 e2 e3 => ?_)))))
    have hE : EqX [(2, 0), (2, 1)] M A5 := (((a1.trans b1).trans c1).trans d1).trans e1
    have hl : A5 0 1 0 = (L : Int) := by rw [hE 0 1 0 (by decide)]; exact hL
    rw [e2]
    refine eX12_feed (fun K => bX12_feed_0 ?_)
    rw [hl, wrs (x := (L : Int) + 20) (by omega) (by omega)]
    refine ⟨fun _ => ?_, fun y => absurd z y⟩
    refine c12_four hl (by omega) (fun B1 f1 f2 f3 => c12_four f2 (by omega) (fun B2 g1 g2 g3 => c12_four g2 (by omega) (fun B3 i1 i2 i3 => c12_four i2 (by omega) (fun B4 j1 j2 j3 => c12_four j2 (by omega) (fun B5 k1 k2 k3 => ?_)))))
    have hE2 : EqX [(0, 0), (0, 1)] A5 B5 := (((f1.trans g1).trans i1).trans j1).trans k1
    rw [k2]
    refine h _ B5 ((hE.sub (by decide)).trans (hE2.sub (by decide))) ⟨?_, by omega, by omega, ?_⟩
    · rw [hE2 2 1 0 (by decide), e2, k2]
    · have q2 : B5 2 0 = A5 2 0 := hE2.fld (by decide)
      have q0 : A5 0 0 = M 0 0 := hE.fld (by decide)
      rw [q2, e3, d3, c3, b3, a3, k3, j3, i3, g3, f3, q0]
      exact apF_rel (apF_rel (apF_rel (apF_rel (apF_rel t4))))
  · rw [wrs (x := M 0 1 0 + 20) (by omega) (by omega)]
    exact ⟨fun y => absurd y z, fun _ => h _ M EqX.rf ⟨t1, t2, t3, t4⟩⟩
theorem both_end {x1 : Int} {P : Int → Int → Mem → Prop} (T : TpR M) (h : ∀ r M2, EqX [(2, 1), (0, 1)] M M2 → TpR M2 → P r r M2) : OkI G n mX11_end [vO 1, vI x1] M (fun r1 M1 => OkI G n mX12_end [vO 0, vI x1] M1 (fun r2 M2 => P r1 r2 M2)) := by
  have T' := T
  obtain ⟨t1, t2, t3, t4⟩ := T
  refine eX11_end (fun K => bX11_end_0 ⟨fun z => eX12_end (fun K => bX12_end_0 ⟨fun _ => h _ M EqX.rf T', fun y => absurd z y⟩), fun z => ?_⟩)
  rw [t1]
  refine ⟨fun y M1 e1 => eX12_end (fun K => bX12_end_0 ⟨fun w => absurd w z, fun _ => ?_⟩), fun y => eX12_end (fun K => bX12_end_0 ⟨fun w => absurd w z, fun _ => ⟨fun w => absurd w y, fun _ => h _ M EqX.rf T'⟩⟩)⟩
  have : M1 0 1 0 = M 0 1 0 := by rw [e1, mset_ne (by simp)]
  rw [this]
  refine ⟨fun _ M2 e2 => h _ M2 ?_ ⟨?_, ?_, ?_, fun i hi => ?_⟩, fun w => absurd y w⟩
  · rw [e2, e1]; exact (EqX.mset (by decide)).trans (EqX.mset (by decide))
  · rw [e2, mset_ne (by simp), e1, mset_self, mset_self]
  · rw [e2, mset_self]; omega
  · rw [e2, mset_self]; omega
  · rw [e2, mset_ne (by simp), mset_ne (by simp), e1, mset_ne (by simp), mset_ne (by simp)]; exact t4 i hi
end TPE
