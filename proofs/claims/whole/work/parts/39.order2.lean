/-! ===== shops put in order: both sides ===== -/
section ORC
variable {G : Gx} {n : Nat} {M : Mem} {s : Int → Int} {m : Nat}
theorem k_below {n A t : Nat} (hn : n < 7) (hA : A < 64) (ht : t < 6) : bAnd (bShr (bAnd (((2 ^ n - 1 : Nat)) : Int) (bXor (A : Int) (-1))) (t : Int)) 1 = 1 ↔ bel n A (t : Int) = true := by
  have : ∀ n : Nat, n < 7 → ∀ A : Nat, A < 64 → ∀ t : Nat, t < 6 → (bAnd (bShr (bAnd (((2 ^ n - 1 : Nat)) : Int) (bXor (A : Int) (-1))) (t : Int)) 1 = 1 ↔ bel n A (t : Int) = true) := by decide +kernel
  exact this n hn A hA t ht
theorem k_bit {A k : Nat} (hA : A < 64) (hk : k < 6) : bAnd (bShr (A : Int) (k : Int)) 1 = 0 ↔ A.testBit k = false := by
  have : ∀ A : Nat, A < 64 → ∀ k : Nat, k < 6 → (bAnd (bShr (A : Int) (k : Int)) 1 = 0 ↔ A.testBit k = false) := by decide +kernel
  exact this A hA k hk
theorem k_all {n : Nat} (hn : n < 7) : wr (bShl 1 (n : Int) - 1) = ((2 ^ n - 1 : Nat) : Int) := by
  have : ∀ n : Nat, n < 7 → wr (bShl 1 (n : Int) - 1) = ((2 ^ n - 1 : Nat) : Int) := by decide +kernel
  exact this n hn
theorem k_ad {A a : Nat} (hA : A < 64) (ha : a < 6) : bOr (A : Int) (bShl 1 (a : Int)) = ((ad A a : Nat) : Int) := by
  rw [bShl_nat (by omega), bOr_nat (by omega) (by have := Nat.pow_lt_pow_right (a := 2) (by decide) ha; omega)]; rfl
theorem LOK.cOK (LO : LOK s) : cOK s := LO.2.2.2.2.2.2.2.2
theorem LR.cus {f : Nat → Nat → Int} (L : LR f s) {c : Int} (h1 : 0 ≤ c) (h2 : c < s 10) : f 14 c.toNat = s (308 + 2 * c) ∧ f 15 c.toNat = s (308 + 2 * c + 1) := L.2.2.2.2.2.2.2.2 c h1 h2
theorem c3_cus {Q : Int → Mem → Prop} {A a : Nat} (L : LR (M 6) s) (LO : LOK s) (hm : m < 7) (hA : A < 64) (h : Q (cf s m A a) M) : OkI G n mX3_customersFrom [vO 6, vI (a : Int), vI (bAnd (((2 ^ m - 1 : Nat)) : Int) (bXor (A : Int) (-1)))] M Q := by
  have h10 := LO.2.2.2.1
  have e4 : M 6 4 0 = s 10 := L.2.2.2.2.1
  refine eX3_customersFrom (fun K => bX3_customersFrom_0 ?_)
  have loop : ∀ (k : Nat) (_ : Unit), k ≤ (s 10).toNat → True → CW G K mX3_customersFrom n 5 [some (vO 6), some (vI (a : Int)), some (vI (bAnd (((2 ^ m - 1 : Nat)) : Int) (bXor (A : Int) (-1)))), some (vI (cb (fun c => decide (s (308 + 2 * c) = (a : Int)) && bel m A (s (308 + 2 * c + 1))) k)), some (vI (k : Int))] [] M (qI Q) := by
    refine up_ind (fun _ _ => ?_) (fun k _ hk _ ih => ?_)
    · refine bX3_customersFrom_5 rfl ?_
      rw [e4]
      exact ⟨fun _ => h, fun z => absurd (by omega) z⟩
    · have hk' : (k : Int) < s 10 := by omega
      have kb : (0 : Int) ≤ k ∧ (k : Int) < 10 := ⟨by omega, by omega⟩
      have ih' := ih () trivial
      obtain ⟨c1, c2⟩ := L.cus kb.1 hk'
      obtain ⟨d1, d2, d3⟩ := LO.cOK (k : Int) kb.1 hk'
      have hr := cb_rng (f := fun c => decide (s (308 + 2 * c) = (a : Int)) && bel m A (s (308 + 2 * c + 1))) k
      have hb := k_below (n := m) (A := A) (t := (s (308 + 2 * (k : Int) + 1)).toNat) hm hA (by omega)
      rw [Int.toNat_of_nonneg d2.1] at hb
      unfold cb at ih'
      refine bX3_customersFrom_5 rfl ?_
      rw [e4, c1, c2, wr_n hk' (by omega)]
      generalize cb (fun c => decide (s (308 + 2 * c) = (a : Int)) && bel m A (s (308 + 2 * c + 1))) k = v at *
      refine ⟨fun z => absurd z (by omega), fun _ => ⟨fun z => absurd z (by omega), fun _ => ⟨kb, fun z => ?_, fun z => ⟨kb, fun y => ?_, fun y => ?_⟩⟩⟩⟩
      · rw [if_neg (by rw [decide_eq_false z]; simp), Int.add_zero] at ih'; exact ih'
      · rw [if_neg (by rw [decide_eq_true z]; simp only [Bool.true_and]; exact fun w => y (hb.mpr w)), Int.add_zero] at ih'; exact ih'
      · rw [if_pos (by rw [decide_eq_true z, hb.mp y]; rfl)] at ih'
        rw [wrs (x := v + 1) (by omega) (by omega)]; exact ih'
  exact loop 0 () (by omega) trivial
theorem c11_gdw {Q : Int → Mem → Prop} {A a : Nat} (L : LR (M 6) s) (LO : LOK s) (hm : m < 7) (hA : A < 2 ^ m) (ha : a < m) (hT : 0 ≤ M 1 16 (ad A a) ∧ M 1 16 (ad A a) ≤ 1000) (h : Q (vS s m (M 1 16) A a) M) : OkI G (n + 1) mX11_goDownWith [vO 1, vI (((2 ^ m - 1 : Nat)) : Int), vI (A : Int), vI (a : Int)] M Q := by
  have h64 := p2_64 hm
  have had := ad_lt (n := m) hA ha
  have h10 := LO.2.2.2.1
  refine eX11_goDownWith (fun K => bX11_goDownWith_0 ?_)
  rw [k_ad (by omega) (by omega), Int.toNat_natCast]
  refine ⟨fun z => by omega, fun _ => ⟨fun z => by omega, fun _ => ⟨⟨by omega, by omega⟩, ?_⟩⟩⟩
  refine c3_cus L LO hm (by omega) ?_
  have hc := cf_nn (s := s) (n := m) (A := ad A a) (a := a)
  unfold vS at h
  rw [wrs (x := M 1 16 (ad A a) + cf s m (ad A a) a) (by omega) (by omega)]
  exact h
theorem mxs_congr {T T' : Nat → Int} {A : Nat} : ∀ k, (∀ j, j < k → A.testBit j = false → T' (ad A j) = T (ad A j)) → mxs s m T' A k = mxs s m T A k
  | 0, _ => rfl
  | k + 1, h => by
    have ih := mxs_congr k (fun j j1 j2 => h j (by omega) j2)
    unfold mxs
    rw [ih]
    by_cases e : A.testBit k = true
    · rw [if_pos e, if_pos e]
    · rw [if_neg e, if_neg e]
      have : vS s m T' A k = vS s m T A k := by unfold vS; rw [h k (by omega) (by simpa using e)]
      rw [this]
theorem ad_gt {A a : Nat} (h : A.testBit a = false) : A < ad A a := by
  have h1 : A ≤ ad A a := Nat.left_le_or
  have h2 : A ≠ ad A a := fun z => by
    have := ad_self (A := A) (a := a)
    rw [← z, h] at this; cases this
  omega
theorem mxs_on {T : Nat → Int} {A k : Nat} (h : A.testBit k = true) : mxs s m T A (k + 1) = mxs s m T A k := if_pos h
theorem mxs_off {T : Nat → Int} {A k : Nat} (h : A.testBit k = false) : mxs s m T A (k + 1) = if mxs s m T A k < vS s m T A k then vS s m T A k else mxs s m T A k := if_neg (by rw [h]; decide)
def tB (s : Int → Int) (m : Nat) (T : Nat → Int) (A : Nat) : Prop := T A = mxs s m T A m ∧ 0 ≤ T A ∧ T A ≤ 10 * (6 - (p6 A : Int)) ∧ p6 A ≤ 6
theorem p6_le {A : Nat} (h : A < 64) : p6 A ≤ 6 := by
  have : ∀ A, A < 64 → p6 A ≤ 6 := by decide +kernel
  exact this A h
theorem c11_weigh {Q : Mem → Prop} (L : LR (M 6) s) (LO : LOK s) (hm : m < 7) (h1 : 1 ≤ m) (h : ∀ M' : Mem, EqX [(1, 16)] M M' → (∀ A, A < 2 ^ m → tB s m (M' 1 16) A) → Q M') : OkV G (n + 2) mX11_weighOrders [vO 1, vI (m : Int)] M Q := by
  have h64 := p2_64 hm
  have hp : 0 < 2 ^ m := Nat.pow_pos (by decide)
  have h10 := LO.2.2.2.1
  refine eX11_weighOrders (fun K => bX11_weighOrders_0 ?_)
  rw [k_all hm]
  have e0 : (if wr (64 - 1) < ((2 ^ m - 1 : Nat) : Int) then wr (64 - 1) else ((2 ^ m - 1 : Nat) : Int)) = ((2 ^ m : Nat) : Int) - 1 := by
    rw [if_neg (by rw [show wr (64 - 1) = 63 from rfl]; omega)]; omega
  rw [e0]
  have loop : ∀ (f : Nat) (Mc : Mem), f ≤ 2 ^ m → EqX [(1, 16)] M Mc → (∀ A, f ≤ A → A < 2 ^ m → tB s m (Mc 1 16) A) → CW G K mX11_weighOrders (n + 2) 18 [some (vO 1), some (vI (m : Int)), some (vI ((2 ^ m - 1 : Nat) : Int)), some (vI ((f : Int) - 1)), none] [] Mc (qV Q) := by
    intro f
    induction f with
    | zero =>
      intro Mc _ i1 i2
      refine bX11_weighOrders_18 ⟨fun _ => h Mc i1 (fun A hA => i2 A (by omega) hA), fun z => absurd (by omega) z⟩
    | succ f ih =>
      intro Mc hf i1 i2
      rw [show (((f + 1 : Nat) : Int) - 1) = (f : Int) by omega]
      refine bX11_weighOrders_18 ⟨fun z => absurd z (by omega), fun _ => ⟨⟨by omega, by omega⟩, fun M1 em => ?_⟩⟩
      rw [Int.toNat_natCast] at em
      have inner : ∀ (k : Nat) (M2 : Mem), k ≤ m → (EqX [(1, 16)] M M2 ∧ (∀ A, f < A → M2 1 16 A = Mc 1 16 A) ∧ M2 1 16 f = mxs s m (Mc 1 16) f k ∧ mxs s m (Mc 1 16) f k ≤ 10 * (6 - (p6 f : Int))) → CW G K mX11_weighOrders (n + 2) 32 [some (vO 1), some (vI (m : Int)), some (vI ((2 ^ m - 1 : Nat) : Int)), some (vI (f : Int)), some (vI (k : Int))] [] M2 (qV Q) := by
        refine up_ind (fun M2 i => ?_) (fun k M2 hk i ihk => ?_)
        · obtain ⟨j1, j2, j3, j4⟩ := i
          refine bX11_weighOrders_32 ⟨fun _ => ?_, fun z => absurd (Int.le_refl _) z⟩
          rw [show wr ((f : Int) + -1) = (f : Int) - 1 from wrs (by omega) (by omega)]
          refine ih M2 (by omega) j1 (fun A a1 a2 => ?_)
          have cg : ∀ A, f ≤ A → mxs s m (M2 1 16) A m = mxs s m (Mc 1 16) A m := fun A hA => mxs_congr m (fun j q1 q2 => j2 _ (by have := ad_gt q2; omega))
          unfold tB
          rw [cg A a1]
          by_cases e : A = f
          · subst e
            rw [j3]
            exact ⟨rfl, mxs_nn m, j4, p6_le (by omega)⟩
          · rw [j2 A (by omega)]
            exact i2 A (by omega) a2
        · obtain ⟨j1, j2, j3, j4⟩ := i
          have e6 : M2 6 = M 6 := j1.obj (by decide)
          refine bX11_weighOrders_32 ⟨fun z => absurd z (by omega), fun _ => ?_⟩
          rw [wr_n (b := 7) (k := k) (by omega) (by omega)]
          refine ⟨fun z => ?_, fun z => ⟨⟨by omega, by omega⟩, ?_⟩⟩
          · have hb : f.testBit k = true := by
              cases hb : f.testBit k
              · exact absurd ((k_bit (by omega) (by omega)).mpr hb) z
              · rfl
            refine ihk M2 ⟨j1, j2, ?_, ?_⟩
            · rw [mxs_on hb]; exact j3
            · rw [mxs_on hb]; exact j4
          · have hb := (k_bit (A := f) (k := k) (by omega) (by omega)).mp z
            have hg := ad_gt hb
            have hl := ad_lt (n := m) (A := f) (a := k) (by omega) hk
            have t1 := i2 (ad f k) (by omega) hl
            have hpa := p6_ad (A := f) (a := k) (by omega) (by omega)
            rw [hb, if_neg (by decide)] at hpa
            unfold tB at t1
            have hcf := cf_nn (s := s) (n := m) (A := ad f k) (a := k)
            have hnn := mxs_nn (s := s) (n := m) (T := Mc 1 16) (A := f) k
            refine c11_gdw (by rw [e6]; exact L) LO hm (by omega) hk (by rw [j2 _ hg]; omega) ?_
            have ev : vS s m (M2 1 16) f k = vS s m (Mc 1 16) f k := by unfold vS; rw [j2 _ hg]
            rw [ev, Int.toNat_natCast, j3]
            refine ⟨⟨by omega, by omega⟩, fun M3 em3 => ihk M3 ⟨?_, fun A hA => ?_, ?_, ?_⟩⟩
            · rw [em3]; exact j1.trans (EqX.mset (by decide))
            · rw [em3, mset_ne (fun w => by have := w.2.2; omega)]; exact j2 A hA
            · rw [em3, mset_self, mxs_off hb]
            · rw [mxs_off hb]
              split
              · unfold vS; omega
              · exact j4
      refine inner 0 M1 (by omega) ⟨?_, fun A hA => ?_, ?_, ?_⟩
      · rw [em]; exact i1.trans (EqX.mset (by decide))
      · rw [em, mset_ne (fun w => by have := w.2.2; omega)]
      · rw [em, mset_self]; rfl
      · have := p6_le (A := f) (by omega)
        show (0 : Int) ≤ _
        omega
  exact loop (2 ^ m) M (Nat.le_refl _) EqX.rf (fun A a1 a2 => by omega)
theorem c11_next {Q : Int → Mem → Prop} {A a : Nat} (L : LR (M 6) s) (LO : LOK s) (hm : m < 7) (hA : A < 2 ^ m) (hT : ∀ A, A < 2 ^ m → tB s m (M 1 16) A) (ha : isNs s m (M 1 16) A a) (h : Q (a : Int) M) : OkI G (n + 2) mX11_nextShop [vO 1, vI (m : Int), vI (A : Int)] M Q := by
  have h64 := p2_64 hm
  obtain ⟨a1, a2, a3, a4⟩ := ha
  refine eX11_nextShop (fun K => bX11_nextShop_0 ⟨fun z => by omega, fun _ => ⟨fun _ => ?_, fun z => absurd (by omega) z⟩⟩)
  rw [k_all hm]
  have gdw : ∀ (k : Nat) {Q : Int → Mem → Prop}, k < m → A.testBit k = false → Q (vS s m (M 1 16) A k) M → OkI G (n + 1) mX11_goDownWith [vO 1, vI (((2 ^ m - 1 : Nat)) : Int), vI (A : Int), vI (k : Int)] M Q := by
    intro k Q hk hb hQ
    have t1 := hT (ad A k) (ad_lt hA hk)
    unfold tB at t1
    exact c11_gdw L LO hm hA hk (by omega) hQ
  have loop : ∀ (k : Nat) (_ : Unit), k ≤ a → True → CW G K mX11_nextShop (n + 2) 24 [some (vO 1), some (vI (m : Int)), some (vI (A : Int)), some (vI (((2 ^ m - 1 : Nat)) : Int)), some (vI (k : Int))] [] M (qI Q) := by
    refine up_ind (fun _ _ => ?_) (fun k _ hk _ ih => ?_)
    · refine bX11_nextShop_24 ⟨fun z => absurd z (by omega), fun _ => ⟨fun z => absurd ((k_bit (by omega) (by omega)).mpr a2) z, fun _ => ?_⟩⟩
      refine gdw a a1 a2 ⟨⟨by omega, by omega⟩, fun z => ?_, fun _ => h⟩
      rw [Int.toNat_natCast] at z
      exact absurd a3 z
    · have ih' := ih () trivial
      refine bX11_nextShop_24 ⟨fun z => absurd z (by omega), fun _ => ?_⟩
      rw [wr_n (b := 7) (k := k) (by omega) (by omega)]
      refine ⟨fun z => ih', fun z => ?_⟩
      have hb := (k_bit (A := A) (k := k) (by omega) (by omega)).mp z
      refine gdw k (by omega) hb ⟨⟨by omega, by omega⟩, fun _ => ih', fun z => ?_⟩
      rw [Int.toNat_natCast] at z
      exact absurd z (a4 k hk hb)
  exact loop 0 () (by omega) trivial
/-! the reference -/
theorem c12_isOrder {Q : Int → Mem → Prop} {x : Nat} (hm : m < 7) (h1 : 1 ≤ m) (hx : x < 1000000) (h : ∀ M' : Mem, EqX [(0, 42)] M M' → (∀ k, k < m → M' 0 42 k = ((x / m ^ (m - 1 - k) % m : Nat) : Int)) → (st m x m = 2 ^ m - 1 → Q 1 M') ∧ (st m x m ≠ 2 ^ m - 1 → Q 0 M')) : OkI G n mX12_isOrder [vO 0, vI (x : Int), vI (m : Int)] M Q := by
  have h64 := p2_64 hm
  refine eX12_isOrder (fun K => bX12_isOrder_0 ?_)
  have hst : ∀ k, st m x k < 2 ^ m := by
    intro k
    induction k with
    | zero => exact Nat.pow_pos (by decide)
    | succ k ih => exact ad_lt ih (Nat.mod_lt _ (by omega))
  have loop : ∀ (k : Nat) (Mc : Mem), k ≤ m → (EqX [(0, 42)] M Mc ∧ ∀ j, j < m → m - 1 - j < k → Mc 0 42 j = ((x / m ^ (m - 1 - j) % m : Nat) : Int)) → CW G K mX12_isOrder n 10 [some (vO 0), none, some (vI (m : Int)), some (vI ((x / m ^ k : Nat) : Int)), some (vI ((st m x k : Nat) : Int)), some (vI ((m : Int) - 1 - (k : Int)))] [] Mc (qI Q) := by
    refine up_ind (fun Mc i => ?_) (fun k Mc hk i ih => ?_)
    · obtain ⟨q1, q2⟩ := h Mc i.1 (fun k hk => i.2 k hk (by omega))
      refine bX12_isOrder_10 ⟨fun _ => ?_, fun z => absurd (by omega) z⟩
      rw [k_all hm]
      exact ⟨fun z => q2 (fun w => z (by rw [w])), fun z => q1 (by omega)⟩
    · refine bX12_isOrder_10 ⟨fun z => absurd z (by omega), fun _ => ⟨by omega, ⟨by omega, by omega⟩, fun M1 em => ⟨by omega, ⟨by omega, by omega⟩, ?_⟩⟩⟩
      have hxk : x / m ^ k ≤ x := Nat.div_le_self _ _
      have hmod : x / m ^ k % m < m := Nat.mod_lt _ (by omega)
      have hdiv : x / m ^ k / m ≤ x / m ^ k := Nat.div_le_self _ _
      have aux : ∀ d : Nat, d ≤ x → wr (d : Int) = (d : Int) := fun d hd => wrs (by omega) (by omega)
      have e1 : wr (Int.tmod ((x / m ^ k : Nat) : Int) (m : Int)) = ((x / m ^ k % m : Nat) : Int) := by
        rw [show Int.tmod ((x / m ^ k : Nat) : Int) (m : Int) = ((x / m ^ k % m : Nat) : Int) from rfl]
        exact wrs (by omega) (by omega)
      have e2 : wr (Int.tdiv ((x / m ^ k : Nat) : Int) (m : Int)) = ((x / m ^ (k + 1) : Nat) : Int) := by
        rw [show Int.tdiv ((x / m ^ k : Nat) : Int) (m : Int) = ((x / m ^ k / m : Nat) : Int) from rfl, Nat.pow_succ, ← Nat.div_div_eq_div_mul]
        exact aux _ (Nat.le_trans hdiv hxk)
      have ek : ((m : Int) - 1 - (k : Int)).toNat = m - 1 - k := by omega
      rw [e1, ek] at em
      have e3 : M1 0 42 (m - 1 - k) = ((x / m ^ k % m : Nat) : Int) := by rw [em, mset_self]
      have e4 : wr ((m : Int) - 1 - (k : Int) + -1) = (m : Int) - 1 - ((k + 1 : Nat) : Int) := by
        rw [show (m : Int) - 1 - (k : Int) + -1 = (m : Int) - 1 - ((k + 1 : Nat) : Int) by omega]
        exact wrs (by omega) (by omega)
      have hsk := hst k
      rw [e2, ek, e3, e4, k_ad (by omega) (by omega)]
      clear e1 e2 e4
      refine ih M1 ⟨?_, fun j j1 j2 => ?_⟩
      · rw [em]; exact i.1.trans (EqX.mset (by decide))
      · by_cases e : j = m - 1 - k
        · rw [e, e3]
          have : m - 1 - (m - 1 - k) = k := by omega
          rw [this]
        · rw [em, mset_ne (fun w => e w.2.2)]
          exact i.2 j j1 (by omega)
  have g := loop 0 M (by omega) ⟨EqX.rf, fun j j1 j2 => by omega⟩
  rw [Nat.pow_zero, Nat.div_one, show ((m : Int) - 1 - ((0 : Nat) : Int)) = (m : Int) - 1 by omega] at g
  rw [show wr ((m : Int) - 1) = (m : Int) - 1 from wrs (by omega) (by omega)]
  exact g
theorem getD_Dg {n x : Nat} : ∀ (m k : Nat), k < m → (Dg n m x).getD k 0 = x / n ^ (m - 1 - k) % n
  | 0, k, h => by omega
  | m + 1, 0, _ => by unfold Dg; rw [List.getD_cons_zero]; rfl
  | m + 1, k + 1, h => by
    unfold Dg
    rw [List.getD_cons_succ, getD_Dg m k (by omega)]
    congr 2; congr 1; omega
theorem Dg_len {n x : Nat} : ∀ m, (Dg n m x).length = m
  | 0 => rfl
  | m + 1 => by unfold Dg; rw [List.length_cons, Dg_len m]
theorem c12_goDown {Q : Int → Mem → Prop} {l : List Nat} (es : sd M = s) (LO : LOK s) (hm : m < 7) (hl : l.length = m) (hv : vld m 0 l) (hA : ∀ k, k < m → M 0 42 k = ((l.getD k 0 : Nat) : Int)) (h : Q (VL s m 0 l) M) : OkI G n mX12_goDown [vO 0, vI (m : Int)] M Q := by
  have h10 := LO.2.2.2.1
  rw [VL_gd LO.cOK l 0 hv] at h
  unfold gd at h
  refine eX12_goDown (fun K => bX12_goDown_0 ?_)
  have e10 : M 0 26 10 = s 10 := by rw [← es]; rfl
  have loop : ∀ (c : Nat) (_ : Unit), c ≤ (s 10).toNat → True → CW G K mX12_goDown n 4 [some (vO 0), some (vI (m : Int)), some (vI (cb (fun c => dn m 0 l (s (308 + 2 * c)) (s (308 + 2 * c + 1))) c)), some (vI (c : Int)), none, none, none] [] M (qI Q) := by
    refine up_ind (fun _ _ => ?_) (fun c _ hc _ ih => ?_)
    · refine bX12_goDown_4 ?_
      rw [e10]
      exact ⟨fun _ => h, fun z => absurd (by omega) z⟩
    · have hc' : (c : Int) < s 10 := by omega
      have ih' := ih () trivial
      obtain ⟨d1, d2, d3⟩ := LO.cOK (c : Int) (by omega) hc'
      have hr := cb_rng (f := fun c => dn m 0 l (s (308 + 2 * c)) (s (308 + 2 * c + 1))) c
      unfold cb at ih'
      refine bX12_goDown_4 ?_
      rw [e10]
      refine ⟨fun z => absurd z (by omega), fun _ => ?_⟩
      generalize cb (fun c => dn m 0 l (s (308 + 2 * c)) (s (308 + 2 * c + 1))) c = v at *
      have ef : wr (308 + wr (2 * (c : Int))) = 308 + 2 * (c : Int) := by rw [wrs (x := 2 * (c : Int)) (by omega) (by omega), wrs (x := 308 + 2 * (c : Int)) (by omega) (by omega)]
      have et : wr (wr (308 + wr (2 * (c : Int))) + 1) = 308 + 2 * (c : Int) + 1 := by rw [ef, wrs (x := 308 + 2 * (c : Int) + 1) (by omega) (by omega)]
      have sf : M 0 26 (308 + 2 * (c : Int)).toNat = s (308 + 2 * (c : Int)) := by rw [← es]; rfl
      have stt : M 0 26 (308 + 2 * (c : Int) + 1).toNat = s (308 + 2 * (c : Int) + 1) := by rw [← es]; rfl
      have inner : ∀ (u : List Nat) (i : Nat) (x4 x5 : Int), i + u.length = m → (∀ k, k < u.length → M 0 42 (i + k) = ((u.getD k 0 : Nat) : Int)) → (∀ (hfin : True), CW G K mX12_goDown n 24 [some (vO 0), some (vI (m : Int)), some (vI v), some (vI (c : Int)), some (vI (ps u i (s (308 + 2 * (c : Int))) x4)), some (vI (ps u i (s (308 + 2 * (c : Int) + 1)) x5)), some (vI (m : Int))] [] M (qI Q)) → CW G K mX12_goDown n 24 [some (vO 0), some (vI (m : Int)), some (vI v), some (vI (c : Int)), some (vI x4), some (vI x5), some (vI (i : Int))] [] M (qI Q) := by
        intro u
        induction u with
        | nil =>
          intro i x4 x5 hi _ hf
          have : i = m := by rw [List.length_nil] at hi; omega
          subst this
          exact hf trivial
        | cons a u ihu =>
          intro i x4 x5 hi hk hf
          rw [List.length_cons] at hi hk
          have h0 := hk 0 (by omega)
          rw [List.getD_cons_zero, Nat.add_zero] at h0
          refine bX12_goDown_24 ⟨fun z => absurd z (by omega), fun _ => ?_⟩
          rw [ef, sf, Int.toNat_natCast, h0]
          have nxt : ∀ x4', x4' = (if (a : Int) = s (308 + 2 * (c : Int)) then (i : Int) else x4) → CW G K mX12_goDown n 56 [some (vO 0), some (vI (m : Int)), some (vI v), some (vI (c : Int)), some (vI x4'), some (vI x5), some (vI (i : Int))] [] M (qI Q) := by
            intro x4' hx4
            refine bX12_goDown_56 ?_
            rw [et, stt, Int.toNat_natCast, h0, wr_n (b := 7) (k := i) (by omega) (by omega)]
            have go : ∀ x5', x5' = (if (a : Int) = s (308 + 2 * (c : Int) + 1) then (i : Int) else x5) → CW G K mX12_goDown n 24 [some (vO 0), some (vI (m : Int)), some (vI v), some (vI (c : Int)), some (vI x4'), some (vI x5'), some (vI ((i + 1 : Nat) : Int))] [] M (qI Q) := by
              intro x5' hx5
              refine ihu (i + 1) x4' x5' (by omega) (fun k hk' => ?_) (fun _ => ?_)
              · have := hk (k + 1) (by omega)
                rw [List.getD_cons_succ] at this
                rw [show i + 1 + k = i + (k + 1) by omega]; exact this
              · have := hf trivial
                unfold ps at this
                rw [hx4, hx5]; exact this
            exact ⟨⟨by omega, by omega⟩, ⟨by omega, by omega⟩, fun z => go _ (by rw [if_neg z]), fun z => go _ (by rw [if_pos z])⟩
          exact ⟨⟨by omega, by omega⟩, ⟨by omega, by omega⟩, fun z => nxt _ (by rw [if_neg z]), fun z => nxt _ (by rw [if_pos z])⟩
      refine inner l 0 (-1) (-1) (by omega) (fun k hk => by rw [Nat.zero_add]; exact hA k (by omega)) (fun _ => ?_)
      have hpd := ps_dn l 0 0 (s (308 + 2 * (c : Int))) (s (308 + 2 * (c : Int) + 1)) hv d1.1 d2.1 d3
      generalize ps l 0 (s (308 + 2 * (c : Int))) (-1) = pf at *
      generalize ps l 0 (s (308 + 2 * (c : Int) + 1)) (-1) = pt at *
      refine bX12_goDown_24 ⟨fun _ => ?_, fun z => absurd (Int.le_refl _) z⟩
      rw [wr_n hc' (by omega)]
      have hno : ¬ (0 ≤ pf ∧ pf < pt) → CW G K mX12_goDown n 4 [some (vO 0), some (vI (m : Int)), some (vI (wr (v + 0))), some (vI ((c + 1 : Nat) : Int)), none, none, none] [] M (qI Q) := by
        intro z
        rw [Int.add_zero, wrs (x := v) (by omega) (by omega)]
        rw [if_neg (fun w => z (hpd.mpr (Or.inl w))), Int.add_zero] at ih'
        exact ih'
      refine ⟨fun z => hno (by omega), fun z => ⟨fun y => hno (by omega), fun y => ?_⟩⟩
      have hyes : dn m 0 l (s (308 + 2 * (c : Int))) (s (308 + 2 * (c : Int) + 1)) = true := by
        rcases hpd.mp ⟨by omega, by omega⟩ with w | w
        · exact w
        · exact w.2.elim
      rw [if_pos hyes] at ih'
      rw [wrs (x := v + 1) (by omega) (by omega)]
      exact ih'
  exact loop 0 () (by omega) trivial
end ORC
