-- DownOnlyModel back (I)I
set_option maxRecDepth 20000 in
set_option maxHeartbeats 1000000 in
theorem bX12_back_0 {G : Gx} {K : Kx} {n : Nat} {M : Mem} {Q : Int → Mem → Prop}  {x1 : Int}  (T : OkI G n mX12_in [vL x1, vL 0, vL 3] M (fun r_1 M1 => (r_1 = 0 → Q (-1) M1) ∧ (¬ (r_1 = 0) → (0 ≤ x1 ∧ x1 < 4) ∧ ((¬ M1 0 46 x1.toNat = 0 → CW G K mX12_back (n + 1) 25 [some (vO 0), some (vI x1), some (vI 0)] [] M1 (qI Q)) ∧ (M1 0 46 x1.toNat = 0 → Q (-1) M1))))) : CW G K mX12_back (n + 1) 0 [some (vO 0), some (vI x1), none] [] M (qI Q) := by
  refine r_iload_n dX12_back_0 rfl ?_
  refine r_i2l dX12_back_1 ?_
  refine r_lconst (z := 0) dX12_back_2 (by decide) (by decide) ?_
  refine r_ldc2 (z := 3) dX12_back_3 kX12_495 (by decide) (by decide) ?_
  refine r_callSI (md' := mX12_in) (as := [vL x1, vL 0, vL 3]) dX12_back_6 lX12_148 iX12_in rfl rfl (Nat.le_of_ble_eq_true rfl) T (fun r_1 M1 T => ?_)
  refine r_if_eq (tgt := 21) dX12_back_9 (by decide) (fun h_2 => ?_) (fun h_2 => ?_)
  · have T := T.1 h_2
    refine r_iconst dX12_back_21 (by decide) ?_
    exact r_ireturn dX12_back_22 rfl ⟨_, rfl, T⟩
  · have T := T.2 h_2
    refine r_aload_n dX12_back_12 rfl ?_
    refine r_getA dX12_back_13 fX12_106 rfl uX12_46 ?_
    refine r_iload_n dX12_back_16 rfl ?_
    refine s_bald dX12_back_17 rfl (Or.inr tX12_46) aX12_46 T.1 ?_
    have T := T.2
    refine r_if_ne (tgt := 23) dX12_back_18 (by decide) (fun h_1 => ?_) (fun h_1 => ?_)
    · have T := T.1 h_1
      refine r_iconst dX12_back_23 (by decide) ?_
      refine r_istore_n dX12_back_24 (by decide) rfl ?_
      exact T
    · have T := T.2 h_1
      refine r_iconst dX12_back_21 (by decide) ?_
      exact r_ireturn dX12_back_22 rfl ⟨_, rfl, T⟩
set_option maxRecDepth 20000 in
set_option maxHeartbeats 1000000 in
theorem bX12_back_25 {G : Gx} {K : Kx} {n : Nat} {M : Mem} {Q : Int → Mem → Prop}  {x1 : Int} {x2 : Int}  (T : (328 ≤ x2 → Q (M 0 26 3) M) ∧ (¬ (328 ≤ x2) → (0 ≤ wr (wr (328 * x1) + x2) ∧ wr (wr (328 * x1) + x2) < 1312) ∧ ((0 ≤ x2 ∧ x2 < 328) ∧ (∀ M1 : Mem, M1 = mset M 0 26 x2.toNat (M 0 45 (wr (wr (328 * x1) + x2)).toNat) → CW G K mX12_back (n + 1) 25 [some (vO 0), some (vI x1), some (vI (wr (x2 + 1)))] [] M1 (qI Q))))) : CW G K mX12_back (n + 1) 25 [some (vO 0), some (vI x1), some (vI x2)] [] M (qI Q) := by
  refine r_iload_n dX12_back_25 rfl ?_
  refine r_sipush dX12_back_26 (by decide) (by decide) ?_
  refine r_icmp_ge (tgt := 56) dX12_back_29 (by decide) (fun h_1 => ?_) (fun h_1 => ?_)
  · have T := T.1 h_1
    refine r_aload_n dX12_back_56 rfl ?_
    refine r_getA dX12_back_57 fX12_48 rfl uX12_26 ?_
    refine r_iconst dX12_back_60 (by decide) ?_
    refine s_iald dX12_back_61 rfl tX12_26 aX12_26 (by decide) ?_
    exact r_ireturn dX12_back_62 rfl ⟨_, rfl, T⟩
  · have T := T.2 h_1
    refine r_aload_n dX12_back_32 rfl ?_
    refine r_getA dX12_back_33 fX12_48 rfl uX12_26 ?_
    refine r_iload_n dX12_back_36 rfl ?_
    refine r_aload_n dX12_back_37 rfl ?_
    refine r_getA dX12_back_38 fX12_103 rfl uX12_45 ?_
    refine r_sipush dX12_back_41 (by decide) (by decide) ?_
    refine r_iload_n dX12_back_44 rfl ?_
    refine r_imul dX12_back_45 ?_
    refine r_iload_n dX12_back_46 rfl ?_
    refine r_iadd dX12_back_47 ?_
    refine s_iald dX12_back_48 rfl tX12_45 aX12_45 T.1 ?_
    have T := T.2
    refine n_iast dX12_back_49 rfl tX12_26 aX12_26 T.1 (fun M1 hM1 => ?_)
    have T := T.2 M1 hM1
    refine r_iinc dX12_back_50 rfl (by decide) rfl ?_
    refine r_goto (tgt := 25) dX12_back_53 (by decide) ?_
    exact T
theorem eX12_back {G : Gx} {n : Nat} {M : Mem} {Q : Int → Mem → Prop}  {x1 : Int} (h : ∀ K : Kx, CW G K mX12_back n 0 [some (vO 0), some (vI x1), none] [] M (qI Q)) : OkI G n mX12_back [vO 0, vI x1] M Q := Ok_of (by decide) (Nat.le_of_ble_eq_true rfl) rfl h
