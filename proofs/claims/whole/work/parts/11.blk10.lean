-- DownOnlyModel rider (I)I
set_option maxRecDepth 20000 in
set_option maxHeartbeats 1000000 in
theorem bX12_rider_0 {G : Gx} {K : Kx} {n : Nat} {M : Mem} {Q : Int → Mem → Prop}  {x1 : Int}  (T : (¬ x1 = (-1) → OkI G n mX12_isMinute [vI x1] M (fun r_1 M1 => (r_1 = 0 → Q (-2) M1) ∧ (¬ (r_1 = 0) → (¬ M1 0 26 9 = 20 → (0 ≤ wr (288 + (M1 0 26 9)) ∧ wr (288 + (M1 0 26 9)) < 328) ∧ (∀ M2 : Mem, M2 = mset M1 0 26 (wr (288 + (M1 0 26 9))).toNat x1 → ∀ M3 : Mem, M3 = mset M2 0 26 9 (wr (M2 0 26 9 + 1)) → Q (M3 0 26 9) M3)) ∧ (M1 0 26 9 = 20 → Q (-2) M1)))) ∧ (x1 = (-1) → ∀ M4 : Mem, M4 = mset M 0 26 9 0 → Q 0 M4)) : CW G K mX12_rider (n + 1) 0 [some (vO 0), some (vI x1)] [] M (qI Q) := by
  refine r_iload_n dX12_rider_0 rfl ?_
  refine r_iconst dX12_rider_1 (by decide) ?_
  refine r_icmp_ne (tgt := 15) dX12_rider_2 (by decide) (fun h_3 => ?_) (fun h_3 => ?_)
  · have T := T.1 h_3
    refine r_iload_n dX12_rider_15 rfl ?_
    refine r_callSI (md' := mX12_isMinute) (as := [vI x1]) dX12_rider_16 lX12_415 iX12_isMinute rfl rfl (Nat.le_of_ble_eq_true rfl) T (fun r_1 M1 T => ?_)
    refine r_if_eq (tgt := 34) dX12_rider_19 (by decide) (fun h_2 => ?_) (fun h_2 => ?_)
    · have T := T.1 h_2
      refine r_bipush dX12_rider_34 (by decide) (by decide) ?_
      exact r_ireturn dX12_rider_36 rfl ⟨_, rfl, T⟩
    · have T := T.2 h_2
      refine r_aload_n dX12_rider_22 rfl ?_
      refine r_getA dX12_rider_23 fX12_48 rfl uX12_26 ?_
      refine r_bipush dX12_rider_26 (by decide) (by decide) ?_
      refine s_iald dX12_rider_28 rfl tX12_26 aX12_26 (by decide) ?_
      refine r_bipush dX12_rider_29 (by decide) (by decide) ?_
      refine r_icmp_ne (tgt := 37) dX12_rider_31 (by decide) (fun h_1 => ?_) (fun h_1 => ?_)
      · have T := T.1 h_1
        refine r_aload_n dX12_rider_37 rfl ?_
        refine r_getA dX12_rider_38 fX12_48 rfl uX12_26 ?_
        refine r_sipush dX12_rider_41 (by decide) (by decide) ?_
        refine r_aload_n dX12_rider_44 rfl ?_
        refine r_getA dX12_rider_45 fX12_48 rfl uX12_26 ?_
        refine r_bipush dX12_rider_48 (by decide) (by decide) ?_
        refine s_iald dX12_rider_50 rfl tX12_26 aX12_26 (by decide) ?_
        refine r_iadd dX12_rider_51 ?_
        refine r_iload_n dX12_rider_52 rfl ?_
        refine n_iast dX12_rider_53 rfl tX12_26 aX12_26 T.1 (fun M2 hM2 => ?_)
        have T := T.2 M2 hM2
        refine r_aload_n dX12_rider_54 rfl ?_
        refine r_getA dX12_rider_55 fX12_48 rfl uX12_26 ?_
        refine r_bipush dX12_rider_58 (by decide) (by decide) ?_
        refine r_dup2 dX12_rider_60 rfl rfl ?_
        refine s_iald dX12_rider_61 rfl tX12_26 aX12_26 (by decide) ?_
        refine r_iconst dX12_rider_62 (by decide) ?_
        refine r_iadd dX12_rider_63 ?_
        refine n_iast dX12_rider_64 rfl tX12_26 aX12_26 (by decide) (fun M3 hM3 => ?_)
        have T := T M3 hM3
        refine r_aload_n dX12_rider_65 rfl ?_
        refine r_getA dX12_rider_66 fX12_48 rfl uX12_26 ?_
        refine r_bipush dX12_rider_69 (by decide) (by decide) ?_
        refine s_iald dX12_rider_71 rfl tX12_26 aX12_26 (by decide) ?_
        exact r_ireturn dX12_rider_72 rfl ⟨_, rfl, T⟩
      · have T := T.2 h_1
        refine r_bipush dX12_rider_34 (by decide) (by decide) ?_
        exact r_ireturn dX12_rider_36 rfl ⟨_, rfl, T⟩
  · have T := T.2 h_3
    refine r_aload_n dX12_rider_5 rfl ?_
    refine r_getA dX12_rider_6 fX12_48 rfl uX12_26 ?_
    refine r_bipush dX12_rider_9 (by decide) (by decide) ?_
    refine r_iconst dX12_rider_11 (by decide) ?_
    refine n_iast dX12_rider_12 rfl tX12_26 aX12_26 (by decide) (fun M4 hM4 => ?_)
    have T := T M4 hM4
    refine r_iconst dX12_rider_13 (by decide) ?_
    exact r_ireturn dX12_rider_14 rfl ⟨_, rfl, T⟩
theorem eX12_rider {G : Gx} {n : Nat} {M : Mem} {Q : Int → Mem → Prop}  {x1 : Int} (h : ∀ K : Kx, CW G K mX12_rider n 0 [some (vO 0), some (vI x1)] [] M (qI Q)) : OkI G n mX12_rider [vO 0, vI x1] M Q := Ok_of (by decide) (Nat.le_of_ble_eq_true rfl) rfl h
-- DownOnlyModel nextRider ()I
set_option maxRecDepth 20000 in
set_option maxHeartbeats 1000000 in
theorem bX12_nextRider_0 {G : Gx} {K : Kx} {n : Nat} {M : Mem} {Q : Int → Mem → Prop}    (T : CW G K mX12_nextRider n 4 [some (vO 0), some (vI (-1)), some (vI 0)] [] M (qI Q)) : CW G K mX12_nextRider n 0 [some (vO 0), none, none] [] M (qI Q) := by
  refine r_iconst dX12_nextRider_0 (by decide) ?_
  refine r_istore_n dX12_nextRider_1 (by decide) rfl ?_
  refine r_iconst dX12_nextRider_2 (by decide) ?_
  refine r_istore_n dX12_nextRider_3 (by decide) rfl ?_
  exact T
set_option maxRecDepth 20000 in
set_option maxHeartbeats 1000000 in
theorem bX12_nextRider_4 {G : Gx} {K : Kx} {n : Nat} {M : Mem} {Q : Int → Mem → Prop}  {x1 : Int} {x2 : Int}  (T : (M 0 26 9 ≤ x2 → Q x1 M) ∧ (¬ (M 0 26 9 ≤ x2) → (0 ≤ x2 ∧ x2 < 20) ∧ ((¬ M 0 41 x2.toNat = (-1) → CW G K mX12_nextRider n 4 [some (vO 0), some (vI x1), some (vI (wr (x2 + 1)))] [] M (qI Q)) ∧ (M 0 41 x2.toNat = (-1) → (x1 < 0 → CW G K mX12_nextRider n 4 [some (vO 0), some (vI x2), some (vI (wr (x2 + 1)))] [] M (qI Q)) ∧ (¬ (x1 < 0) → (0 ≤ wr (288 + x2) ∧ wr (288 + x2) < 328) ∧ ((0 ≤ wr (288 + x1) ∧ wr (288 + x1) < 328) ∧ ((M 0 26 (wr (288 + x1)).toNat ≤ M 0 26 (wr (288 + x2)).toNat → CW G K mX12_nextRider n 4 [some (vO 0), some (vI x1), some (vI (wr (x2 + 1)))] [] M (qI Q)) ∧ (¬ (M 0 26 (wr (288 + x1)).toNat ≤ M 0 26 (wr (288 + x2)).toNat) → CW G K mX12_nextRider n 4 [some (vO 0), some (vI x2), some (vI (wr (x2 + 1)))] [] M (qI Q))))))))) : CW G K mX12_nextRider n 4 [some (vO 0), some (vI x1), some (vI x2)] [] M (qI Q) := by
  refine r_iload_n dX12_nextRider_4 rfl ?_
  refine r_aload_n dX12_nextRider_5 rfl ?_
  refine r_getA dX12_nextRider_6 fX12_48 rfl uX12_26 ?_
  refine r_bipush dX12_nextRider_9 (by decide) (by decide) ?_
  refine s_iald dX12_nextRider_11 rfl tX12_26 aX12_26 (by decide) ?_
  refine r_icmp_ge (tgt := 60) dX12_nextRider_12 (by decide) (fun h_4 => ?_) (fun h_4 => ?_)
  · have T := T.1 h_4
    refine r_iload_n dX12_nextRider_60 rfl ?_
    exact r_ireturn dX12_nextRider_61 rfl ⟨_, rfl, T⟩
  · have T := T.2 h_4
    refine r_aload_n dX12_nextRider_15 rfl ?_
    refine r_getA dX12_nextRider_16 fX12_91 rfl uX12_41 ?_
    refine r_iload_n dX12_nextRider_19 rfl ?_
    refine s_iald dX12_nextRider_20 rfl tX12_41 aX12_41 T.1 ?_
    have T := T.2
    refine r_iconst dX12_nextRider_21 (by decide) ?_
    refine r_icmp_ne (tgt := 54) dX12_nextRider_22 (by decide) (fun h_3 => ?_) (fun h_3 => ?_)
    · have T := T.1 h_3
      refine r_iinc dX12_nextRider_54 rfl (by decide) rfl ?_
      refine r_goto (tgt := 4) dX12_nextRider_57 (by decide) ?_
      exact T
    · have T := T.2 h_3
      refine r_iload_n dX12_nextRider_25 rfl ?_
      refine r_if_lt (tgt := 52) dX12_nextRider_26 (by decide) (fun h_2 => ?_) (fun h_2 => ?_)
      · have T := T.1 h_2
        refine r_iload_n dX12_nextRider_52 rfl ?_
        refine r_istore_n dX12_nextRider_53 (by decide) rfl ?_
        refine r_iinc dX12_nextRider_54 rfl (by decide) rfl ?_
        refine r_goto (tgt := 4) dX12_nextRider_57 (by decide) ?_
        exact T
      · have T := T.2 h_2
        refine r_aload_n dX12_nextRider_29 rfl ?_
        refine r_getA dX12_nextRider_30 fX12_48 rfl uX12_26 ?_
        refine r_sipush dX12_nextRider_33 (by decide) (by decide) ?_
        refine r_iload_n dX12_nextRider_36 rfl ?_
        refine r_iadd dX12_nextRider_37 ?_
        refine s_iald dX12_nextRider_38 rfl tX12_26 aX12_26 T.1 ?_
        have T := T.2
        refine r_aload_n dX12_nextRider_39 rfl ?_
        refine r_getA dX12_nextRider_40 fX12_48 rfl uX12_26 ?_
        refine r_sipush dX12_nextRider_43 (by decide) (by decide) ?_
        refine r_iload_n dX12_nextRider_46 rfl ?_
        refine r_iadd dX12_nextRider_47 ?_
        refine s_iald dX12_nextRider_48 rfl tX12_26 aX12_26 T.1 ?_
        have T := T.2
        refine r_icmp_ge (tgt := 54) dX12_nextRider_49 (by decide) (fun h_1 => ?_) (fun h_1 => ?_)
        · have T := T.1 h_1
          refine r_iinc dX12_nextRider_54 rfl (by decide) rfl ?_
          refine r_goto (tgt := 4) dX12_nextRider_57 (by decide) ?_
          exact T
        · have T := T.2 h_1
          refine r_iload_n dX12_nextRider_52 rfl ?_
          refine r_istore_n dX12_nextRider_53 (by decide) rfl ?_
          refine r_iinc dX12_nextRider_54 rfl (by decide) rfl ?_
          refine r_goto (tgt := 4) dX12_nextRider_57 (by decide) ?_
          exact T
theorem eX12_nextRider {G : Gx} {n : Nat} {M : Mem} {Q : Int → Mem → Prop}   (h : ∀ K : Kx, CW G K mX12_nextRider n 0 [some (vO 0), none, none] [] M (qI Q)) : OkI G n mX12_nextRider [vO 0] M Q := Ok_of (by decide) (Nat.le_of_ble_eq_true rfl) rfl h
-- DownOnlyModel ridesIn (I)I
set_option maxRecDepth 20000 in
set_option maxHeartbeats 1000000 in
theorem bX12_ridesIn_0 {G : Gx} {K : Kx} {n : Nat} {M : Mem} {Q : Int → Mem → Prop}  {x1 : Int}  (T : CW G K mX12_ridesIn n 4 [some (vO 0), some (vI x1), some (vI 0), some (vI 0)] [] M (qI Q)) : CW G K mX12_ridesIn n 0 [some (vO 0), some (vI x1), none, none] [] M (qI Q) := by
  refine r_iconst dX12_ridesIn_0 (by decide) ?_
  refine r_istore_n dX12_ridesIn_1 (by decide) rfl ?_
  refine r_iconst dX12_ridesIn_2 (by decide) ?_
  refine r_istore_n dX12_ridesIn_3 (by decide) rfl ?_
  exact T
set_option maxRecDepth 20000 in
set_option maxHeartbeats 1000000 in
theorem bX12_ridesIn_4 {G : Gx} {K : Kx} {n : Nat} {M : Mem} {Q : Int → Mem → Prop}  {x1 : Int} {x2 : Int} {x3 : Int}  (T : (M 0 26 9 ≤ x3 → Q x2 M) ∧ (¬ (M 0 26 9 ≤ x3) → (0 ≤ x3 ∧ x3 < 20) ∧ ((¬ M 0 41 x3.toNat = x1 → CW G K mX12_ridesIn n 4 [some (vO 0), some (vI x1), some (vI (wr (x2 + 0))), some (vI (wr (x3 + 1)))] [] M (qI Q)) ∧ (M 0 41 x3.toNat = x1 → CW G K mX12_ridesIn n 4 [some (vO 0), some (vI x1), some (vI (wr (x2 + 1))), some (vI (wr (x3 + 1)))] [] M (qI Q))))) : CW G K mX12_ridesIn n 4 [some (vO 0), some (vI x1), some (vI x2), some (vI x3)] [] M (qI Q) := by
  refine r_iload_n dX12_ridesIn_4 rfl ?_
  refine r_aload_n dX12_ridesIn_5 rfl ?_
  refine r_getA dX12_ridesIn_6 fX12_48 rfl uX12_26 ?_
  refine r_bipush dX12_ridesIn_9 (by decide) (by decide) ?_
  refine s_iald dX12_ridesIn_11 rfl tX12_26 aX12_26 (by decide) ?_
  refine r_icmp_ge (tgt := 39) dX12_ridesIn_12 (by decide) (fun h_2 => ?_) (fun h_2 => ?_)
  · have T := T.1 h_2
    refine r_iload_n dX12_ridesIn_39 rfl ?_
    exact r_ireturn dX12_ridesIn_40 rfl ⟨_, rfl, T⟩
  · have T := T.2 h_2
    refine r_iload_n dX12_ridesIn_15 rfl ?_
    refine r_aload_n dX12_ridesIn_16 rfl ?_
    refine r_getA dX12_ridesIn_17 fX12_91 rfl uX12_41 ?_
    refine r_iload_n dX12_ridesIn_20 rfl ?_
    refine s_iald dX12_ridesIn_21 rfl tX12_41 aX12_41 T.1 ?_
    have T := T.2
    refine r_iload_n dX12_ridesIn_22 rfl ?_
    refine r_icmp_ne (tgt := 30) dX12_ridesIn_23 (by decide) (fun h_1 => ?_) (fun h_1 => ?_)
    · have T := T.1 h_1
      refine r_iconst dX12_ridesIn_30 (by decide) ?_
      refine r_iadd dX12_ridesIn_31 ?_
      refine r_istore_n dX12_ridesIn_32 (by decide) rfl ?_
      refine r_iinc dX12_ridesIn_33 rfl (by decide) rfl ?_
      refine r_goto (tgt := 4) dX12_ridesIn_36 (by decide) ?_
      exact T
    · have T := T.2 h_1
      refine r_iconst dX12_ridesIn_26 (by decide) ?_
      refine r_goto (tgt := 31) dX12_ridesIn_27 (by decide) ?_
      refine r_iadd dX12_ridesIn_31 ?_
      refine r_istore_n dX12_ridesIn_32 (by decide) rfl ?_
      refine r_iinc dX12_ridesIn_33 rfl (by decide) rfl ?_
      refine r_goto (tgt := 4) dX12_ridesIn_36 (by decide) ?_
      exact T
theorem eX12_ridesIn {G : Gx} {n : Nat} {M : Mem} {Q : Int → Mem → Prop}  {x1 : Int} (h : ∀ K : Kx, CW G K mX12_ridesIn n 0 [some (vO 0), some (vI x1), none, none] [] M (qI Q)) : OkI G n mX12_ridesIn [vO 0, vI x1] M Q := Ok_of (by decide) (Nat.le_of_ble_eq_true rfl) rfl h
-- DownOnlyModel rides (I)I
set_option maxRecDepth 20000 in
set_option maxHeartbeats 1000000 in
theorem bX12_rides_0 {G : Gx} {K : Kx} {n : Nat} {M : Mem} {Q : Int → Mem → Prop}  {x1 : Int}  (T : (M 0 26 4 = 0 → Q (-1) M) ∧ (¬ (M 0 26 4 = 0) → OkI G n mX12_in [vL x1, vL 0, vL 20] M (fun r_1 M1 => (r_1 = 0 → Q (-1) M1) ∧ (¬ (r_1 = 0) → (20 ≤ x1 → CW G K mX12_rides (n + 1) 42 [some (vO 0), some (vI x1), some (vI 0), none, none, none] [] M1 (qI Q)) ∧ (¬ (20 ≤ x1) → (x1 < M1 0 26 9 → CW G K mX12_rides (n + 1) 42 [some (vO 0), some (vI x1), some (vI 0), none, none, none] [] M1 (qI Q)) ∧ (¬ (x1 < M1 0 26 9) → Q (-1) M1)))))) : CW G K mX12_rides (n + 1) 0 [some (vO 0), some (vI x1), none, none, none, none] [] M (qI Q) := by
  refine r_aload_n dX12_rides_0 rfl ?_
  refine r_getA dX12_rides_1 fX12_48 rfl uX12_26 ?_
  refine r_iconst dX12_rides_4 (by decide) ?_
  refine s_iald dX12_rides_5 rfl tX12_26 aX12_26 (by decide) ?_
  refine r_if_eq (tgt := 38) dX12_rides_6 (by decide) (fun h_4 => ?_) (fun h_4 => ?_)
  · have T := T.1 h_4
    refine r_iconst dX12_rides_38 (by decide) ?_
    exact r_ireturn dX12_rides_39 rfl ⟨_, rfl, T⟩
  · have T := T.2 h_4
    refine r_iload_n dX12_rides_9 rfl ?_
    refine r_i2l dX12_rides_10 ?_
    refine r_lconst (z := 0) dX12_rides_11 (by decide) (by decide) ?_
    refine r_ldc2 (z := 20) dX12_rides_12 kX12_465 (by decide) (by decide) ?_
    refine r_callSI (md' := mX12_in) (as := [vL x1, vL 0, vL 20]) dX12_rides_15 lX12_148 iX12_in rfl rfl (Nat.le_of_ble_eq_true rfl) T (fun r_1 M1 T => ?_)
    refine r_if_eq (tgt := 38) dX12_rides_18 (by decide) (fun h_3 => ?_) (fun h_3 => ?_)
    · have T := T.1 h_3
      refine r_iconst dX12_rides_38 (by decide) ?_
      exact r_ireturn dX12_rides_39 rfl ⟨_, rfl, T⟩
    · have T := T.2 h_3
      refine r_iload_n dX12_rides_21 rfl ?_
      refine r_bipush dX12_rides_22 (by decide) (by decide) ?_
      refine r_icmp_ge (tgt := 40) dX12_rides_24 (by decide) (fun h_2 => ?_) (fun h_2 => ?_)
      · have T := T.1 h_2
        refine r_iconst dX12_rides_40 (by decide) ?_
        refine r_istore_n dX12_rides_41 (by decide) rfl ?_
        exact T
      · have T := T.2 h_2
        refine r_iload_n dX12_rides_27 rfl ?_
        refine r_aload_n dX12_rides_28 rfl ?_
        refine r_getA dX12_rides_29 fX12_48 rfl uX12_26 ?_
        refine r_bipush dX12_rides_32 (by decide) (by decide) ?_
        refine s_iald dX12_rides_34 rfl tX12_26 aX12_26 (by decide) ?_
        refine r_icmp_lt (tgt := 40) dX12_rides_35 (by decide) (fun h_1 => ?_) (fun h_1 => ?_)
        · have T := T.1 h_1
          refine r_iconst dX12_rides_40 (by decide) ?_
          refine r_istore_n dX12_rides_41 (by decide) rfl ?_
          exact T
        · have T := T.2 h_1
          refine r_iconst dX12_rides_38 (by decide) ?_
          exact r_ireturn dX12_rides_39 rfl ⟨_, rfl, T⟩
set_option maxRecDepth 20000 in
set_option maxHeartbeats 1000000 in
theorem bX12_rides_42 {G : Gx} {K : Kx} {n : Nat} {M : Mem} {Q : Int → Mem → Prop}  {x1 : Int} {x2 : Int}  (T : (M 0 26 9 ≤ x2 → CW G K mX12_rides (n + 1) 71 [some (vO 0), some (vI x1), some (vI (-2)), some (vI 0), none, none] [] M (qI Q)) ∧ (¬ (M 0 26 9 ≤ x2) → (0 ≤ x2 ∧ x2 < 20) ∧ (∀ M1 : Mem, M1 = mset M 0 41 x2.toNat (-1) → CW G K mX12_rides (n + 1) 42 [some (vO 0), some (vI x1), some (vI (wr (x2 + 1))), none, none, none] [] M1 (qI Q)))) : CW G K mX12_rides (n + 1) 42 [some (vO 0), some (vI x1), some (vI x2), none, none, none] [] M (qI Q) := by
  refine r_iload_n dX12_rides_42 rfl ?_
  refine r_aload_n dX12_rides_43 rfl ?_
  refine r_getA dX12_rides_44 fX12_48 rfl uX12_26 ?_
  refine r_bipush dX12_rides_47 (by decide) (by decide) ?_
  refine s_iald dX12_rides_49 rfl tX12_26 aX12_26 (by decide) ?_
  refine r_icmp_ge (tgt := 66) dX12_rides_50 (by decide) (fun h_1 => ?_) (fun h_1 => ?_)
  · have T := T.1 h_1
    refine r_bipush dX12_rides_66 (by decide) (by decide) ?_
    refine r_istore_n dX12_rides_68 (by decide) rfl ?_
    refine r_iconst dX12_rides_69 (by decide) ?_
    refine r_istore_n dX12_rides_70 (by decide) rfl ?_
    exact T
  · have T := T.2 h_1
    refine r_aload_n dX12_rides_53 rfl ?_
    refine r_getA dX12_rides_54 fX12_91 rfl uX12_41 ?_
    refine r_iload_n dX12_rides_57 rfl ?_
    refine r_iconst dX12_rides_58 (by decide) ?_
    refine n_iast dX12_rides_59 rfl tX12_41 aX12_41 T.1 (fun M1 hM1 => ?_)
    have T := T.2 M1 hM1
    refine r_iinc dX12_rides_60 rfl (by decide) rfl ?_
    refine r_goto (tgt := 42) dX12_rides_63 (by decide) ?_
    exact T
set_option maxRecDepth 20000 in
set_option maxHeartbeats 1000000 in
theorem bX12_rides_71 {G : Gx} {K : Kx} {n : Nat} {M : Mem} {Q : Int → Mem → Prop}  {x1 : Int} {x2 : Int} {x3 : Int}  (T : (M 0 26 9 ≤ x3 → (¬ x1 = 20 → (0 ≤ x1 ∧ x1 < 20) ∧ ((M 0 41 x1.toNat ≤ 1439 → (0 ≤ x1 ∧ x1 < 20) ∧ (Q (M 0 41 x1.toNat) M)) ∧ (¬ (M 0 41 x1.toNat ≤ 1439) → Q (-2) M))) ∧ (x1 = 20 → Q x2 M)) ∧ (¬ (M 0 26 9 ≤ x3) → OkI G n mX12_nextRider [vO 0] M (fun r_1 M1 => (0 ≤ wr (288 + r_1) ∧ wr (288 + r_1) < 328) ∧ (((M1 0 26 6) ≠ 0) ∧ (CW G K mX12_rides (n + 1) 127 [some (vO 0), some (vI x1), some (vI x2), some (vI x3), some (vI r_1), some (vI (wr ((wr (Int.tdiv (wr (wr (M1 0 26 (wr (288 + r_1)).toNat + (M1 0 26 6)) - 1)) (M1 0 26 6))) * (M1 0 26 6))))] [] M1 (qI Q)))))) : CW G K mX12_rides (n + 1) 71 [some (vO 0), some (vI x1), some (vI x2), some (vI x3), none, none] [] M (qI Q) := by
  refine r_iload_n dX12_rides_71 rfl ?_
  refine r_aload_n dX12_rides_72 rfl ?_
  refine r_getA dX12_rides_73 fX12_48 rfl uX12_26 ?_
  refine r_bipush dX12_rides_76 (by decide) (by decide) ?_
  refine s_iald dX12_rides_78 rfl tX12_26 aX12_26 (by decide) ?_
  refine r_icmp_ge (tgt := 199) dX12_rides_79 (by decide) (fun h_3 => ?_) (fun h_3 => ?_)
  · have T := T.1 h_3
    refine r_iload_n dX12_rides_199 rfl ?_
    refine r_bipush dX12_rides_200 (by decide) (by decide) ?_
    refine r_icmp_ne (tgt := 209) dX12_rides_202 (by decide) (fun h_2 => ?_) (fun h_2 => ?_)
    · have T := T.1 h_2
      refine r_aload_n dX12_rides_209 rfl ?_
      refine r_getA dX12_rides_210 fX12_91 rfl uX12_41 ?_
      refine r_iload_n dX12_rides_213 rfl ?_
      refine s_iald dX12_rides_214 rfl tX12_41 aX12_41 T.1 ?_
      have T := T.2
      refine r_sipush dX12_rides_215 (by decide) (by decide) ?_
      refine r_icmp_le (tgt := 226) dX12_rides_218 (by decide) (fun h_1 => ?_) (fun h_1 => ?_)
      · have T := T.1 h_1
        refine r_aload_n dX12_rides_226 rfl ?_
        refine r_getA dX12_rides_227 fX12_91 rfl uX12_41 ?_
        refine r_iload_n dX12_rides_230 rfl ?_
        refine s_iald dX12_rides_231 rfl tX12_41 aX12_41 T.1 ?_
        have T := T.2
        exact r_ireturn dX12_rides_232 rfl ⟨_, rfl, T⟩
      · have T := T.2 h_1
        refine r_bipush dX12_rides_221 (by decide) (by decide) ?_
        refine r_goto (tgt := 232) dX12_rides_223 (by decide) ?_
        exact r_ireturn dX12_rides_232 rfl ⟨_, rfl, T⟩
    · have T := T.2 h_2
      refine r_iload_n dX12_rides_205 rfl ?_
      refine r_goto (tgt := 232) dX12_rides_206 (by decide) ?_
      exact r_ireturn dX12_rides_232 rfl ⟨_, rfl, T⟩
  · have T := T.2 h_3
    refine r_aload_n dX12_rides_82 rfl ?_
    refine r_callVI (md' := mX12_nextRider) (as := []) dX12_rides_83 lX12_467 iX12_nextRider rfl rfl rfl (Nat.le_of_ble_eq_true rfl) T (fun r_1 M1 T => ?_)
    refine r_istore dX12_rides_86 (by decide) rfl ?_
    refine r_aload_n dX12_rides_88 rfl ?_
    refine r_getA dX12_rides_89 fX12_48 rfl uX12_26 ?_
    refine r_sipush dX12_rides_92 (by decide) (by decide) ?_
    refine r_iload dX12_rides_95 rfl ?_
    refine r_iadd dX12_rides_97 ?_
    refine s_iald dX12_rides_98 rfl tX12_26 aX12_26 T.1 ?_
    have T := T.2
    refine r_aload_n dX12_rides_99 rfl ?_
    refine r_getA dX12_rides_100 fX12_48 rfl uX12_26 ?_
    refine r_bipush dX12_rides_103 (by decide) (by decide) ?_
    refine s_iald dX12_rides_105 rfl tX12_26 aX12_26 (by decide) ?_
    refine r_iadd dX12_rides_106 ?_
    refine r_iconst dX12_rides_107 (by decide) ?_
    refine r_isub dX12_rides_108 ?_
    refine r_aload_n dX12_rides_109 rfl ?_
    refine r_getA dX12_rides_110 fX12_48 rfl uX12_26 ?_
    refine r_bipush dX12_rides_113 (by decide) (by decide) ?_
    refine s_iald dX12_rides_115 rfl tX12_26 aX12_26 (by decide) ?_
    refine r_idiv dX12_rides_116 T.1 ?_
    have T := T.2
    refine r_aload_n dX12_rides_117 rfl ?_
    refine r_getA dX12_rides_118 fX12_48 rfl uX12_26 ?_
    refine r_bipush dX12_rides_121 (by decide) (by decide) ?_
    refine s_iald dX12_rides_123 rfl tX12_26 aX12_26 (by decide) ?_
    refine r_imul dX12_rides_124 ?_
    refine r_istore dX12_rides_125 (by decide) rfl ?_
    exact T
set_option maxRecDepth 20000 in
set_option maxHeartbeats 1000000 in
theorem bX12_rides_127 {G : Gx} {K : Kx} {n : Nat} {M : Mem} {Q : Int → Mem → Prop}  {x1 : Int} {x2 : Int} {x3 : Int} {x4 : Int} {x5 : Int}  (T : OkI G n mX12_ridesIn [vO 0, vI x5] M (fun r_1 M1 => (¬ r_1 = M1 0 26 5 → (0 ≤ x4 ∧ x4 < 20) ∧ (∀ M2 : Mem, M2 = mset M1 0 41 x4.toNat x5 → (1439 < x5 → CW G K mX12_rides (n + 1) 71 [some (vO 0), some (vI x1), some (vI x2), some (vI (wr (x3 + 1))), none, none] [] M2 (qI Q)) ∧ (¬ (1439 < x5) → (0 ≤ wr (288 + x4) ∧ wr (288 + x4) < 328) ∧ (OkI G n mX12_later [vI x2, vI (wr (x5 - (M2 0 26 (wr (288 + x4)).toNat)))] M2 (fun r_2 M3 => CW G K mX12_rides (n + 1) 71 [some (vO 0), some (vI x1), some (vI r_2), some (vI (wr (x3 + 1))), none, none] [] M3 (qI Q)))))) ∧ (r_1 = M1 0 26 5 → CW G K mX12_rides (n + 1) 127 [some (vO 0), some (vI x1), some (vI x2), some (vI x3), some (vI x4), some (vI (wr (x5 + (M1 0 26 6))))] [] M1 (qI Q)))) : CW G K mX12_rides (n + 1) 127 [some (vO 0), some (vI x1), some (vI x2), some (vI x3), some (vI x4), some (vI x5)] [] M (qI Q) := by
  refine r_aload_n dX12_rides_127 rfl ?_
  refine r_iload dX12_rides_128 rfl ?_
  refine r_callVI (md' := mX12_ridesIn) (as := [vI x5]) dX12_rides_130 lX12_470 iX12_ridesIn rfl rfl rfl (Nat.le_of_ble_eq_true rfl) T (fun r_1 M1 T => ?_)
  refine r_aload_n dX12_rides_133 rfl ?_
  refine r_getA dX12_rides_134 fX12_48 rfl uX12_26 ?_
  refine r_iconst dX12_rides_137 (by decide) ?_
  refine s_iald dX12_rides_138 rfl tX12_26 aX12_26 (by decide) ?_
  refine r_icmp_ne (tgt := 157) dX12_rides_139 (by decide) (fun h_2 => ?_) (fun h_2 => ?_)
  · have T := T.1 h_2
    refine r_aload_n dX12_rides_157 rfl ?_
    refine r_getA dX12_rides_158 fX12_91 rfl uX12_41 ?_
    refine r_iload dX12_rides_161 rfl ?_
    refine r_iload dX12_rides_163 rfl ?_
    refine n_iast dX12_rides_165 rfl tX12_41 aX12_41 T.1 (fun M2 hM2 => ?_)
    have T := T.2 M2 hM2
    refine r_iload dX12_rides_166 rfl ?_
    refine r_sipush dX12_rides_168 (by decide) (by decide) ?_
    refine r_icmp_gt (tgt := 193) dX12_rides_171 (by decide) (fun h_1 => ?_) (fun h_1 => ?_)
    · have T := T.1 h_1
      refine r_iinc dX12_rides_193 rfl (by decide) rfl ?_
      refine r_goto (tgt := 71) dX12_rides_196 (by decide) ?_
      exact CW_msk [true, true, true, true, false, false] rfl T
    · have T := T.2 h_1
      refine r_iload_n dX12_rides_174 rfl ?_
      refine r_iload dX12_rides_175 rfl ?_
      refine r_aload_n dX12_rides_177 rfl ?_
      refine r_getA dX12_rides_178 fX12_48 rfl uX12_26 ?_
      refine r_sipush dX12_rides_181 (by decide) (by decide) ?_
      refine r_iload dX12_rides_184 rfl ?_
      refine r_iadd dX12_rides_186 ?_
      refine s_iald dX12_rides_187 rfl tX12_26 aX12_26 T.1 ?_
      have T := T.2
      refine r_isub dX12_rides_188 ?_
      refine r_callSI (md' := mX12_later) (as := [vI x2, vI (wr (x5 - (M2 0 26 (wr (288 + x4)).toNat)))]) dX12_rides_189 lX12_404 iX12_later rfl rfl (Nat.le_of_ble_eq_true rfl) T (fun r_2 M3 T => ?_)
      refine r_istore_n dX12_rides_192 (by decide) rfl ?_
      refine r_iinc dX12_rides_193 rfl (by decide) rfl ?_
      refine r_goto (tgt := 71) dX12_rides_196 (by decide) ?_
      exact CW_msk [true, true, true, true, false, false] rfl T
  · have T := T.2 h_2
    refine r_iload dX12_rides_142 rfl ?_
    refine r_aload_n dX12_rides_144 rfl ?_
    refine r_getA dX12_rides_145 fX12_48 rfl uX12_26 ?_
    refine r_bipush dX12_rides_148 (by decide) (by decide) ?_
    refine s_iald dX12_rides_150 rfl tX12_26 aX12_26 (by decide) ?_
    refine r_iadd dX12_rides_151 ?_
    refine r_istore dX12_rides_152 (by decide) rfl ?_
    refine r_goto (tgt := 127) dX12_rides_154 (by decide) ?_
    exact T
theorem eX12_rides {G : Gx} {n : Nat} {M : Mem} {Q : Int → Mem → Prop}  {x1 : Int} (h : ∀ K : Kx, CW G K mX12_rides n 0 [some (vO 0), some (vI x1), none, none, none, none] [] M (qI Q)) : OkI G n mX12_rides [vO 0, vI x1] M Q := Ok_of (by decide) (Nat.le_of_ble_eq_true rfl) rfl h
-- DownOnlyModel customer (II)I
set_option maxRecDepth 20000 in
set_option maxHeartbeats 1000000 in
theorem bX12_customer_0 {G : Gx} {K : Kx} {n : Nat} {M : Mem} {Q : Int → Mem → Prop}  {x1 : Int} {x2 : Int}  (T : (¬ x1 = (-1) → (M 0 26 10 = 10 → Q (-2) M) ∧ (¬ (M 0 26 10 = 10) → OkI G n mX12_in [vL x1, vL 0, vL 5] M (fun r_1 M1 => (r_1 = 0 → Q (-2) M1) ∧ (¬ (r_1 = 0) → OkI G n mX12_in [vL x2, vL 0, vL 5] M1 (fun r_2 M2 => (r_2 = 0 → Q (-2) M2) ∧ (¬ (r_2 = 0) → (¬ x1 = x2 → (0 ≤ wr (308 + (wr (2 * (M2 0 26 10)))) ∧ wr (308 + (wr (2 * (M2 0 26 10)))) < 328) ∧ (∀ M3 : Mem, M3 = mset M2 0 26 (wr (308 + (wr (2 * (M2 0 26 10))))).toNat x1 → (0 ≤ wr (wr (308 + (wr (2 * (M3 0 26 10)))) + 1) ∧ wr (wr (308 + (wr (2 * (M3 0 26 10)))) + 1) < 328) ∧ (∀ M4 : Mem, M4 = mset M3 0 26 (wr (wr (308 + (wr (2 * (M3 0 26 10)))) + 1)).toNat x2 → ∀ M5 : Mem, M5 = mset M4 0 26 10 (wr (M4 0 26 10 + 1)) → Q (M5 0 26 10) M5))) ∧ (x1 = x2 → Q (-2) M2))))))) ∧ (x1 = (-1) → ∀ M6 : Mem, M6 = mset M 0 26 10 0 → Q 0 M6)) : CW G K mX12_customer (n + 1) 0 [some (vO 0), some (vI x1), some (vI x2)] [] M (qI Q) := by
  refine r_iload_n dX12_customer_0 rfl ?_
  refine r_iconst dX12_customer_1 (by decide) ?_
  refine r_icmp_ne (tgt := 15) dX12_customer_2 (by decide) (fun h_5 => ?_) (fun h_5 => ?_)
  · have T := T.1 h_5
    refine r_aload_n dX12_customer_15 rfl ?_
    refine r_getA dX12_customer_16 fX12_48 rfl uX12_26 ?_
    refine r_bipush dX12_customer_19 (by decide) (by decide) ?_
    refine s_iald dX12_customer_21 rfl tX12_26 aX12_26 (by decide) ?_
    refine r_bipush dX12_customer_22 (by decide) (by decide) ?_
    refine r_icmp_eq (tgt := 56) dX12_customer_24 (by decide) (fun h_4 => ?_) (fun h_4 => ?_)
    · have T := T.1 h_4
      refine r_bipush dX12_customer_56 (by decide) (by decide) ?_
      exact r_ireturn dX12_customer_58 rfl ⟨_, rfl, T⟩
    · have T := T.2 h_4
      refine r_iload_n dX12_customer_27 rfl ?_
      refine r_i2l dX12_customer_28 ?_
      refine r_lconst (z := 0) dX12_customer_29 (by decide) (by decide) ?_
      refine r_ldc2 (z := 5) dX12_customer_30 kX12_339 (by decide) (by decide) ?_
      refine r_callSI (md' := mX12_in) (as := [vL x1, vL 0, vL 5]) dX12_customer_33 lX12_148 iX12_in rfl rfl (Nat.le_of_ble_eq_true rfl) T (fun r_1 M1 T => ?_)
      refine r_if_eq (tgt := 56) dX12_customer_36 (by decide) (fun h_3 => ?_) (fun h_3 => ?_)
      · have T := T.1 h_3
        refine r_bipush dX12_customer_56 (by decide) (by decide) ?_
        exact r_ireturn dX12_customer_58 rfl ⟨_, rfl, T⟩
      · have T := T.2 h_3
        refine r_iload_n dX12_customer_39 rfl ?_
        refine r_i2l dX12_customer_40 ?_
        refine r_lconst (z := 0) dX12_customer_41 (by decide) (by decide) ?_
        refine r_ldc2 (z := 5) dX12_customer_42 kX12_339 (by decide) (by decide) ?_
        refine r_callSI (md' := mX12_in) (as := [vL x2, vL 0, vL 5]) dX12_customer_45 lX12_148 iX12_in rfl rfl (Nat.le_of_ble_eq_true rfl) T (fun r_2 M2 T => ?_)
        refine r_if_eq (tgt := 56) dX12_customer_48 (by decide) (fun h_2 => ?_) (fun h_2 => ?_)
        · have T := T.1 h_2
          refine r_bipush dX12_customer_56 (by decide) (by decide) ?_
          exact r_ireturn dX12_customer_58 rfl ⟨_, rfl, T⟩
        · have T := T.2 h_2
          refine r_iload_n dX12_customer_51 rfl ?_
          refine r_iload_n dX12_customer_52 rfl ?_
          refine r_icmp_ne (tgt := 59) dX12_customer_53 (by decide) (fun h_1 => ?_) (fun h_1 => ?_)
          · have T := T.1 h_1
            refine r_aload_n dX12_customer_59 rfl ?_
            refine r_getA dX12_customer_60 fX12_48 rfl uX12_26 ?_
            refine r_sipush dX12_customer_63 (by decide) (by decide) ?_
            refine r_iconst dX12_customer_66 (by decide) ?_
            refine r_aload_n dX12_customer_67 rfl ?_
            refine r_getA dX12_customer_68 fX12_48 rfl uX12_26 ?_
            refine r_bipush dX12_customer_71 (by decide) (by decide) ?_
            refine s_iald dX12_customer_73 rfl tX12_26 aX12_26 (by decide) ?_
            refine r_imul dX12_customer_74 ?_
            refine r_iadd dX12_customer_75 ?_
            refine r_iload_n dX12_customer_76 rfl ?_
            refine n_iast dX12_customer_77 rfl tX12_26 aX12_26 T.1 (fun M3 hM3 => ?_)
            have T := T.2 M3 hM3
            refine r_aload_n dX12_customer_78 rfl ?_
            refine r_getA dX12_customer_79 fX12_48 rfl uX12_26 ?_
            refine r_sipush dX12_customer_82 (by decide) (by decide) ?_
            refine r_iconst dX12_customer_85 (by decide) ?_
            refine r_aload_n dX12_customer_86 rfl ?_
            refine r_getA dX12_customer_87 fX12_48 rfl uX12_26 ?_
            refine r_bipush dX12_customer_90 (by decide) (by decide) ?_
            refine s_iald dX12_customer_92 rfl tX12_26 aX12_26 (by decide) ?_
            refine r_imul dX12_customer_93 ?_
            refine r_iadd dX12_customer_94 ?_
            refine r_iconst dX12_customer_95 (by decide) ?_
            refine r_iadd dX12_customer_96 ?_
            refine r_iload_n dX12_customer_97 rfl ?_
            refine n_iast dX12_customer_98 rfl tX12_26 aX12_26 T.1 (fun M4 hM4 => ?_)
            have T := T.2 M4 hM4
            refine r_aload_n dX12_customer_99 rfl ?_
            refine r_getA dX12_customer_100 fX12_48 rfl uX12_26 ?_
            refine r_bipush dX12_customer_103 (by decide) (by decide) ?_
            refine r_dup2 dX12_customer_105 rfl rfl ?_
            refine s_iald dX12_customer_106 rfl tX12_26 aX12_26 (by decide) ?_
            refine r_iconst dX12_customer_107 (by decide) ?_
            refine r_iadd dX12_customer_108 ?_
            refine n_iast dX12_customer_109 rfl tX12_26 aX12_26 (by decide) (fun M5 hM5 => ?_)
            have T := T M5 hM5
            refine r_aload_n dX12_customer_110 rfl ?_
            refine r_getA dX12_customer_111 fX12_48 rfl uX12_26 ?_
            refine r_bipush dX12_customer_114 (by decide) (by decide) ?_
            refine s_iald dX12_customer_116 rfl tX12_26 aX12_26 (by decide) ?_
            exact r_ireturn dX12_customer_117 rfl ⟨_, rfl, T⟩
          · have T := T.2 h_1
            refine r_bipush dX12_customer_56 (by decide) (by decide) ?_
            exact r_ireturn dX12_customer_58 rfl ⟨_, rfl, T⟩
  · have T := T.2 h_5
    refine r_aload_n dX12_customer_5 rfl ?_
    refine r_getA dX12_customer_6 fX12_48 rfl uX12_26 ?_
    refine r_bipush dX12_customer_9 (by decide) (by decide) ?_
    refine r_iconst dX12_customer_11 (by decide) ?_
    refine n_iast dX12_customer_12 rfl tX12_26 aX12_26 (by decide) (fun M6 hM6 => ?_)
    have T := T M6 hM6
    refine r_iconst dX12_customer_13 (by decide) ?_
    exact r_ireturn dX12_customer_14 rfl ⟨_, rfl, T⟩
theorem eX12_customer {G : Gx} {n : Nat} {M : Mem} {Q : Int → Mem → Prop}  {x1 : Int} {x2 : Int} (h : ∀ K : Kx, CW G K mX12_customer n 0 [some (vO 0), some (vI x1), some (vI x2)] [] M (qI Q)) : OkI G n mX12_customer [vO 0, vI x1, vI x2] M Q := Ok_of (by decide) (Nat.le_of_ble_eq_true rfl) rfl h
-- DownOnlyModel isOrder (II)Z
set_option maxRecDepth 20000 in
set_option maxHeartbeats 1000000 in
theorem bX12_isOrder_0 {G : Gx} {K : Kx} {n : Nat} {M : Mem} {Q : Int → Mem → Prop}  {x1 : Int} {x2 : Int}  (T : CW G K mX12_isOrder n 10 [some (vO 0), none, some (vI x2), some (vI x1), some (vI 0), some (vI (wr (x2 - 1)))] [] M (qI Q)) : CW G K mX12_isOrder n 0 [some (vO 0), some (vI x1), some (vI x2), none, none, none] [] M (qI Q) := by
  refine r_iload_n dX12_isOrder_0 rfl ?_
  refine r_istore_n dX12_isOrder_1 (by decide) rfl ?_
  refine r_iconst dX12_isOrder_2 (by decide) ?_
  refine r_istore dX12_isOrder_3 (by decide) rfl ?_
  refine r_iload_n dX12_isOrder_5 rfl ?_
  refine r_iconst dX12_isOrder_6 (by decide) ?_
  refine r_isub dX12_isOrder_7 ?_
  refine r_istore dX12_isOrder_8 (by decide) rfl ?_
  exact CW_msk [true, false, true, true, true, true] rfl T
set_option maxRecDepth 20000 in
set_option maxHeartbeats 1000000 in
theorem bX12_isOrder_10 {G : Gx} {K : Kx} {n : Nat} {M : Mem} {Q : Int → Mem → Prop}  {x2 : Int} {x3 : Int} {x4 : Int} {x5 : Int}  (T : (x5 < 0 → (¬ x4 = wr (bShl 1 x2 - 1) → Q 0 M) ∧ (x4 = wr (bShl 1 x2 - 1) → Q 1 M)) ∧ (¬ (x5 < 0) → (x2 ≠ 0) ∧ ((0 ≤ x5 ∧ x5 < 6) ∧ (∀ M1 : Mem, M1 = mset M 0 42 x5.toNat (wr (Int.tmod x3 x2)) → (x2 ≠ 0) ∧ ((0 ≤ x5 ∧ x5 < 6) ∧ (CW G K mX12_isOrder n 10 [some (vO 0), none, some (vI x2), some (vI (wr (Int.tdiv x3 x2))), some (vI (bOr x4 (bShl 1 (M1 0 42 x5.toNat)))), some (vI (wr (x5 + (-1))))] [] M1 (qI Q))))))) : CW G K mX12_isOrder n 10 [some (vO 0), none, some (vI x2), some (vI x3), some (vI x4), some (vI x5)] [] M (qI Q) := by
  refine r_iload dX12_isOrder_10 rfl ?_
  refine r_if_lt (tgt := 49) dX12_isOrder_12 (by decide) (fun h_2 => ?_) (fun h_2 => ?_)
  · have T := T.1 h_2
    refine r_iload dX12_isOrder_49 rfl ?_
    refine r_iconst dX12_isOrder_51 (by decide) ?_
    refine r_iload_n dX12_isOrder_52 rfl ?_
    refine r_ishl dX12_isOrder_53 ?_
    refine r_iconst dX12_isOrder_54 (by decide) ?_
    refine r_isub dX12_isOrder_55 ?_
    refine r_icmp_ne (tgt := 63) dX12_isOrder_56 (by decide) (fun h_1 => ?_) (fun h_1 => ?_)
    · have T := T.1 h_1
      refine r_iconst dX12_isOrder_63 (by decide) ?_
      exact r_zreturn dX12_isOrder_64 rfl (by decide) ⟨_, rfl, T⟩
    · have T := T.2 h_1
      refine r_iconst dX12_isOrder_59 (by decide) ?_
      refine r_goto (tgt := 64) dX12_isOrder_60 (by decide) ?_
      exact r_zreturn dX12_isOrder_64 rfl (by decide) ⟨_, rfl, T⟩
  · have T := T.2 h_2
    refine r_aload_n dX12_isOrder_15 rfl ?_
    refine r_getA dX12_isOrder_16 fX12_94 rfl uX12_42 ?_
    refine r_iload dX12_isOrder_19 rfl ?_
    refine r_iload_n dX12_isOrder_21 rfl ?_
    refine r_iload_n dX12_isOrder_22 rfl ?_
    refine r_irem dX12_isOrder_23 T.1 ?_
    have T := T.2
    refine n_iast dX12_isOrder_24 rfl tX12_42 aX12_42 T.1 (fun M1 hM1 => ?_)
    have T := T.2 M1 hM1
    refine r_iload_n dX12_isOrder_25 rfl ?_
    refine r_iload_n dX12_isOrder_26 rfl ?_
    refine r_idiv dX12_isOrder_27 T.1 ?_
    have T := T.2
    refine r_istore_n dX12_isOrder_28 (by decide) rfl ?_
    refine r_iload dX12_isOrder_29 rfl ?_
    refine r_iconst dX12_isOrder_31 (by decide) ?_
    refine r_aload_n dX12_isOrder_32 rfl ?_
    refine r_getA dX12_isOrder_33 fX12_94 rfl uX12_42 ?_
    refine r_iload dX12_isOrder_36 rfl ?_
    refine s_iald dX12_isOrder_38 rfl tX12_42 aX12_42 T.1 ?_
    have T := T.2
    refine r_ishl dX12_isOrder_39 ?_
    refine r_ior dX12_isOrder_40 ?_
    refine r_istore dX12_isOrder_41 (by decide) rfl ?_
    refine r_iinc dX12_isOrder_43 rfl (by decide) rfl ?_
    refine r_goto (tgt := 10) dX12_isOrder_46 (by decide) ?_
    exact T
theorem eX12_isOrder {G : Gx} {n : Nat} {M : Mem} {Q : Int → Mem → Prop}  {x1 : Int} {x2 : Int} (h : ∀ K : Kx, CW G K mX12_isOrder n 0 [some (vO 0), some (vI x1), some (vI x2), none, none, none] [] M (qI Q)) : OkI G n mX12_isOrder [vO 0, vI x1, vI x2] M Q := Ok_of (by decide) (Nat.le_of_ble_eq_true rfl) rfl h
-- DownOnlyModel goDown (I)I
set_option maxRecDepth 20000 in
set_option maxHeartbeats 1000000 in
theorem bX12_goDown_0 {G : Gx} {K : Kx} {n : Nat} {M : Mem} {Q : Int → Mem → Prop}  {x1 : Int}  (T : CW G K mX12_goDown n 4 [some (vO 0), some (vI x1), some (vI 0), some (vI 0), none, none, none] [] M (qI Q)) : CW G K mX12_goDown n 0 [some (vO 0), some (vI x1), none, none, none, none, none] [] M (qI Q) := by
  refine r_iconst dX12_goDown_0 (by decide) ?_
  refine r_istore_n dX12_goDown_1 (by decide) rfl ?_
  refine r_iconst dX12_goDown_2 (by decide) ?_
  refine r_istore_n dX12_goDown_3 (by decide) rfl ?_
  exact T
set_option maxRecDepth 20000 in
set_option maxHeartbeats 1000000 in
theorem bX12_goDown_4 {G : Gx} {K : Kx} {n : Nat} {M : Mem} {Q : Int → Mem → Prop}  {x1 : Int} {x2 : Int} {x3 : Int}  (T : (M 0 26 10 ≤ x3 → Q x2 M) ∧ (¬ (M 0 26 10 ≤ x3) → CW G K mX12_goDown n 24 [some (vO 0), some (vI x1), some (vI x2), some (vI x3), some (vI (-1)), some (vI (-1)), some (vI 0)] [] M (qI Q))) : CW G K mX12_goDown n 4 [some (vO 0), some (vI x1), some (vI x2), some (vI x3), none, none, none] [] M (qI Q) := by
  refine r_iload_n dX12_goDown_4 rfl ?_
  refine r_aload_n dX12_goDown_5 rfl ?_
  refine r_getA dX12_goDown_6 fX12_48 rfl uX12_26 ?_
  refine r_bipush dX12_goDown_9 (by decide) (by decide) ?_
  refine s_iald dX12_goDown_11 rfl tX12_26 aX12_26 (by decide) ?_
  refine r_icmp_ge (tgt := 116) dX12_goDown_12 (by decide) (fun h_1 => ?_) (fun h_1 => ?_)
  · have T := T.1 h_1
    refine r_iload_n dX12_goDown_116 rfl ?_
    exact r_ireturn dX12_goDown_117 rfl ⟨_, rfl, T⟩
  · have T := T.2 h_1
    refine r_iconst dX12_goDown_15 (by decide) ?_
    refine r_istore dX12_goDown_16 (by decide) rfl ?_
    refine r_iconst dX12_goDown_18 (by decide) ?_
    refine r_istore dX12_goDown_19 (by decide) rfl ?_
    refine r_iconst dX12_goDown_21 (by decide) ?_
    refine r_istore dX12_goDown_22 (by decide) rfl ?_
    exact T
set_option maxRecDepth 20000 in
set_option maxHeartbeats 1000000 in
theorem bX12_goDown_24 {G : Gx} {K : Kx} {n : Nat} {M : Mem} {Q : Int → Mem → Prop}  {x1 : Int} {x2 : Int} {x3 : Int} {x4 : Int} {x5 : Int} {x6 : Int}  (T : (x1 ≤ x6 → (x4 < 0 → CW G K mX12_goDown n 4 [some (vO 0), some (vI x1), some (vI (wr (x2 + 0))), some (vI (wr (x3 + 1))), none, none, none] [] M (qI Q)) ∧ (¬ (x4 < 0) → (x5 ≤ x4 → CW G K mX12_goDown n 4 [some (vO 0), some (vI x1), some (vI (wr (x2 + 0))), some (vI (wr (x3 + 1))), none, none, none] [] M (qI Q)) ∧ (¬ (x5 ≤ x4) → CW G K mX12_goDown n 4 [some (vO 0), some (vI x1), some (vI (wr (x2 + 1))), some (vI (wr (x3 + 1))), none, none, none] [] M (qI Q)))) ∧ (¬ (x1 ≤ x6) → (0 ≤ x6 ∧ x6 < 6) ∧ ((0 ≤ wr (308 + (wr (2 * x3))) ∧ wr (308 + (wr (2 * x3))) < 328) ∧ ((¬ M 0 42 x6.toNat = M 0 26 (wr (308 + (wr (2 * x3)))).toNat → CW G K mX12_goDown n 56 [some (vO 0), some (vI x1), some (vI x2), some (vI x3), some (vI x4), some (vI x5), some (vI x6)] [] M (qI Q)) ∧ (M 0 42 x6.toNat = M 0 26 (wr (308 + (wr (2 * x3)))).toNat → CW G K mX12_goDown n 56 [some (vO 0), some (vI x1), some (vI x2), some (vI x3), some (vI x6), some (vI x5), some (vI x6)] [] M (qI Q)))))) : CW G K mX12_goDown n 24 [some (vO 0), some (vI x1), some (vI x2), some (vI x3), some (vI x4), some (vI x5), some (vI x6)] [] M (qI Q) := by
  refine r_iload dX12_goDown_24 rfl ?_
  refine r_iload_n dX12_goDown_26 rfl ?_
  refine r_icmp_ge (tgt := 90) dX12_goDown_27 (by decide) (fun h_4 => ?_) (fun h_4 => ?_)
  · have T := T.1 h_4
    refine r_iload_n dX12_goDown_90 rfl ?_
    refine r_iload dX12_goDown_91 rfl ?_
    refine r_if_lt (tgt := 107) dX12_goDown_93 (by decide) (fun h_2 => ?_) (fun h_2 => ?_)
    · have T := T.1 h_2
      refine r_iconst dX12_goDown_107 (by decide) ?_
      refine r_iadd dX12_goDown_108 ?_
      refine r_istore_n dX12_goDown_109 (by decide) rfl ?_
      refine r_iinc dX12_goDown_110 rfl (by decide) rfl ?_
      refine r_goto (tgt := 4) dX12_goDown_113 (by decide) ?_
      exact CW_msk [true, true, true, true, false, false, false] rfl T
    · have T := T.2 h_2
      refine r_iload dX12_goDown_96 rfl ?_
      refine r_iload dX12_goDown_98 rfl ?_
      refine r_icmp_le (tgt := 107) dX12_goDown_100 (by decide) (fun h_1 => ?_) (fun h_1 => ?_)
      · have T := T.1 h_1
        refine r_iconst dX12_goDown_107 (by decide) ?_
        refine r_iadd dX12_goDown_108 ?_
        refine r_istore_n dX12_goDown_109 (by decide) rfl ?_
        refine r_iinc dX12_goDown_110 rfl (by decide) rfl ?_
        refine r_goto (tgt := 4) dX12_goDown_113 (by decide) ?_
        exact CW_msk [true, true, true, true, false, false, false] rfl T
      · have T := T.2 h_1
        refine r_iconst dX12_goDown_103 (by decide) ?_
        refine r_goto (tgt := 108) dX12_goDown_104 (by decide) ?_
        refine r_iadd dX12_goDown_108 ?_
        refine r_istore_n dX12_goDown_109 (by decide) rfl ?_
        refine r_iinc dX12_goDown_110 rfl (by decide) rfl ?_
        refine r_goto (tgt := 4) dX12_goDown_113 (by decide) ?_
        exact CW_msk [true, true, true, true, false, false, false] rfl T
  · have T := T.2 h_4
    refine r_aload_n dX12_goDown_30 rfl ?_
    refine r_getA dX12_goDown_31 fX12_94 rfl uX12_42 ?_
    refine r_iload dX12_goDown_34 rfl ?_
    refine s_iald dX12_goDown_36 rfl tX12_42 aX12_42 T.1 ?_
    have T := T.2
    refine r_aload_n dX12_goDown_37 rfl ?_
    refine r_getA dX12_goDown_38 fX12_48 rfl uX12_26 ?_
    refine r_sipush dX12_goDown_41 (by decide) (by decide) ?_
    refine r_iconst dX12_goDown_44 (by decide) ?_
    refine r_iload_n dX12_goDown_45 rfl ?_
    refine r_imul dX12_goDown_46 ?_
    refine r_iadd dX12_goDown_47 ?_
    refine s_iald dX12_goDown_48 rfl tX12_26 aX12_26 T.1 ?_
    have T := T.2
    refine r_icmp_ne (tgt := 56) dX12_goDown_49 (by decide) (fun h_3 => ?_) (fun h_3 => ?_)
    · have T := T.1 h_3
      exact T
    · have T := T.2 h_3
      refine r_iload dX12_goDown_52 rfl ?_
      refine r_istore dX12_goDown_54 (by decide) rfl ?_
      exact T
set_option maxRecDepth 20000 in
set_option maxHeartbeats 1000000 in
theorem bX12_goDown_56 {G : Gx} {K : Kx} {n : Nat} {M : Mem} {Q : Int → Mem → Prop}  {x1 : Int} {x2 : Int} {x3 : Int} {x4 : Int} {x5 : Int} {x6 : Int}  (T : (0 ≤ x6 ∧ x6 < 6) ∧ ((0 ≤ wr (wr (308 + (wr (2 * x3))) + 1) ∧ wr (wr (308 + (wr (2 * x3))) + 1) < 328) ∧ ((¬ M 0 42 x6.toNat = M 0 26 (wr (wr (308 + (wr (2 * x3))) + 1)).toNat → CW G K mX12_goDown n 24 [some (vO 0), some (vI x1), some (vI x2), some (vI x3), some (vI x4), some (vI x5), some (vI (wr (x6 + 1)))] [] M (qI Q)) ∧ (M 0 42 x6.toNat = M 0 26 (wr (wr (308 + (wr (2 * x3))) + 1)).toNat → CW G K mX12_goDown n 24 [some (vO 0), some (vI x1), some (vI x2), some (vI x3), some (vI x4), some (vI x6), some (vI (wr (x6 + 1)))] [] M (qI Q))))) : CW G K mX12_goDown n 56 [some (vO 0), some (vI x1), some (vI x2), some (vI x3), some (vI x4), some (vI x5), some (vI x6)] [] M (qI Q) := by
  refine r_aload_n dX12_goDown_56 rfl ?_
  refine r_getA dX12_goDown_57 fX12_94 rfl uX12_42 ?_
  refine r_iload dX12_goDown_60 rfl ?_
  refine s_iald dX12_goDown_62 rfl tX12_42 aX12_42 T.1 ?_
  have T := T.2
  refine r_aload_n dX12_goDown_63 rfl ?_
  refine r_getA dX12_goDown_64 fX12_48 rfl uX12_26 ?_
  refine r_sipush dX12_goDown_67 (by decide) (by decide) ?_
  refine r_iconst dX12_goDown_70 (by decide) ?_
  refine r_iload_n dX12_goDown_71 rfl ?_
  refine r_imul dX12_goDown_72 ?_
  refine r_iadd dX12_goDown_73 ?_
  refine r_iconst dX12_goDown_74 (by decide) ?_
  refine r_iadd dX12_goDown_75 ?_
  refine s_iald dX12_goDown_76 rfl tX12_26 aX12_26 T.1 ?_
  have T := T.2
  refine r_icmp_ne (tgt := 84) dX12_goDown_77 (by decide) (fun h_1 => ?_) (fun h_1 => ?_)
  · have T := T.1 h_1
    refine r_iinc dX12_goDown_84 rfl (by decide) rfl ?_
    refine r_goto (tgt := 24) dX12_goDown_87 (by decide) ?_
    exact T
  · have T := T.2 h_1
    refine r_iload dX12_goDown_80 rfl ?_
    refine r_istore dX12_goDown_82 (by decide) rfl ?_
    refine r_iinc dX12_goDown_84 rfl (by decide) rfl ?_
    refine r_goto (tgt := 24) dX12_goDown_87 (by decide) ?_
    exact T
theorem eX12_goDown {G : Gx} {n : Nat} {M : Mem} {Q : Int → Mem → Prop}  {x1 : Int} (h : ∀ K : Kx, CW G K mX12_goDown n 0 [some (vO 0), some (vI x1), none, none, none, none, none] [] M (qI Q)) : OkI G n mX12_goDown [vO 0, vI x1] M Q := Ok_of (by decide) (Nat.le_of_ble_eq_true rfl) rfl h
-- DownOnlyModel order (II)I
set_option maxRecDepth 20000 in
set_option maxHeartbeats 1000000 in
theorem bX12_order_0 {G : Gx} {K : Kx} {n : Nat} {M : Mem} {Q : Int → Mem → Prop}  {x1 : Int} {x2 : Int}  (T : OkI G n mX12_in [vL x1, vL 1, vL 6] M (fun r_1 M1 => (r_1 = 0 → Q (-1) M1) ∧ (¬ (r_1 = 0) → OkI G n mX12_in [vL x2, vL 0, vL 6] M1 (fun r_2 M2 => (r_2 = 0 → Q (-1) M2) ∧ (¬ (r_2 = 0) → (6 ≤ x2 → CW G K mX12_order (n + 1) 42 [some (vO 0), some (vI x1), some (vI x2), some (vI 1), some (vI 0), none, none, none] [] M2 (qI Q)) ∧ (¬ (6 ≤ x2) → (x2 < x1 → CW G K mX12_order (n + 1) 42 [some (vO 0), some (vI x1), some (vI x2), some (vI 1), some (vI 0), none, none, none] [] M2 (qI Q)) ∧ (¬ (x2 < x1) → Q (-1) M2))))))) : CW G K mX12_order (n + 1) 0 [some (vO 0), some (vI x1), some (vI x2), none, none, none, none, none] [] M (qI Q) := by
  refine r_iload_n dX12_order_0 rfl ?_
  refine r_i2l dX12_order_1 ?_
  refine r_lconst (z := 1) dX12_order_2 (by decide) (by decide) ?_
  refine r_ldc2 (z := 6) dX12_order_3 kX12_473 (by decide) (by decide) ?_
  refine r_callSI (md' := mX12_in) (as := [vL x1, vL 1, vL 6]) dX12_order_6 lX12_148 iX12_in rfl rfl (Nat.le_of_ble_eq_true rfl) T (fun r_1 M1 T => ?_)
  refine r_if_eq (tgt := 35) dX12_order_9 (by decide) (fun h_4 => ?_) (fun h_4 => ?_)
  · have T := T.1 h_4
    refine r_iconst dX12_order_35 (by decide) ?_
    exact r_ireturn dX12_order_36 rfl ⟨_, rfl, T⟩
  · have T := T.2 h_4
    refine r_iload_n dX12_order_12 rfl ?_
    refine r_i2l dX12_order_13 ?_
    refine r_lconst (z := 0) dX12_order_14 (by decide) (by decide) ?_
    refine r_ldc2 (z := 6) dX12_order_15 kX12_473 (by decide) (by decide) ?_
    refine r_callSI (md' := mX12_in) (as := [vL x2, vL 0, vL 6]) dX12_order_18 lX12_148 iX12_in rfl rfl (Nat.le_of_ble_eq_true rfl) T (fun r_2 M2 T => ?_)
    refine r_if_eq (tgt := 35) dX12_order_21 (by decide) (fun h_3 => ?_) (fun h_3 => ?_)
    · have T := T.1 h_3
      refine r_iconst dX12_order_35 (by decide) ?_
      exact r_ireturn dX12_order_36 rfl ⟨_, rfl, T⟩
    · have T := T.2 h_3
      refine r_iload_n dX12_order_24 rfl ?_
      refine r_bipush dX12_order_25 (by decide) (by decide) ?_
      refine r_icmp_ge (tgt := 37) dX12_order_27 (by decide) (fun h_2 => ?_) (fun h_2 => ?_)
      · have T := T.1 h_2
        refine r_iconst dX12_order_37 (by decide) ?_
        refine r_istore_n dX12_order_38 (by decide) rfl ?_
        refine r_iconst dX12_order_39 (by decide) ?_
        refine r_istore dX12_order_40 (by decide) rfl ?_
        exact T
      · have T := T.2 h_2
        refine r_iload_n dX12_order_30 rfl ?_
        refine r_iload_n dX12_order_31 rfl ?_
        refine r_icmp_lt (tgt := 37) dX12_order_32 (by decide) (fun h_1 => ?_) (fun h_1 => ?_)
        · have T := T.1 h_1
          refine r_iconst dX12_order_37 (by decide) ?_
          refine r_istore_n dX12_order_38 (by decide) rfl ?_
          refine r_iconst dX12_order_39 (by decide) ?_
          refine r_istore dX12_order_40 (by decide) rfl ?_
          exact T
        · have T := T.2 h_1
          refine r_iconst dX12_order_35 (by decide) ?_
          exact r_ireturn dX12_order_36 rfl ⟨_, rfl, T⟩
set_option maxRecDepth 20000 in
set_option maxHeartbeats 1000000 in
theorem bX12_order_42 {G : Gx} {K : Kx} {n : Nat} {M : Mem} {Q : Int → Mem → Prop}  {x1 : Int} {x2 : Int} {x3 : Int} {x4 : Int}  (T : (x1 ≤ x4 → CW G K mX12_order (n + 1) 64 [some (vO 0), some (vI x1), some (vI x2), some (vI x3), some (vI (-1)), some (vI 0), none, none] [] M (qI Q)) ∧ (¬ (x1 ≤ x4) → CW G K mX12_order (n + 1) 42 [some (vO 0), some (vI x1), some (vI x2), some (vI (wr (x3 * x1))), some (vI (wr (x4 + 1))), none, none, none] [] M (qI Q))) : CW G K mX12_order (n + 1) 42 [some (vO 0), some (vI x1), some (vI x2), some (vI x3), some (vI x4), none, none, none] [] M (qI Q) := by
  refine r_iload dX12_order_42 rfl ?_
  refine r_iload_n dX12_order_44 rfl ?_
  refine r_icmp_ge (tgt := 58) dX12_order_45 (by decide) (fun h_1 => ?_) (fun h_1 => ?_)
  · have T := T.1 h_1
    refine r_iconst dX12_order_58 (by decide) ?_
    refine r_istore dX12_order_59 (by decide) rfl ?_
    refine r_iconst dX12_order_61 (by decide) ?_
    refine r_istore dX12_order_62 (by decide) rfl ?_
    exact T
  · have T := T.2 h_1
    refine r_iload_n dX12_order_48 rfl ?_
    refine r_iload_n dX12_order_49 rfl ?_
    refine r_imul dX12_order_50 ?_
    refine r_istore_n dX12_order_51 (by decide) rfl ?_
    refine r_iinc dX12_order_52 rfl (by decide) rfl ?_
    refine r_goto (tgt := 42) dX12_order_55 (by decide) ?_
    exact T
set_option maxRecDepth 20000 in
set_option maxHeartbeats 1000000 in
theorem bX12_order_64 {G : Gx} {K : Kx} {n : Nat} {M : Mem} {Q : Int → Mem → Prop}  {x1 : Int} {x2 : Int} {x3 : Int} {x4 : Int} {x5 : Int}  (T : (x3 ≤ x5 → (¬ x2 = 6 → (0 ≤ x2 ∧ x2 < 6) ∧ (Q (M 0 43 x2.toNat) M)) ∧ (x2 = 6 → Q x4 M)) ∧ (¬ (x3 ≤ x5) → OkI G n mX12_isOrder [vO 0, vI x5, vI x1] M (fun r_1 M1 => (¬ r_1 = 0 → OkI G n mX12_goDown [vO 0, vI x1] M1 (fun r_2 M2 => (x4 < r_2 → CW G K mX12_order (n + 1) 107 [some (vO 0), some (vI x1), some (vI x2), some (vI x3), some (vI r_2), some (vI x5), none, some (vI 0)] [] M2 (qI Q)) ∧ (¬ (x4 < r_2) → CW G K mX12_order (n + 1) 64 [some (vO 0), some (vI x1), some (vI x2), some (vI x3), some (vI x4), some (vI (wr (x5 + 1))), none, none] [] M2 (qI Q)))) ∧ (r_1 = 0 → CW G K mX12_order (n + 1) 64 [some (vO 0), some (vI x1), some (vI x2), some (vI x3), some (vI x4), some (vI (wr (x5 + 1))), none, none] [] M1 (qI Q))))) : CW G K mX12_order (n + 1) 64 [some (vO 0), some (vI x1), some (vI x2), some (vI x3), some (vI x4), some (vI x5), none, none] [] M (qI Q) := by
  refine r_iload dX12_order_64 rfl ?_
  refine r_iload_n dX12_order_66 rfl ?_
  refine r_icmp_ge (tgt := 139) dX12_order_67 (by decide) (fun h_4 => ?_) (fun h_4 => ?_)
  · have T := T.1 h_4
    refine r_iload_n dX12_order_139 rfl ?_
    refine r_bipush dX12_order_140 (by decide) (by decide) ?_
    refine r_icmp_ne (tgt := 150) dX12_order_142 (by decide) (fun h_1 => ?_) (fun h_1 => ?_)
    · have T := T.1 h_1
      refine r_aload_n dX12_order_150 rfl ?_
      refine r_getA dX12_order_151 fX12_97 rfl uX12_43 ?_
      refine r_iload_n dX12_order_154 rfl ?_
      refine s_iald dX12_order_155 rfl tX12_43 aX12_43 T.1 ?_
      have T := T.2
      exact r_ireturn dX12_order_156 rfl ⟨_, rfl, T⟩
    · have T := T.2 h_1
      refine r_iload dX12_order_145 rfl ?_
      refine r_goto (tgt := 156) dX12_order_147 (by decide) ?_
      exact r_ireturn dX12_order_156 rfl ⟨_, rfl, T⟩
  · have T := T.2 h_4
    refine r_aload_n dX12_order_70 rfl ?_
    refine r_iload dX12_order_71 rfl ?_
    refine r_iload_n dX12_order_73 rfl ?_
    refine r_callVI (md' := mX12_isOrder) (as := [vI x5, vI x1]) dX12_order_74 lX12_475 iX12_isOrder rfl rfl rfl (Nat.le_of_ble_eq_true rfl) T (fun r_1 M1 T => ?_)
    refine r_if_ne (tgt := 83) dX12_order_77 (by decide) (fun h_3 => ?_) (fun h_3 => ?_)
    · have T := T.1 h_3
      refine r_aload_n dX12_order_83 rfl ?_
      refine r_iload_n dX12_order_84 rfl ?_
      refine r_callVI (md' := mX12_goDown) (as := [vI x1]) dX12_order_85 lX12_478 iX12_goDown rfl rfl rfl (Nat.le_of_ble_eq_true rfl) T (fun r_2 M2 T => ?_)
      refine r_istore dX12_order_88 (by decide) rfl ?_
      refine r_iload dX12_order_90 rfl ?_
      refine r_iload dX12_order_92 rfl ?_
      refine r_icmp_gt (tgt := 100) dX12_order_94 (by decide) (fun h_2 => ?_) (fun h_2 => ?_)
      · have T := T.1 h_2
        refine r_iload dX12_order_100 rfl ?_
        refine r_istore dX12_order_102 (by decide) rfl ?_
        refine r_iconst dX12_order_104 (by decide) ?_
        refine r_istore dX12_order_105 (by decide) rfl ?_
        exact CW_msk [true, true, true, true, true, true, false, true] rfl T
      · have T := T.2 h_2
        refine r_goto (tgt := 133) dX12_order_97 (by decide) ?_
        refine r_iinc dX12_order_133 rfl (by decide) rfl ?_
        refine r_goto (tgt := 64) dX12_order_136 (by decide) ?_
        exact CW_msk [true, true, true, true, true, true, false, false] rfl T
    · have T := T.2 h_3
      refine r_goto (tgt := 133) dX12_order_80 (by decide) ?_
      refine r_iinc dX12_order_133 rfl (by decide) rfl ?_
      refine r_goto (tgt := 64) dX12_order_136 (by decide) ?_
      exact T
set_option maxRecDepth 20000 in
set_option maxHeartbeats 1000000 in
theorem bX12_order_107 {G : Gx} {K : Kx} {n : Nat} {M : Mem} {Q : Int → Mem → Prop}  {x1 : Int} {x2 : Int} {x3 : Int} {x4 : Int} {x5 : Int} {x7 : Int}  (T : (x1 ≤ x7 → CW G K mX12_order (n + 1) 64 [some (vO 0), some (vI x1), some (vI x2), some (vI x3), some (vI x4), some (vI (wr (x5 + 1))), none, none] [] M (qI Q)) ∧ (¬ (x1 ≤ x7) → (0 ≤ x7 ∧ x7 < 6) ∧ ((0 ≤ x7 ∧ x7 < 6) ∧ (∀ M1 : Mem, M1 = mset M 0 43 x7.toNat (M 0 42 x7.toNat) → CW G K mX12_order (n + 1) 107 [some (vO 0), some (vI x1), some (vI x2), some (vI x3), some (vI x4), some (vI x5), none, some (vI (wr (x7 + 1)))] [] M1 (qI Q))))) : CW G K mX12_order (n + 1) 107 [some (vO 0), some (vI x1), some (vI x2), some (vI x3), some (vI x4), some (vI x5), none, some (vI x7)] [] M (qI Q) := by
  refine r_iload dX12_order_107 rfl ?_
  refine r_iload_n dX12_order_109 rfl ?_
  refine r_icmp_ge (tgt := 133) dX12_order_110 (by decide) (fun h_1 => ?_) (fun h_1 => ?_)
  · have T := T.1 h_1
    refine r_iinc dX12_order_133 rfl (by decide) rfl ?_
    refine r_goto (tgt := 64) dX12_order_136 (by decide) ?_
    exact CW_msk [true, true, true, true, true, true, false, false] rfl T
  · have T := T.2 h_1
    refine r_aload_n dX12_order_113 rfl ?_
    refine r_getA dX12_order_114 fX12_97 rfl uX12_43 ?_
    refine r_iload dX12_order_117 rfl ?_
    refine r_aload_n dX12_order_119 rfl ?_
    refine r_getA dX12_order_120 fX12_94 rfl uX12_42 ?_
    refine r_iload dX12_order_123 rfl ?_
    refine s_iald dX12_order_125 rfl tX12_42 aX12_42 T.1 ?_
    have T := T.2
    refine n_iast dX12_order_126 rfl tX12_43 aX12_43 T.1 (fun M1 hM1 => ?_)
    have T := T.2 M1 hM1
    refine r_iinc dX12_order_127 rfl (by decide) rfl ?_
    refine r_goto (tgt := 107) dX12_order_130 (by decide) ?_
    exact T
theorem eX12_order {G : Gx} {n : Nat} {M : Mem} {Q : Int → Mem → Prop}  {x1 : Int} {x2 : Int} (h : ∀ K : Kx, CW G K mX12_order n 0 [some (vO 0), some (vI x1), some (vI x2), none, none, none, none, none] [] M (qI Q)) : OkI G n mX12_order [vO 0, vI x1, vI x2] M Q := Ok_of (by decide) (Nat.le_of_ble_eq_true rfl) rfl h
-- DownOnlyModel comesHome (I)Z
set_option maxRecDepth 20000 in
set_option maxHeartbeats 1000000 in
theorem bX12_comesHome_0 {G : Gx} {K : Kx} {n : Nat} {M : Mem} {Q : Int → Mem → Prop}  {x1 : Int}  (T : (¬ M 0 26 3 = 1440 → OkI G n mX12_personOf [vO 0, vI x1, vI 0] M (fun r_1 M1 => (r_1 < 0 → OkI G n mX12_personOf [vO 0, vI x1, vI 3] M1 (fun r_2 M2 => CW G K mX12_comesHome (n + 1) 57 [some (vO 0), some (vI x1), none, none] [vI r_2] M2 (qI Q))) ∧ (¬ (r_1 < 0) → OkI G n mX12_personOf [vO 0, vI x1, vI 0] M1 (fun r_3 M3 => CW G K mX12_comesHome (n + 1) 57 [some (vO 0), some (vI x1), none, none] [vI r_3] M3 (qI Q))))) ∧ (M 0 26 3 = 1440 → OkI G n mX12_personOf [vO 0, vI x1, vI 0] M (fun r_4 M4 => OkI G n mX12_personOf [vO 0, vI x1, vI 1] M4 (fun r_5 M5 => (¬ r_4 = r_5 → Q 0 M5) ∧ (r_4 = r_5 → Q 1 M5))))) : CW G K mX12_comesHome (n + 1) 0 [some (vO 0), some (vI x1), none, none] [] M (qI Q) := by
  refine r_aload_n dX12_comesHome_0 rfl ?_
  refine r_getA dX12_comesHome_1 fX12_48 rfl uX12_26 ?_
  refine r_iconst dX12_comesHome_4 (by decide) ?_
  refine s_iald dX12_comesHome_5 rfl tX12_26 aX12_26 (by decide) ?_
  refine r_sipush dX12_comesHome_6 (by decide) (by decide) ?_
  refine r_icmp_ne (tgt := 33) dX12_comesHome_9 (by decide) (fun h_3 => ?_) (fun h_3 => ?_)
  · have T := T.1 h_3
    refine r_aload_n dX12_comesHome_33 rfl ?_
    refine r_iload_n dX12_comesHome_34 rfl ?_
    refine r_iconst dX12_comesHome_35 (by decide) ?_
    refine r_callVI (md' := mX12_personOf) (as := [vI x1, vI 0]) dX12_comesHome_36 lX12_318 iX12_personOf rfl rfl rfl (Nat.le_of_ble_eq_true rfl) T (fun r_1 M1 T => ?_)
    refine r_if_lt (tgt := 51) dX12_comesHome_39 (by decide) (fun h_1 => ?_) (fun h_1 => ?_)
    · have T := T.1 h_1
      refine r_aload_n dX12_comesHome_51 rfl ?_
      refine r_iload_n dX12_comesHome_52 rfl ?_
      refine r_iconst dX12_comesHome_53 (by decide) ?_
      refine r_callVI (md' := mX12_personOf) (as := [vI x1, vI 3]) dX12_comesHome_54 lX12_318 iX12_personOf rfl rfl rfl (Nat.le_of_ble_eq_true rfl) T (fun r_2 M2 T => ?_)
      exact T
    · have T := T.2 h_1
      refine r_aload_n dX12_comesHome_42 rfl ?_
      refine r_iload_n dX12_comesHome_43 rfl ?_
      refine r_iconst dX12_comesHome_44 (by decide) ?_
      refine r_callVI (md' := mX12_personOf) (as := [vI x1, vI 0]) dX12_comesHome_45 lX12_318 iX12_personOf rfl rfl rfl (Nat.le_of_ble_eq_true rfl) T (fun r_3 M3 T => ?_)
      refine r_goto (tgt := 57) dX12_comesHome_48 (by decide) ?_
      exact T
  · have T := T.2 h_3
    refine r_aload_n dX12_comesHome_12 rfl ?_
    refine r_iload_n dX12_comesHome_13 rfl ?_
    refine r_iconst dX12_comesHome_14 (by decide) ?_
    refine r_callVI (md' := mX12_personOf) (as := [vI x1, vI 0]) dX12_comesHome_15 lX12_318 iX12_personOf rfl rfl rfl (Nat.le_of_ble_eq_true rfl) T (fun r_4 M4 T => ?_)
    refine r_aload_n dX12_comesHome_18 rfl ?_
    refine r_iload_n dX12_comesHome_19 rfl ?_
    refine r_iconst dX12_comesHome_20 (by decide) ?_
    refine r_callVI (md' := mX12_personOf) (as := [vI x1, vI 1]) dX12_comesHome_21 lX12_318 iX12_personOf rfl rfl rfl (Nat.le_of_ble_eq_true rfl) T (fun r_5 M5 T => ?_)
    refine r_icmp_ne (tgt := 31) dX12_comesHome_24 (by decide) (fun h_2 => ?_) (fun h_2 => ?_)
    · have T := T.1 h_2
      refine r_iconst dX12_comesHome_31 (by decide) ?_
      exact r_zreturn dX12_comesHome_32 rfl (by decide) ⟨_, rfl, T⟩
    · have T := T.2 h_2
      refine r_iconst dX12_comesHome_27 (by decide) ?_
      refine r_goto (tgt := 32) dX12_comesHome_28 (by decide) ?_
      exact r_zreturn dX12_comesHome_32 rfl (by decide) ⟨_, rfl, T⟩
set_option maxRecDepth 20000 in
set_option maxHeartbeats 1000000 in
theorem bX12_comesHome_57 {G : Gx} {K : Kx} {n : Nat} {M : Mem} {Q : Int → Mem → Prop}  {x1 : Int} {z0 : Int}  (T : OkI G n mX12_personOf [vO 0, vI x1, vI 0] M (fun r_1 M1 => (r_1 < 0 → OkI G n mX12_personOf [vO 0, vI x1, vI 4] M1 (fun r_2 M2 => CW G K mX12_comesHome (n + 1) 82 [some (vO 0), some (vI x1), some (vI z0), none] [vI r_2] M2 (qI Q))) ∧ (¬ (r_1 < 0) → CW G K mX12_comesHome (n + 1) 82 [some (vO 0), some (vI x1), some (vI z0), none] [vI (M1 0 26 3)] M1 (qI Q)))) : CW G K mX12_comesHome (n + 1) 57 [some (vO 0), some (vI x1), none, none] [vI z0] M (qI Q) := by
  refine r_istore_n dX12_comesHome_57 (by decide) rfl ?_
  refine r_aload_n dX12_comesHome_58 rfl ?_
  refine r_iload_n dX12_comesHome_59 rfl ?_
  refine r_iconst dX12_comesHome_60 (by decide) ?_
  refine r_callVI (md' := mX12_personOf) (as := [vI x1, vI 0]) dX12_comesHome_61 lX12_318 iX12_personOf rfl rfl rfl (Nat.le_of_ble_eq_true rfl) T (fun r_1 M1 T => ?_)
  refine r_if_lt (tgt := 76) dX12_comesHome_64 (by decide) (fun h_1 => ?_) (fun h_1 => ?_)
  · have T := T.1 h_1
    refine r_aload_n dX12_comesHome_76 rfl ?_
    refine r_iload_n dX12_comesHome_77 rfl ?_
    refine r_iconst dX12_comesHome_78 (by decide) ?_
    refine r_callVI (md' := mX12_personOf) (as := [vI x1, vI 4]) dX12_comesHome_79 lX12_318 iX12_personOf rfl rfl rfl (Nat.le_of_ble_eq_true rfl) T (fun r_2 M2 T => ?_)
    exact T
  · have T := T.2 h_1
    refine r_aload_n dX12_comesHome_67 rfl ?_
    refine r_getA dX12_comesHome_68 fX12_48 rfl uX12_26 ?_
    refine r_iconst dX12_comesHome_71 (by decide) ?_
    refine s_iald dX12_comesHome_72 rfl tX12_26 aX12_26 (by decide) ?_
    refine r_goto (tgt := 82) dX12_comesHome_73 (by decide) ?_
    exact T
set_option maxRecDepth 20000 in
set_option maxHeartbeats 1000000 in
theorem bX12_comesHome_82 {G : Gx} {K : Kx} {n : Nat} {M : Mem} {Q : Int → Mem → Prop}  {x1 : Int} {x2 : Int} {z0 : Int}  (T : (z0 ≤ 1439 → OkI G n mX12_ridden [vO 0, vI x1] M (fun r_1 M1 => (¬ r_1 = 0 → OkV G n mX12_spreads [vO 0, vI x2, vI z0, vI 0] M1 (fun M2 => OkI G n mX12_personOf [vO 0, vI x1, vI 1] M2 (fun r_2 M3 => OkI G n mX12_soonestTo [vO 0, vI r_2] M3 (fun r_3 M4 => (99999 ≤ r_3 → Q 0 M4) ∧ (¬ (99999 ≤ r_3) → Q 1 M4))))) ∧ (r_1 = 0 → OkV G n mX12_spreads [vO 0, vI x2, vI z0, vI 1] M1 (fun M5 => OkI G n mX12_personOf [vO 0, vI x1, vI 1] M5 (fun r_4 M6 => OkI G n mX12_soonestTo [vO 0, vI r_4] M6 (fun r_5 M7 => (99999 ≤ r_5 → Q 0 M7) ∧ (¬ (99999 ≤ r_5) → Q 1 M7))))))) ∧ (¬ (z0 ≤ 1439) → Q 0 M)) : CW G K mX12_comesHome (n + 1) 82 [some (vO 0), some (vI x1), some (vI x2), none] [vI z0] M (qI Q) := by
  refine r_istore_n dX12_comesHome_82 (by decide) rfl ?_
  refine r_iload_n dX12_comesHome_83 rfl ?_
  refine r_sipush dX12_comesHome_84 (by decide) (by decide) ?_
  refine r_icmp_le (tgt := 92) dX12_comesHome_87 (by decide) (fun h_4 => ?_) (fun h_4 => ?_)
  · have T := T.1 h_4
    refine r_aload_n dX12_comesHome_92 rfl ?_
    refine r_iload_n dX12_comesHome_93 rfl ?_
    refine r_iload_n dX12_comesHome_94 rfl ?_
    refine r_aload_n dX12_comesHome_95 rfl ?_
    refine r_iload_n dX12_comesHome_96 rfl ?_
    refine r_callVI (md' := mX12_ridden) (as := [vI x1]) dX12_comesHome_97 lX12_346 iX12_ridden rfl rfl rfl (Nat.le_of_ble_eq_true rfl) T (fun r_1 M1 T => ?_)
    refine r_if_ne (tgt := 107) dX12_comesHome_100 (by decide) (fun h_3 => ?_) (fun h_3 => ?_)
    · have T := T.1 h_3
      refine r_iconst dX12_comesHome_107 (by decide) ?_
      refine r_callVV (md' := mX12_spreads) (as := [vI x2, vI z0, vI 0]) dX12_comesHome_108 lX12_418 iX12_spreads rfl rfl rfl (Nat.le_of_ble_eq_true rfl) T (fun M2 T => ?_)
      refine r_aload_n dX12_comesHome_111 rfl ?_
      refine r_aload_n dX12_comesHome_112 rfl ?_
      refine r_iload_n dX12_comesHome_113 rfl ?_
      refine r_iconst dX12_comesHome_114 (by decide) ?_
      refine r_callVI (md' := mX12_personOf) (as := [vI x1, vI 1]) dX12_comesHome_115 lX12_318 iX12_personOf rfl rfl rfl (Nat.le_of_ble_eq_true rfl) T (fun r_2 M3 T => ?_)
      refine r_callVI (md' := mX12_soonestTo) (as := [vI r_2]) dX12_comesHome_118 lX12_422 iX12_soonestTo rfl rfl rfl (Nat.le_of_ble_eq_true rfl) T (fun r_3 M4 T => ?_)
      refine r_ldc (z := 99999) dX12_comesHome_121 kX12_188 (by decide) (by decide) ?_
      refine r_icmp_ge (tgt := 130) dX12_comesHome_123 (by decide) (fun h_1 => ?_) (fun h_1 => ?_)
      · have T := T.1 h_1
        refine r_iconst dX12_comesHome_130 (by decide) ?_
        exact r_zreturn dX12_comesHome_131 rfl (by decide) ⟨_, rfl, T⟩
      · have T := T.2 h_1
        refine r_iconst dX12_comesHome_126 (by decide) ?_
        refine r_goto (tgt := 131) dX12_comesHome_127 (by decide) ?_
        exact r_zreturn dX12_comesHome_131 rfl (by decide) ⟨_, rfl, T⟩
    · have T := T.2 h_3
      refine r_iconst dX12_comesHome_103 (by decide) ?_
      refine r_goto (tgt := 108) dX12_comesHome_104 (by decide) ?_
      refine r_callVV (md' := mX12_spreads) (as := [vI x2, vI z0, vI 1]) dX12_comesHome_108 lX12_418 iX12_spreads rfl rfl rfl (Nat.le_of_ble_eq_true rfl) T (fun M5 T => ?_)
      refine r_aload_n dX12_comesHome_111 rfl ?_
      refine r_aload_n dX12_comesHome_112 rfl ?_
      refine r_iload_n dX12_comesHome_113 rfl ?_
      refine r_iconst dX12_comesHome_114 (by decide) ?_
      refine r_callVI (md' := mX12_personOf) (as := [vI x1, vI 1]) dX12_comesHome_115 lX12_318 iX12_personOf rfl rfl rfl (Nat.le_of_ble_eq_true rfl) T (fun r_4 M6 T => ?_)
      refine r_callVI (md' := mX12_soonestTo) (as := [vI r_4]) dX12_comesHome_118 lX12_422 iX12_soonestTo rfl rfl rfl (Nat.le_of_ble_eq_true rfl) T (fun r_5 M7 T => ?_)
      refine r_ldc (z := 99999) dX12_comesHome_121 kX12_188 (by decide) (by decide) ?_
      refine r_icmp_ge (tgt := 130) dX12_comesHome_123 (by decide) (fun h_2 => ?_) (fun h_2 => ?_)
      · have T := T.1 h_2
        refine r_iconst dX12_comesHome_130 (by decide) ?_
        exact r_zreturn dX12_comesHome_131 rfl (by decide) ⟨_, rfl, T⟩
      · have T := T.2 h_2
        refine r_iconst dX12_comesHome_126 (by decide) ?_
        refine r_goto (tgt := 131) dX12_comesHome_127 (by decide) ?_
        exact r_zreturn dX12_comesHome_131 rfl (by decide) ⟨_, rfl, T⟩
  · have T := T.2 h_4
    refine r_iconst dX12_comesHome_90 (by decide) ?_
    exact r_zreturn dX12_comesHome_91 rfl (by decide) ⟨_, rfl, T⟩
theorem eX12_comesHome {G : Gx} {n : Nat} {M : Mem} {Q : Int → Mem → Prop}  {x1 : Int} (h : ∀ K : Kx, CW G K mX12_comesHome n 0 [some (vO 0), some (vI x1), none, none] [] M (qI Q)) : OkI G n mX12_comesHome [vO 0, vI x1] M Q := Ok_of (by decide) (Nat.le_of_ble_eq_true rfl) rfl h
-- DownOnlyModel beds ()I
set_option maxRecDepth 20000 in
set_option maxHeartbeats 1000000 in
theorem bX12_beds_0 {G : Gx} {K : Kx} {n : Nat} {M : Mem} {Q : Int → Mem → Prop}    (T : (¬ M 0 26 0 = 0 → CW G K mX12_beds (n + 1) 15 [some (vO 0), some (vI 0), some (vI 0)] [] M (qI Q)) ∧ (M 0 26 0 = 0 → Q (-1) M)) : CW G K mX12_beds (n + 1) 0 [some (vO 0), none, none] [] M (qI Q) := by
  refine r_aload_n dX12_beds_0 rfl ?_
  refine r_getA dX12_beds_1 fX12_48 rfl uX12_26 ?_
  refine r_iconst dX12_beds_4 (by decide) ?_
  refine s_iald dX12_beds_5 rfl tX12_26 aX12_26 (by decide) ?_
  refine r_if_ne (tgt := 11) dX12_beds_6 (by decide) (fun h_1 => ?_) (fun h_1 => ?_)
  · have T := T.1 h_1
    refine r_iconst dX12_beds_11 (by decide) ?_
    refine r_istore_n dX12_beds_12 (by decide) rfl ?_
    refine r_iconst dX12_beds_13 (by decide) ?_
    refine r_istore_n dX12_beds_14 (by decide) rfl ?_
    exact T
  · have T := T.2 h_1
    refine r_iconst dX12_beds_9 (by decide) ?_
    exact r_ireturn dX12_beds_10 rfl ⟨_, rfl, T⟩
set_option maxRecDepth 20000 in
set_option maxHeartbeats 1000000 in
theorem bX12_beds_15 {G : Gx} {K : Kx} {n : Nat} {M : Mem} {Q : Int → Mem → Prop}  {x1 : Int} {x2 : Int}  (T : (M 0 26 2 ≤ x2 → Q x1 M) ∧ (¬ (M 0 26 2 ≤ x2) → OkI G n mX12_comesHome [vO 0, vI x2] M (fun r_1 M1 => (r_1 = 0 → CW G K mX12_beds (n + 1) 15 [some (vO 0), some (vI (bOr x1 (bShl 1 x2))), some (vI (wr (x2 + 1)))] [] M1 (qI Q)) ∧ (¬ (r_1 = 0) → CW G K mX12_beds (n + 1) 15 [some (vO 0), some (vI (bOr x1 0)), some (vI (wr (x2 + 1)))] [] M1 (qI Q))))) : CW G K mX12_beds (n + 1) 15 [some (vO 0), some (vI x1), some (vI x2)] [] M (qI Q) := by
  refine r_iload_n dX12_beds_15 rfl ?_
  refine r_aload_n dX12_beds_16 rfl ?_
  refine r_getA dX12_beds_17 fX12_48 rfl uX12_26 ?_
  refine r_iconst dX12_beds_20 (by decide) ?_
  refine s_iald dX12_beds_21 rfl tX12_26 aX12_26 (by decide) ?_
  refine r_icmp_ge (tgt := 49) dX12_beds_22 (by decide) (fun h_2 => ?_) (fun h_2 => ?_)
  · have T := T.1 h_2
    refine r_iload_n dX12_beds_49 rfl ?_
    exact r_ireturn dX12_beds_50 rfl ⟨_, rfl, T⟩
  · have T := T.2 h_2
    refine r_iload_n dX12_beds_25 rfl ?_
    refine r_aload_n dX12_beds_26 rfl ?_
    refine r_iload_n dX12_beds_27 rfl ?_
    refine r_callVI (md' := mX12_comesHome) (as := [vI x2]) dX12_beds_28 lX12_481 iX12_comesHome rfl rfl rfl (Nat.le_of_ble_eq_true rfl) T (fun r_1 M1 T => ?_)
    refine r_if_eq (tgt := 38) dX12_beds_31 (by decide) (fun h_1 => ?_) (fun h_1 => ?_)
    · have T := T.1 h_1
      refine r_iconst dX12_beds_38 (by decide) ?_
      refine r_iload_n dX12_beds_39 rfl ?_
      refine r_ishl dX12_beds_40 ?_
      refine r_ior dX12_beds_41 ?_
      refine r_istore_n dX12_beds_42 (by decide) rfl ?_
      refine r_iinc dX12_beds_43 rfl (by decide) rfl ?_
      refine r_goto (tgt := 15) dX12_beds_46 (by decide) ?_
      exact T
    · have T := T.2 h_1
      refine r_iconst dX12_beds_34 (by decide) ?_
      refine r_goto (tgt := 41) dX12_beds_35 (by decide) ?_
      refine r_ior dX12_beds_41 ?_
      refine r_istore_n dX12_beds_42 (by decide) rfl ?_
      refine r_iinc dX12_beds_43 rfl (by decide) rfl ?_
      refine r_goto (tgt := 15) dX12_beds_46 (by decide) ?_
      exact T
theorem eX12_beds {G : Gx} {n : Nat} {M : Mem} {Q : Int → Mem → Prop}   (h : ∀ K : Kx, CW G K mX12_beds n 0 [some (vO 0), none, none] [] M (qI Q)) : OkI G n mX12_beds [vO 0] M Q := Ok_of (by decide) (Nat.le_of_ble_eq_true rfl) rfl h
-- DownOnlyModel twos (I)I
set_option maxRecDepth 20000 in
set_option maxHeartbeats 1000000 in
theorem bX12_twos_0 {G : Gx} {K : Kx} {n : Nat} {M : Mem} {Q : Int → Mem → Prop}  {x1 : Int}  (T : CW G K mX12_twos (n + 1) 2 [some (vO 0), some (vI x1), some (vI 0), none, none, none, none, none] [] M (qI Q)) : CW G K mX12_twos (n + 1) 0 [some (vO 0), some (vI x1), none, none, none, none, none, none] [] M (qI Q) := by
  refine r_iconst dX12_twos_0 (by decide) ?_
  refine r_istore_n dX12_twos_1 (by decide) rfl ?_
  exact T
set_option maxRecDepth 20000 in
set_option maxHeartbeats 1000000 in
theorem bX12_twos_2 {G : Gx} {K : Kx} {n : Nat} {M : Mem} {Q : Int → Mem → Prop}  {x1 : Int} {x2 : Int}  (T : (M 0 26 0 ≤ x2 → CW G K mX12_twos (n + 1) 29 [some (vO 0), some (vI x1), some (vI 1), none, none, none, none, none] [] M (qI Q)) ∧ (¬ (M 0 26 0 ≤ x2) → (0 ≤ x2 ∧ x2 < 16) ∧ (∀ M1 : Mem, M1 = mset M 0 44 x2.toNat (bShl 1 x2) → CW G K mX12_twos (n + 1) 2 [some (vO 0), some (vI x1), some (vI (wr (x2 + 1))), none, none, none, none, none] [] M1 (qI Q)))) : CW G K mX12_twos (n + 1) 2 [some (vO 0), some (vI x1), some (vI x2), none, none, none, none, none] [] M (qI Q) := by
  refine r_iload_n dX12_twos_2 rfl ?_
  refine r_aload_n dX12_twos_3 rfl ?_
  refine r_getA dX12_twos_4 fX12_48 rfl uX12_26 ?_
  refine r_iconst dX12_twos_7 (by decide) ?_
  refine s_iald dX12_twos_8 rfl tX12_26 aX12_26 (by decide) ?_
  refine r_icmp_ge (tgt := 27) dX12_twos_9 (by decide) (fun h_1 => ?_) (fun h_1 => ?_)
  · have T := T.1 h_1
    refine r_iconst dX12_twos_27 (by decide) ?_
    refine r_istore_n dX12_twos_28 (by decide) rfl ?_
    exact T
  · have T := T.2 h_1
    refine r_aload_n dX12_twos_12 rfl ?_
    refine r_getA dX12_twos_13 fX12_100 rfl uX12_44 ?_
    refine r_iload_n dX12_twos_16 rfl ?_
    refine r_iconst dX12_twos_17 (by decide) ?_
    refine r_iload_n dX12_twos_18 rfl ?_
    refine r_ishl dX12_twos_19 ?_
    refine n_iast dX12_twos_20 rfl tX12_44 aX12_44 T.1 (fun M1 hM1 => ?_)
    have T := T.2 M1 hM1
    refine r_iinc dX12_twos_21 rfl (by decide) rfl ?_
    refine r_goto (tgt := 2) dX12_twos_24 (by decide) ?_
    exact T
set_option maxRecDepth 20000 in
set_option maxHeartbeats 1000000 in
theorem bX12_twos_29 {G : Gx} {K : Kx} {n : Nat} {M : Mem} {Q : Int → Mem → Prop}  {x1 : Int} {x2 : Int}  (T : (x2 = 0 → CW G K mX12_twos (n + 1) 176 [some (vO 0), none, none, some (vI 0), some (vI 0), none, none, none] [] M (qI Q)) ∧ (¬ (x2 = 0) → CW G K mX12_twos (n + 1) 37 [some (vO 0), some (vI x1), some (vI 0), some (vI 0), none, none, none, none] [] M (qI Q))) : CW G K mX12_twos (n + 1) 29 [some (vO 0), some (vI x1), some (vI x2), none, none, none, none, none] [] M (qI Q) := by
  refine r_iload_n dX12_twos_29 rfl ?_
  refine r_if_eq (tgt := 171) dX12_twos_30 (by decide) (fun h_1 => ?_) (fun h_1 => ?_)
  · have T := T.1 h_1
    refine r_iconst dX12_twos_171 (by decide) ?_
    refine r_istore_n dX12_twos_172 (by decide) rfl ?_
    refine r_iconst dX12_twos_173 (by decide) ?_
    refine r_istore dX12_twos_174 (by decide) rfl ?_
    exact CW_msk [true, false, false, true, true, false, false, false] rfl T
  · have T := T.2 h_1
    refine r_iconst dX12_twos_33 (by decide) ?_
    refine r_istore_n dX12_twos_34 (by decide) rfl ?_
    refine r_iconst dX12_twos_35 (by decide) ?_
    refine r_istore_n dX12_twos_36 (by decide) rfl ?_
    exact T
set_option maxRecDepth 20000 in
set_option maxHeartbeats 1000000 in
theorem bX12_twos_176 {G : Gx} {K : Kx} {n : Nat} {M : Mem} {Q : Int → Mem → Prop}  {x3 : Int} {x4 : Int}  (T : (M 0 26 0 ≤ x4 → Q x3 M) ∧ (¬ (M 0 26 0 ≤ x4) → (0 ≤ x4 ∧ x4 < 16) ∧ (OkI G n mX12_bits [vI (M 0 44 x4.toNat)] M (fun r_1 M1 => CW G K mX12_twos (n + 1) 176 [some (vO 0), none, none, some (vI (wr (x3 + (wr (r_1 - 1))))), some (vI (wr (x4 + 1))), none, none, none] [] M1 (qI Q))))) : CW G K mX12_twos (n + 1) 176 [some (vO 0), none, none, some (vI x3), some (vI x4), none, none, none] [] M (qI Q) := by
  refine r_iload dX12_twos_176 rfl ?_
  refine r_aload_n dX12_twos_178 rfl ?_
  refine r_getA dX12_twos_179 fX12_48 rfl uX12_26 ?_
  refine r_iconst dX12_twos_182 (by decide) ?_
  refine s_iald dX12_twos_183 rfl tX12_26 aX12_26 (by decide) ?_
  refine r_icmp_ge (tgt := 208) dX12_twos_184 (by decide) (fun h_1 => ?_) (fun h_1 => ?_)
  · have T := T.1 h_1
    refine r_iload_n dX12_twos_208 rfl ?_
    exact r_ireturn dX12_twos_209 rfl ⟨_, rfl, T⟩
  · have T := T.2 h_1
    refine r_iload_n dX12_twos_187 rfl ?_
    refine r_aload_n dX12_twos_188 rfl ?_
    refine r_getA dX12_twos_189 fX12_100 rfl uX12_44 ?_
    refine r_iload dX12_twos_192 rfl ?_
    refine s_iald dX12_twos_194 rfl tX12_44 aX12_44 T.1 ?_
    have T := T.2
    refine r_callSI (md' := mX12_bits) (as := [vI (M 0 44 x4.toNat)]) dX12_twos_195 lX12_368 iX12_bits rfl rfl (Nat.le_of_ble_eq_true rfl) T (fun r_1 M1 T => ?_)
    refine r_iconst dX12_twos_198 (by decide) ?_
    refine r_isub dX12_twos_199 ?_
    refine r_iadd dX12_twos_200 ?_
    refine r_istore_n dX12_twos_201 (by decide) rfl ?_
    refine r_iinc dX12_twos_202 rfl (by decide) rfl ?_
    refine r_goto (tgt := 176) dX12_twos_205 (by decide) ?_
    exact T
set_option maxRecDepth 20000 in
set_option maxHeartbeats 1000000 in
theorem bX12_twos_37 {G : Gx} {K : Kx} {n : Nat} {M : Mem} {Q : Int → Mem → Prop}  {x1 : Int} {x2 : Int} {x3 : Int}  (T : (M 0 26 1 ≤ x3 → CW G K mX12_twos (n + 1) 29 [some (vO 0), some (vI x1), some (vI x2), none, none, none, none, none] [] M (qI Q)) ∧ (¬ (M 0 26 1 ≤ x3) → OkI G n mX12_wayOf [vO 0, vI x3, vI 0] M (fun r_1 M1 => OkI G n mX12_wayOf [vO 0, vI x3, vI 1] M1 (fun r_2 M2 => (0 ≤ r_1 ∧ r_1 < 16) ∧ ((0 ≤ r_2 ∧ r_2 < 16) ∧ ((0 ≤ r_1 ∧ r_1 < 16) ∧ ((0 ≤ r_2 ∧ r_2 < 16) ∧ ((0 ≤ r_1 ∧ r_1 < 16) ∧ (∀ M3 : Mem, M3 = mset M2 0 44 r_1.toNat (bOr (M2 0 44 r_1.toNat) (M2 0 44 r_2.toNat)) → (x3 = x1 → (0 ≤ r_2 ∧ r_2 < 16) ∧ ((0 ≤ r_1 ∧ r_1 < 16) ∧ ((0 ≤ r_2 ∧ r_2 < 16) ∧ (∀ M4 : Mem, M4 = mset M3 0 44 r_2.toNat (bOr (M3 0 44 r_2.toNat) (M3 0 44 r_1.toNat)) → CW G K mX12_twos (n + 1) 130 [some (vO 0), some (vI x1), some (vI x2), some (vI x3), some (vI r_1), some (vI r_2), some (vI (M2 0 44 r_1.toNat)), some (vI (M2 0 44 r_2.toNat))] [] M4 (qI Q))))) ∧ (¬ (x3 = x1) → OkI G n mX12_wayOf [vO 0, vI x3, vI 3] M3 (fun r_3 M5 => (¬ r_3 = 1 → CW G K mX12_twos (n + 1) 130 [some (vO 0), some (vI x1), some (vI x2), some (vI x3), some (vI r_1), some (vI r_2), some (vI (M2 0 44 r_1.toNat)), some (vI (M2 0 44 r_2.toNat))] [] M5 (qI Q)) ∧ (r_3 = 1 → (0 ≤ r_2 ∧ r_2 < 16) ∧ ((0 ≤ r_1 ∧ r_1 < 16) ∧ ((0 ≤ r_2 ∧ r_2 < 16) ∧ (∀ M6 : Mem, M6 = mset M5 0 44 r_2.toNat (bOr (M5 0 44 r_2.toNat) (M5 0 44 r_1.toNat)) → CW G K mX12_twos (n + 1) 130 [some (vO 0), some (vI x1), some (vI x2), some (vI x3), some (vI r_1), some (vI r_2), some (vI (M2 0 44 r_1.toNat)), some (vI (M2 0 44 r_2.toNat))] [] M6 (qI Q)))))))))))))))) : CW G K mX12_twos (n + 1) 37 [some (vO 0), some (vI x1), some (vI x2), some (vI x3), none, none, none, none] [] M (qI Q) := by
  refine r_iload_n dX12_twos_37 rfl ?_
  refine r_aload_n dX12_twos_38 rfl ?_
  refine r_getA dX12_twos_39 fX12_48 rfl uX12_26 ?_
  refine r_iconst dX12_twos_42 (by decide) ?_
  refine s_iald dX12_twos_43 rfl tX12_26 aX12_26 (by decide) ?_
  refine r_icmp_ge (tgt := 168) dX12_twos_44 (by decide) (fun h_3 => ?_) (fun h_3 => ?_)
  · have T := T.1 h_3
    refine r_goto (tgt := 29) dX12_twos_168 (by decide) ?_
    exact CW_msk [true, true, true, false, false, false, false, false] rfl T
  · have T := T.2 h_3
    refine r_aload_n dX12_twos_47 rfl ?_
    refine r_iload_n dX12_twos_48 rfl ?_
    refine r_iconst dX12_twos_49 (by decide) ?_
    refine r_callVI (md' := mX12_wayOf) (as := [vI x3, vI 0]) dX12_twos_50 lX12_322 iX12_wayOf rfl rfl rfl (Nat.le_of_ble_eq_true rfl) T (fun r_1 M1 T => ?_)
    refine r_istore dX12_twos_53 (by decide) rfl ?_
    refine r_aload_n dX12_twos_55 rfl ?_
    refine r_iload_n dX12_twos_56 rfl ?_
    refine r_iconst dX12_twos_57 (by decide) ?_
    refine r_callVI (md' := mX12_wayOf) (as := [vI x3, vI 1]) dX12_twos_58 lX12_322 iX12_wayOf rfl rfl rfl (Nat.le_of_ble_eq_true rfl) T (fun r_2 M2 T => ?_)
    refine r_istore dX12_twos_61 (by decide) rfl ?_
    refine r_aload_n dX12_twos_63 rfl ?_
    refine r_getA dX12_twos_64 fX12_100 rfl uX12_44 ?_
    refine r_iload dX12_twos_67 rfl ?_
    refine s_iald dX12_twos_69 rfl tX12_44 aX12_44 T.1 ?_
    have T := T.2
    refine r_istore dX12_twos_70 (by decide) rfl ?_
    refine r_aload_n dX12_twos_72 rfl ?_
    refine r_getA dX12_twos_73 fX12_100 rfl uX12_44 ?_
    refine r_iload dX12_twos_76 rfl ?_
    refine s_iald dX12_twos_78 rfl tX12_44 aX12_44 T.1 ?_
    have T := T.2
    refine r_istore dX12_twos_79 (by decide) rfl ?_
    refine r_aload_n dX12_twos_81 rfl ?_
    refine r_getA dX12_twos_82 fX12_100 rfl uX12_44 ?_
    refine r_iload dX12_twos_85 rfl ?_
    refine r_dup2 dX12_twos_87 rfl rfl ?_
    refine s_iald dX12_twos_88 rfl tX12_44 aX12_44 T.1 ?_
    have T := T.2
    refine r_aload_n dX12_twos_89 rfl ?_
    refine r_getA dX12_twos_90 fX12_100 rfl uX12_44 ?_
    refine r_iload dX12_twos_93 rfl ?_
    refine s_iald dX12_twos_95 rfl tX12_44 aX12_44 T.1 ?_
    have T := T.2
    refine r_ior dX12_twos_96 ?_
    refine n_iast dX12_twos_97 rfl tX12_44 aX12_44 T.1 (fun M3 hM3 => ?_)
    have T := T.2 M3 hM3
    refine r_iload_n dX12_twos_98 rfl ?_
    refine r_iload_n dX12_twos_99 rfl ?_
    refine r_icmp_eq (tgt := 113) dX12_twos_100 (by decide) (fun h_2 => ?_) (fun h_2 => ?_)
    · have T := T.1 h_2
      refine r_aload_n dX12_twos_113 rfl ?_
      refine r_getA dX12_twos_114 fX12_100 rfl uX12_44 ?_
      refine r_iload dX12_twos_117 rfl ?_
      refine r_dup2 dX12_twos_119 rfl rfl ?_
      refine s_iald dX12_twos_120 rfl tX12_44 aX12_44 T.1 ?_
      have T := T.2
      refine r_aload_n dX12_twos_121 rfl ?_
      refine r_getA dX12_twos_122 fX12_100 rfl uX12_44 ?_
      refine r_iload dX12_twos_125 rfl ?_
      refine s_iald dX12_twos_127 rfl tX12_44 aX12_44 T.1 ?_
      have T := T.2
      refine r_ior dX12_twos_128 ?_
      refine n_iast dX12_twos_129 rfl tX12_44 aX12_44 T.1 (fun M4 hM4 => ?_)
      have T := T.2 M4 hM4
      exact T
    · have T := T.2 h_2
      refine r_aload_n dX12_twos_103 rfl ?_
      refine r_iload_n dX12_twos_104 rfl ?_
      refine r_iconst dX12_twos_105 (by decide) ?_
      refine r_callVI (md' := mX12_wayOf) (as := [vI x3, vI 3]) dX12_twos_106 lX12_322 iX12_wayOf rfl rfl rfl (Nat.le_of_ble_eq_true rfl) T (fun r_3 M5 T => ?_)
      refine r_iconst dX12_twos_109 (by decide) ?_
      refine r_icmp_ne (tgt := 130) dX12_twos_110 (by decide) (fun h_1 => ?_) (fun h_1 => ?_)
      · have T := T.1 h_1
        exact T
      · have T := T.2 h_1
        refine r_aload_n dX12_twos_113 rfl ?_
        refine r_getA dX12_twos_114 fX12_100 rfl uX12_44 ?_
        refine r_iload dX12_twos_117 rfl ?_
        refine r_dup2 dX12_twos_119 rfl rfl ?_
        refine s_iald dX12_twos_120 rfl tX12_44 aX12_44 T.1 ?_
        have T := T.2
        refine r_aload_n dX12_twos_121 rfl ?_
        refine r_getA dX12_twos_122 fX12_100 rfl uX12_44 ?_
        refine r_iload dX12_twos_125 rfl ?_
        refine s_iald dX12_twos_127 rfl tX12_44 aX12_44 T.1 ?_
        have T := T.2
        refine r_ior dX12_twos_128 ?_
        refine n_iast dX12_twos_129 rfl tX12_44 aX12_44 T.1 (fun M6 hM6 => ?_)
        have T := T.2 M6 hM6
        exact T
set_option maxRecDepth 20000 in
set_option maxHeartbeats 1000000 in
theorem bX12_twos_130 {G : Gx} {K : Kx} {n : Nat} {M : Mem} {Q : Int → Mem → Prop}  {x1 : Int} {x2 : Int} {x3 : Int} {x4 : Int} {x5 : Int} {x6 : Int} {x7 : Int}  (T : (0 ≤ x4 ∧ x4 < 16) ∧ ((¬ M 0 44 x4.toNat = x6 → CW G K mX12_twos (n + 1) 37 [some (vO 0), some (vI x1), some (vI (bOr x2 1)), some (vI (wr (x3 + 1))), none, none, none, none] [] M (qI Q)) ∧ (M 0 44 x4.toNat = x6 → (0 ≤ x5 ∧ x5 < 16) ∧ ((M 0 44 x5.toNat = x7 → CW G K mX12_twos (n + 1) 37 [some (vO 0), some (vI x1), some (vI (bOr x2 0)), some (vI (wr (x3 + 1))), none, none, none, none] [] M (qI Q)) ∧ (¬ (M 0 44 x5.toNat = x7) → CW G K mX12_twos (n + 1) 37 [some (vO 0), some (vI x1), some (vI (bOr x2 1)), some (vI (wr (x3 + 1))), none, none, none, none] [] M (qI Q)))))) : CW G K mX12_twos (n + 1) 130 [some (vO 0), some (vI x1), some (vI x2), some (vI x3), some (vI x4), some (vI x5), some (vI x6), some (vI x7)] [] M (qI Q) := by
  refine r_iload_n dX12_twos_130 rfl ?_
  refine r_aload_n dX12_twos_131 rfl ?_
  refine r_getA dX12_twos_132 fX12_100 rfl uX12_44 ?_
  refine r_iload dX12_twos_135 rfl ?_
  refine s_iald dX12_twos_137 rfl tX12_44 aX12_44 T.1 ?_
  have T := T.2
  refine r_iload dX12_twos_138 rfl ?_
  refine r_icmp_ne (tgt := 155) dX12_twos_140 (by decide) (fun h_2 => ?_) (fun h_2 => ?_)
  · have T := T.1 h_2
    refine r_iconst dX12_twos_155 (by decide) ?_
    refine r_goto (tgt := 160) dX12_twos_156 (by decide) ?_
    refine r_ior dX12_twos_160 ?_
    refine r_istore_n dX12_twos_161 (by decide) rfl ?_
    refine r_iinc dX12_twos_162 rfl (by decide) rfl ?_
    refine r_goto (tgt := 37) dX12_twos_165 (by decide) ?_
    exact CW_msk [true, true, true, true, false, false, false, false] rfl T
  · have T := T.2 h_2
    refine r_aload_n dX12_twos_143 rfl ?_
    refine r_getA dX12_twos_144 fX12_100 rfl uX12_44 ?_
    refine r_iload dX12_twos_147 rfl ?_
    refine s_iald dX12_twos_149 rfl tX12_44 aX12_44 T.1 ?_
    have T := T.2
    refine r_iload dX12_twos_150 rfl ?_
    refine r_icmp_eq (tgt := 159) dX12_twos_152 (by decide) (fun h_1 => ?_) (fun h_1 => ?_)
    · have T := T.1 h_1
      refine r_iconst dX12_twos_159 (by decide) ?_
      refine r_ior dX12_twos_160 ?_
      refine r_istore_n dX12_twos_161 (by decide) rfl ?_
      refine r_iinc dX12_twos_162 rfl (by decide) rfl ?_
      refine r_goto (tgt := 37) dX12_twos_165 (by decide) ?_
      exact CW_msk [true, true, true, true, false, false, false, false] rfl T
    · have T := T.2 h_1
      refine r_iconst dX12_twos_155 (by decide) ?_
      refine r_goto (tgt := 160) dX12_twos_156 (by decide) ?_
      refine r_ior dX12_twos_160 ?_
      refine r_istore_n dX12_twos_161 (by decide) rfl ?_
      refine r_iinc dX12_twos_162 rfl (by decide) rfl ?_
      refine r_goto (tgt := 37) dX12_twos_165 (by decide) ?_
      exact CW_msk [true, true, true, true, false, false, false, false] rfl T
theorem eX12_twos {G : Gx} {n : Nat} {M : Mem} {Q : Int → Mem → Prop}  {x1 : Int} (h : ∀ K : Kx, CW G K mX12_twos n 0 [some (vO 0), some (vI x1), none, none, none, none, none, none] [] M (qI Q)) : OkI G n mX12_twos [vO 0, vI x1] M Q := Ok_of (by decide) (Nat.le_of_ble_eq_true rfl) rfl h
-- DownOnlyModel upward (I)I
set_option maxRecDepth 20000 in
set_option maxHeartbeats 1000000 in
theorem bX12_upward_0 {G : Gx} {K : Kx} {n : Nat} {M : Mem} {Q : Int → Mem → Prop}  {x1 : Int}  (T : (M 0 26 0 = 0 → Q (-1) M) ∧ (¬ (M 0 26 0 = 0) → OkI G n mX12_in [vL x1, vL 0, vL 2] M (fun r_1 M1 => (¬ r_1 = 0 → (¬ x1 = 2 → CW G K mX12_upward (n + 1) 43 [some (vO 0), some (vI x1), some (vI (-2)), some (vI (-2)), some (vI 0), none] [] M1 (qI Q)) ∧ (x1 = 2 → OkI G n mX12_twos [vO 0, vI (-1)] M1 (fun r_2 M2 => Q r_2 M2))) ∧ (r_1 = 0 → Q (-1) M1)))) : CW G K mX12_upward (n + 1) 0 [some (vO 0), some (vI x1), none, none, none, none] [] M (qI Q) := by
  refine r_aload_n dX12_upward_0 rfl ?_
  refine r_getA dX12_upward_1 fX12_48 rfl uX12_26 ?_
  refine r_iconst dX12_upward_4 (by decide) ?_
  refine s_iald dX12_upward_5 rfl tX12_26 aX12_26 (by decide) ?_
  refine r_if_eq (tgt := 21) dX12_upward_6 (by decide) (fun h_3 => ?_) (fun h_3 => ?_)
  · have T := T.1 h_3
    refine r_iconst dX12_upward_21 (by decide) ?_
    exact r_ireturn dX12_upward_22 rfl ⟨_, rfl, T⟩
  · have T := T.2 h_3
    refine r_iload_n dX12_upward_9 rfl ?_
    refine r_i2l dX12_upward_10 ?_
    refine r_lconst (z := 0) dX12_upward_11 (by decide) (by decide) ?_
    refine r_ldc2 (z := 2) dX12_upward_12 kX12_328 (by decide) (by decide) ?_
    refine r_callSI (md' := mX12_in) (as := [vL x1, vL 0, vL 2]) dX12_upward_15 lX12_148 iX12_in rfl rfl (Nat.le_of_ble_eq_true rfl) T (fun r_1 M1 T => ?_)
    refine r_if_ne (tgt := 23) dX12_upward_18 (by decide) (fun h_2 => ?_) (fun h_2 => ?_)
    · have T := T.1 h_2
      refine r_iload_n dX12_upward_23 rfl ?_
      refine r_iconst dX12_upward_24 (by decide) ?_
      refine r_icmp_ne (tgt := 34) dX12_upward_25 (by decide) (fun h_1 => ?_) (fun h_1 => ?_)
      · have T := T.1 h_1
        refine r_bipush dX12_upward_34 (by decide) (by decide) ?_
        refine r_istore_n dX12_upward_36 (by decide) rfl ?_
        refine r_bipush dX12_upward_37 (by decide) (by decide) ?_
        refine r_istore_n dX12_upward_39 (by decide) rfl ?_
        refine r_iconst dX12_upward_40 (by decide) ?_
        refine r_istore dX12_upward_41 (by decide) rfl ?_
        exact T
      · have T := T.2 h_1
        refine r_aload_n dX12_upward_28 rfl ?_
        refine r_iconst dX12_upward_29 (by decide) ?_
        refine r_callVI (md' := mX12_twos) (as := [vI (-1)]) dX12_upward_30 lX12_484 iX12_twos rfl rfl rfl (Nat.le_of_ble_eq_true rfl) T (fun r_2 M2 T => ?_)
        exact r_ireturn dX12_upward_33 rfl ⟨_, rfl, T⟩
    · have T := T.2 h_2
      refine r_iconst dX12_upward_21 (by decide) ?_
      exact r_ireturn dX12_upward_22 rfl ⟨_, rfl, T⟩
set_option maxRecDepth 20000 in
set_option maxHeartbeats 1000000 in
theorem bX12_upward_43 {G : Gx} {K : Kx} {n : Nat} {M : Mem} {Q : Int → Mem → Prop}  {x1 : Int} {x2 : Int} {x3 : Int} {x4 : Int}  (T : (M 0 26 1 ≤ x4 → (¬ x1 = 0 → Q x3 M) ∧ (x1 = 0 → Q x2 M)) ∧ (¬ (M 0 26 1 ≤ x4) → OkI G n mX12_wayOf [vO 0, vI x4, vI 3] M (fun r_1 M1 => (¬ r_1 = 1 → OkI G n mX12_twos [vO 0, vI x4] M1 (fun r_2 M2 => (x3 < r_2 → CW G K mX12_upward (n + 1) 43 [some (vO 0), some (vI x1), some (vI x4), some (vI r_2), some (vI (wr (x4 + 1))), none] [] M2 (qI Q)) ∧ (¬ (x3 < r_2) → CW G K mX12_upward (n + 1) 43 [some (vO 0), some (vI x1), some (vI x2), some (vI x3), some (vI (wr (x4 + 1))), none] [] M2 (qI Q)))) ∧ (r_1 = 1 → CW G K mX12_upward (n + 1) 43 [some (vO 0), some (vI x1), some (vI x2), some (vI x3), some (vI (wr (x4 + 1))), none] [] M1 (qI Q))))) : CW G K mX12_upward (n + 1) 43 [some (vO 0), some (vI x1), some (vI x2), some (vI x3), some (vI x4), none] [] M (qI Q) := by
  refine r_iload dX12_upward_43 rfl ?_
  refine r_aload_n dX12_upward_45 rfl ?_
  refine r_getA dX12_upward_46 fX12_48 rfl uX12_26 ?_
  refine r_iconst dX12_upward_49 (by decide) ?_
  refine s_iald dX12_upward_50 rfl tX12_26 aX12_26 (by decide) ?_
  refine r_icmp_ge (tgt := 97) dX12_upward_51 (by decide) (fun h_4 => ?_) (fun h_4 => ?_)
  · have T := T.1 h_4
    refine r_iload_n dX12_upward_97 rfl ?_
    refine r_if_ne (tgt := 105) dX12_upward_98 (by decide) (fun h_1 => ?_) (fun h_1 => ?_)
    · have T := T.1 h_1
      refine r_iload_n dX12_upward_105 rfl ?_
      exact r_ireturn dX12_upward_106 rfl ⟨_, rfl, T⟩
    · have T := T.2 h_1
      refine r_iload_n dX12_upward_101 rfl ?_
      refine r_goto (tgt := 106) dX12_upward_102 (by decide) ?_
      exact r_ireturn dX12_upward_106 rfl ⟨_, rfl, T⟩
  · have T := T.2 h_4
    refine r_aload_n dX12_upward_54 rfl ?_
    refine r_iload dX12_upward_55 rfl ?_
    refine r_iconst dX12_upward_57 (by decide) ?_
    refine r_callVI (md' := mX12_wayOf) (as := [vI x4, vI 3]) dX12_upward_58 lX12_322 iX12_wayOf rfl rfl rfl (Nat.le_of_ble_eq_true rfl) T (fun r_1 M1 T => ?_)
    refine r_iconst dX12_upward_61 (by decide) ?_
    refine r_icmp_ne (tgt := 68) dX12_upward_62 (by decide) (fun h_3 => ?_) (fun h_3 => ?_)
    · have T := T.1 h_3
      refine r_aload_n dX12_upward_68 rfl ?_
      refine r_iload dX12_upward_69 rfl ?_
      refine r_callVI (md' := mX12_twos) (as := [vI x4]) dX12_upward_71 lX12_484 iX12_twos rfl rfl rfl (Nat.le_of_ble_eq_true rfl) T (fun r_2 M2 T => ?_)
      refine r_istore dX12_upward_74 (by decide) rfl ?_
      refine r_iload dX12_upward_76 rfl ?_
      refine r_iload_n dX12_upward_78 rfl ?_
      refine r_icmp_gt (tgt := 85) dX12_upward_79 (by decide) (fun h_2 => ?_) (fun h_2 => ?_)
      · have T := T.1 h_2
        refine r_iload dX12_upward_85 rfl ?_
        refine r_istore_n dX12_upward_87 (by decide) rfl ?_
        refine r_iload dX12_upward_88 rfl ?_
        refine r_istore_n dX12_upward_90 (by decide) rfl ?_
        refine r_iinc dX12_upward_91 rfl (by decide) rfl ?_
        refine r_goto (tgt := 43) dX12_upward_94 (by decide) ?_
        exact CW_msk [true, true, true, true, true, false] rfl T
      · have T := T.2 h_2
        refine r_goto (tgt := 91) dX12_upward_82 (by decide) ?_
        refine r_iinc dX12_upward_91 rfl (by decide) rfl ?_
        refine r_goto (tgt := 43) dX12_upward_94 (by decide) ?_
        exact CW_msk [true, true, true, true, true, false] rfl T
    · have T := T.2 h_3
      refine r_goto (tgt := 91) dX12_upward_65 (by decide) ?_
      refine r_iinc dX12_upward_91 rfl (by decide) rfl ?_
      refine r_goto (tgt := 43) dX12_upward_94 (by decide) ?_
      exact T
theorem eX12_upward {G : Gx} {n : Nat} {M : Mem} {Q : Int → Mem → Prop}  {x1 : Int} (h : ∀ K : Kx, CW G K mX12_upward n 0 [some (vO 0), some (vI x1), none, none, none, none] [] M (qI Q)) : OkI G n mX12_upward [vO 0, vI x1] M Q := Ok_of (by decide) (Nat.le_of_ble_eq_true rfl) rfl h
-- DownOnlyModel seed (I)I
set_option maxRecDepth 20000 in
set_option maxHeartbeats 1000000 in
theorem bX12_seed_0 {G : Gx} {K : Kx} {n : Nat} {M : Mem} {Q : Int → Mem → Prop}  {x1 : Int}  (T : (0 ≤ x1 → ∀ M1 : Mem, M1 = mset M 0 26 11 x1 → Q (M 0 26 11) M1) ∧ (¬ (0 ≤ x1) → Q (-1) M)) : CW G K mX12_seed n 0 [some (vO 0), some (vI x1), none] [] M (qI Q) := by
  refine r_iload_n dX12_seed_0 rfl ?_
  refine r_if_ge (tgt := 6) dX12_seed_1 (by decide) (fun h_1 => ?_) (fun h_1 => ?_)
  · have T := T.1 h_1
    refine r_aload_n dX12_seed_6 rfl ?_
    refine r_getA dX12_seed_7 fX12_48 rfl uX12_26 ?_
    refine r_bipush dX12_seed_10 (by decide) (by decide) ?_
    refine s_iald dX12_seed_12 rfl tX12_26 aX12_26 (by decide) ?_
    refine r_istore_n dX12_seed_13 (by decide) rfl ?_
    refine r_aload_n dX12_seed_14 rfl ?_
    refine r_getA dX12_seed_15 fX12_48 rfl uX12_26 ?_
    refine r_bipush dX12_seed_18 (by decide) (by decide) ?_
    refine r_iload_n dX12_seed_20 rfl ?_
    refine n_iast dX12_seed_21 rfl tX12_26 aX12_26 (by decide) (fun M1 hM1 => ?_)
    have T := T M1 hM1
    refine r_iload_n dX12_seed_22 rfl ?_
    exact r_ireturn dX12_seed_23 rfl ⟨_, rfl, T⟩
  · have T := T.2 h_1
    refine r_iconst dX12_seed_4 (by decide) ?_
    exact r_ireturn dX12_seed_5 rfl ⟨_, rfl, T⟩
theorem eX12_seed {G : Gx} {n : Nat} {M : Mem} {Q : Int → Mem → Prop}  {x1 : Int} (h : ∀ K : Kx, CW G K mX12_seed n 0 [some (vO 0), some (vI x1), none] [] M (qI Q)) : OkI G n mX12_seed [vO 0, vI x1] M Q := Ok_of (by decide) (Nat.le_of_ble_eq_true rfl) rfl h
-- DownOnlyModel drawn (III)I
set_option maxRecDepth 20000 in
set_option maxHeartbeats 1000000 in
theorem bX12_drawn_0 {G : Gx} {K : Kx} {n : Nat} {M : Mem} {Q : Int → Mem → Prop}  {x1 : Int} {x2 : Int} {x3 : Int}  (T : OkI G n mX12_isRule [vO 0, vI x1] M (fun r_1 M1 => (r_1 = 0 → Q (-1) M1) ∧ (¬ (r_1 = 0) → (M1 0 26 0 = 0 → Q (-1) M1) ∧ (¬ (M1 0 26 0 = 0) → OkI G n mX12_in [vL x2, vL 1, vL 20] M1 (fun r_2 M2 => (r_2 = 0 → Q (-1) M2) ∧ (¬ (r_2 = 0) → OkI G n mX12_in [vL x3, vL 0, vL 1] M2 (fun r_3 M3 => (¬ r_3 = 0 → OkV G n mX12_keeps [vO 0] M3 (fun M4 => CW G K mX12_drawn (n + 1) 61 [some (vO 0), some (vI x1), some (vI x2), some (vI x3), some (vL (M4 0 26 11)), none, some (vI 0), some (vI 0), none] [] M4 (qI Q))) ∧ (r_3 = 0 → Q (-1) M3)))))))) : CW G K mX12_drawn (n + 1) 0 [some (vO 0), some (vI x1), some (vI x2), some (vI x3), none, none, none, none, none] [] M (qI Q) := by
  refine r_aload_n dX12_drawn_0 rfl ?_
  refine r_iload_n dX12_drawn_1 rfl ?_
  refine r_callVI (md' := mX12_isRule) (as := [vI x1]) dX12_drawn_2 lX12_381 iX12_isRule rfl rfl rfl (Nat.le_of_ble_eq_true rfl) T (fun r_1 M1 T => ?_)
  refine r_if_eq (tgt := 39) dX12_drawn_5 (by decide) (fun h_4 => ?_) (fun h_4 => ?_)
  · have T := T.1 h_4
    refine r_iconst dX12_drawn_39 (by decide) ?_
    exact r_ireturn dX12_drawn_40 rfl ⟨_, rfl, T⟩
  · have T := T.2 h_4
    refine r_aload_n dX12_drawn_8 rfl ?_
    refine r_getA dX12_drawn_9 fX12_48 rfl uX12_26 ?_
    refine r_iconst dX12_drawn_12 (by decide) ?_
    refine s_iald dX12_drawn_13 rfl tX12_26 aX12_26 (by decide) ?_
    refine r_if_eq (tgt := 39) dX12_drawn_14 (by decide) (fun h_3 => ?_) (fun h_3 => ?_)
    · have T := T.1 h_3
      refine r_iconst dX12_drawn_39 (by decide) ?_
      exact r_ireturn dX12_drawn_40 rfl ⟨_, rfl, T⟩
    · have T := T.2 h_3
      refine r_iload_n dX12_drawn_17 rfl ?_
      refine r_i2l dX12_drawn_18 ?_
      refine r_lconst (z := 1) dX12_drawn_19 (by decide) (by decide) ?_
      refine r_ldc2 (z := 20) dX12_drawn_20 kX12_465 (by decide) (by decide) ?_
      refine r_callSI (md' := mX12_in) (as := [vL x2, vL 1, vL 20]) dX12_drawn_23 lX12_148 iX12_in rfl rfl (Nat.le_of_ble_eq_true rfl) T (fun r_2 M2 T => ?_)
      refine r_if_eq (tgt := 39) dX12_drawn_26 (by decide) (fun h_2 => ?_) (fun h_2 => ?_)
      · have T := T.1 h_2
        refine r_iconst dX12_drawn_39 (by decide) ?_
        exact r_ireturn dX12_drawn_40 rfl ⟨_, rfl, T⟩
      · have T := T.2 h_2
        refine r_iload_n dX12_drawn_29 rfl ?_
        refine r_i2l dX12_drawn_30 ?_
        refine r_lconst (z := 0) dX12_drawn_31 (by decide) (by decide) ?_
        refine r_lconst (z := 1) dX12_drawn_32 (by decide) (by decide) ?_
        refine r_callSI (md' := mX12_in) (as := [vL x3, vL 0, vL 1]) dX12_drawn_33 lX12_148 iX12_in rfl rfl (Nat.le_of_ble_eq_true rfl) T (fun r_3 M3 T => ?_)
        refine r_if_ne (tgt := 41) dX12_drawn_36 (by decide) (fun h_1 => ?_) (fun h_1 => ?_)
        · have T := T.1 h_1
          refine r_aload_n dX12_drawn_41 rfl ?_
          refine r_callVV (md' := mX12_keeps) (as := []) dX12_drawn_42 lX12_389 iX12_keeps rfl rfl rfl (Nat.le_of_ble_eq_true rfl) T (fun M4 T => ?_)
          refine r_aload_n dX12_drawn_45 rfl ?_
          refine r_getA dX12_drawn_46 fX12_48 rfl uX12_26 ?_
          refine r_bipush dX12_drawn_49 (by decide) (by decide) ?_
          refine s_iald dX12_drawn_51 rfl tX12_26 aX12_26 (by decide) ?_
          refine r_i2l dX12_drawn_52 ?_
          refine r_lstore dX12_drawn_53 (by decide) rfl ?_
          refine r_iconst dX12_drawn_55 (by decide) ?_
          refine r_istore dX12_drawn_56 (by decide) rfl ?_
          refine r_iconst dX12_drawn_58 (by decide) ?_
          refine r_istore dX12_drawn_59 (by decide) rfl ?_
          exact T
        · have T := T.2 h_1
          refine r_iconst dX12_drawn_39 (by decide) ?_
          exact r_ireturn dX12_drawn_40 rfl ⟨_, rfl, T⟩
set_option maxRecDepth 20000 in
set_option maxHeartbeats 1000000 in
theorem bX12_drawn_61 {G : Gx} {K : Kx} {n : Nat} {M : Mem} {Q : Int → Mem → Prop}  {x1 : Int} {x2 : Int} {x3 : Int} {x4 : Int} {x6 : Int} {x7 : Int}  (T : (x2 ≤ x7 → OkV G n mX12_putsBack [vO 0] M (fun M1 => Q x6 M1)) ∧ (¬ (x2 ≤ x7) → ∀ M2 : Mem, M2 = mset M 0 26 3 0 → CW G K mX12_drawn (n + 1) 77 [some (vO 0), some (vI x1), some (vI x2), some (vI x3), some (vL x4), none, some (vI x6), some (vI x7), some (vI 0)] [] M2 (qI Q))) : CW G K mX12_drawn (n + 1) 61 [some (vO 0), some (vI x1), some (vI x2), some (vI x3), some (vL x4), none, some (vI x6), some (vI x7), none] [] M (qI Q) := by
  refine r_iload dX12_drawn_61 rfl ?_
  refine r_iload_n dX12_drawn_63 rfl ?_
  refine r_icmp_ge (tgt := 177) dX12_drawn_64 (by decide) (fun h_1 => ?_) (fun h_1 => ?_)
  · have T := T.1 h_1
    refine r_aload_n dX12_drawn_177 rfl ?_
    refine r_callVV (md' := mX12_putsBack) (as := []) dX12_drawn_178 lX12_401 iX12_putsBack rfl rfl rfl (Nat.le_of_ble_eq_true rfl) T (fun M1 T => ?_)
    refine r_iload dX12_drawn_181 rfl ?_
    exact r_ireturn dX12_drawn_183 rfl ⟨_, rfl, T⟩
  · have T := T.2 h_1
    refine r_aload_n dX12_drawn_67 rfl ?_
    refine r_getA dX12_drawn_68 fX12_48 rfl uX12_26 ?_
    refine r_iconst dX12_drawn_71 (by decide) ?_
    refine r_iconst dX12_drawn_72 (by decide) ?_
    refine n_iast dX12_drawn_73 rfl tX12_26 aX12_26 (by decide) (fun M2 hM2 => ?_)
    have T := T M2 hM2
    refine r_iconst dX12_drawn_74 (by decide) ?_
    refine r_istore dX12_drawn_75 (by decide) rfl ?_
    exact T
set_option maxRecDepth 20000 in
set_option maxHeartbeats 1000000 in
theorem bX12_drawn_77 {G : Gx} {K : Kx} {n : Nat} {M : Mem} {Q : Int → Mem → Prop}  {x1 : Int} {x2 : Int} {x3 : Int} {x4 : Int} {x6 : Int} {x7 : Int} {x8 : Int}  (T : (M 0 26 2 ≤ x8 → CW G K mX12_drawn (n + 1) 131 [some (vO 0), some (vI x1), some (vI x2), some (vI x3), some (vL x4), none, some (vI x6), some (vI x7), none] [] M (qI Q)) ∧ (¬ (M 0 26 2 ≤ x8) → ((M 0 26 0) ≠ 0) ∧ (OkV G n mX12_begins [vO 0, vI x8, vI (wr (wl (Int.tmod (wl (Int.tdiv (wl (Int.tmod (wl (wl (x4 * 1103515245) + 12345)) 2147483648)) 65536)) (M 0 26 0))))] M (fun M1 => CW G K mX12_drawn (n + 1) 77 [some (vO 0), some (vI x1), some (vI x2), some (vI x3), some (vL (wl (Int.tmod (wl (wl (x4 * 1103515245) + 12345)) 2147483648))), none, some (vI x6), some (vI x7), some (vI (wr (x8 + 1)))] [] M1 (qI Q))))) : CW G K mX12_drawn (n + 1) 77 [some (vO 0), some (vI x1), some (vI x2), some (vI x3), some (vL x4), none, some (vI x6), some (vI x7), some (vI x8)] [] M (qI Q) := by
  refine r_iload dX12_drawn_77 rfl ?_
  refine r_aload_n dX12_drawn_79 rfl ?_
  refine r_getA dX12_drawn_80 fX12_48 rfl uX12_26 ?_
  refine r_iconst dX12_drawn_83 (by decide) ?_
  refine s_iald dX12_drawn_84 rfl tX12_26 aX12_26 (by decide) ?_
  refine r_icmp_ge (tgt := 131) dX12_drawn_85 (by decide) (fun h_1 => ?_) (fun h_1 => ?_)
  · have T := T.1 h_1
    exact CW_msk [true, true, true, true, true, false, true, true, false] rfl T
  · have T := T.2 h_1
    refine r_lload dX12_drawn_88 rfl ?_
    refine r_ldc2 (z := 1103515245) dX12_drawn_90 kX12_487 (by decide) (by decide) ?_
    refine r_lmul dX12_drawn_93 ?_
    refine r_ldc2 (z := 12345) dX12_drawn_94 kX12_489 (by decide) (by decide) ?_
    refine r_ladd dX12_drawn_97 ?_
    refine r_ldc2 (z := 2147483648) dX12_drawn_98 kX12_491 (by decide) (by decide) ?_
    refine r_lrem dX12_drawn_101 (by decide) ?_
    refine r_lstore dX12_drawn_102 (by decide) rfl ?_
    refine r_aload_n dX12_drawn_104 rfl ?_
    refine r_iload dX12_drawn_105 rfl ?_
    refine r_lload dX12_drawn_107 rfl ?_
    refine r_ldc2 (z := 65536) dX12_drawn_109 kX12_493 (by decide) (by decide) ?_
    refine r_ldiv dX12_drawn_112 (by decide) ?_
    refine r_aload_n dX12_drawn_113 rfl ?_
    refine r_getA dX12_drawn_114 fX12_48 rfl uX12_26 ?_
    refine r_iconst dX12_drawn_117 (by decide) ?_
    refine s_iald dX12_drawn_118 rfl tX12_26 aX12_26 (by decide) ?_
    refine r_i2l dX12_drawn_119 ?_
    refine r_lrem dX12_drawn_120 T.1 ?_
    have T := T.2
    refine r_l2i dX12_drawn_121 ?_
    refine r_callVV (md' := mX12_begins) (as := [vI x8, vI (wr (wl (Int.tmod (wl (Int.tdiv (wl (Int.tmod (wl (wl (x4 * 1103515245) + 12345)) 2147483648)) 65536)) (M 0 26 0))))]) dX12_drawn_122 lX12_300 iX12_begins rfl rfl rfl (Nat.le_of_ble_eq_true rfl) T (fun M1 T => ?_)
    refine r_iinc dX12_drawn_125 rfl (by decide) rfl ?_
    refine r_goto (tgt := 77) dX12_drawn_128 (by decide) ?_
    exact T
set_option maxRecDepth 20000 in
set_option maxHeartbeats 1000000 in
theorem bX12_drawn_131 {G : Gx} {K : Kx} {n : Nat} {M : Mem} {Q : Int → Mem → Prop}  {x1 : Int} {x2 : Int} {x3 : Int} {x4 : Int} {x6 : Int} {x7 : Int}  (T : (1440 ≤ M 0 26 3 → (¬ x3 = 0 → OkI G n mX12_onTheWay [vO 0] M (fun r_1 M1 => CW G K mX12_drawn (n + 1) 61 [some (vO 0), some (vI x1), some (vI x2), some (vI x3), some (vL x4), none, some (vI (wr (x6 + r_1))), some (vI (wr (x7 + 1))), none] [] M1 (qI Q))) ∧ (x3 = 0 → OkI G n mX12_atHome [vO 0] M (fun r_2 M2 => CW G K mX12_drawn (n + 1) 61 [some (vO 0), some (vI x1), some (vI x2), some (vI x3), some (vL x4), none, some (vI (wr (x6 + r_2))), some (vI (wr (x7 + 1))), none] [] M2 (qI Q)))) ∧ (¬ (1440 ≤ M 0 26 3) → OkV G n mX12_minute [vO 0, vI x1] M (fun M3 => CW G K mX12_drawn (n + 1) 131 [some (vO 0), some (vI x1), some (vI x2), some (vI x3), some (vL x4), none, some (vI x6), some (vI x7), none] [] M3 (qI Q)))) : CW G K mX12_drawn (n + 1) 131 [some (vO 0), some (vI x1), some (vI x2), some (vI x3), some (vL x4), none, some (vI x6), some (vI x7), none] [] M (qI Q) := by
  refine r_aload_n dX12_drawn_131 rfl ?_
  refine r_getA dX12_drawn_132 fX12_48 rfl uX12_26 ?_
  refine r_iconst dX12_drawn_135 (by decide) ?_
  refine s_iald dX12_drawn_136 rfl tX12_26 aX12_26 (by decide) ?_
  refine r_sipush dX12_drawn_137 (by decide) (by decide) ?_
  refine r_icmp_ge (tgt := 151) dX12_drawn_140 (by decide) (fun h_2 => ?_) (fun h_2 => ?_)
  · have T := T.1 h_2
    refine r_iload dX12_drawn_151 rfl ?_
    refine r_iload_n dX12_drawn_153 rfl ?_
    refine r_if_ne (tgt := 164) dX12_drawn_154 (by decide) (fun h_1 => ?_) (fun h_1 => ?_)
    · have T := T.1 h_1
      refine r_aload_n dX12_drawn_164 rfl ?_
      refine r_callVI (md' := mX12_onTheWay) (as := []) dX12_drawn_165 lX12_395 iX12_onTheWay rfl rfl rfl (Nat.le_of_ble_eq_true rfl) T (fun r_1 M1 T => ?_)
      refine r_iadd dX12_drawn_168 ?_
      refine r_istore dX12_drawn_169 (by decide) rfl ?_
      refine r_iinc dX12_drawn_171 rfl (by decide) rfl ?_
      refine r_goto (tgt := 61) dX12_drawn_174 (by decide) ?_
      exact T
    · have T := T.2 h_1
      refine r_aload_n dX12_drawn_157 rfl ?_
      refine r_callVI (md' := mX12_atHome) (as := []) dX12_drawn_158 lX12_392 iX12_atHome rfl rfl rfl (Nat.le_of_ble_eq_true rfl) T (fun r_2 M2 T => ?_)
      refine r_goto (tgt := 168) dX12_drawn_161 (by decide) ?_
      refine r_iadd dX12_drawn_168 ?_
      refine r_istore dX12_drawn_169 (by decide) rfl ?_
      refine r_iinc dX12_drawn_171 rfl (by decide) rfl ?_
      refine r_goto (tgt := 61) dX12_drawn_174 (by decide) ?_
      exact T
  · have T := T.2 h_2
    refine r_aload_n dX12_drawn_143 rfl ?_
    refine r_iload_n dX12_drawn_144 rfl ?_
    refine r_callVV (md' := mX12_minute) (as := [vI x1]) dX12_drawn_145 lX12_386 iX12_minute rfl rfl rfl (Nat.le_of_ble_eq_true rfl) T (fun M3 T => ?_)
    refine r_goto (tgt := 131) dX12_drawn_148 (by decide) ?_
    exact T
theorem eX12_drawn {G : Gx} {n : Nat} {M : Mem} {Q : Int → Mem → Prop}  {x1 : Int} {x2 : Int} {x3 : Int} (h : ∀ K : Kx, CW G K mX12_drawn n 0 [some (vO 0), some (vI x1), some (vI x2), some (vI x3), none, none, none, none, none] [] M (qI Q)) : OkI G n mX12_drawn [vO 0, vI x1, vI x2, vI x3] M Q := Ok_of (by decide) (Nat.le_of_ble_eq_true rfl) rfl h
-- DownOnlyModel count (I)I
set_option maxRecDepth 20000 in
set_option maxHeartbeats 1000000 in
theorem bX12_count_0 {G : Gx} {K : Kx} {n : Nat} {M : Mem} {Q : Int → Mem → Prop}  {x1 : Int}  (T : ((x1 < 0 ∨ 13 < x1) → Q (-1) M) ∧ (x1 = 0 → (0 ≤ x1 ∧ x1 < 328) ∧ (Q (M 0 26 x1.toNat) M)) ∧ (x1 = 1 → (0 ≤ x1 ∧ x1 < 328) ∧ (Q (M 0 26 x1.toNat) M)) ∧ (x1 = 2 → (0 ≤ x1 ∧ x1 < 328) ∧ (Q (M 0 26 x1.toNat) M)) ∧ (x1 = 3 → Q (M 0 2 0) M) ∧ (x1 = 4 → Q (M 0 26 3) M) ∧ (x1 = 5 → (0 ≤ wr (x1 + 2) ∧ wr (x1 + 2) < 328) ∧ (Q (M 0 26 (wr (x1 + 2)).toNat) M)) ∧ (x1 = 6 → (0 ≤ wr (x1 + 2) ∧ wr (x1 + 2) < 328) ∧ (Q (M 0 26 (wr (x1 + 2)).toNat) M)) ∧ (x1 = 7 → (0 ≤ wr (x1 + 2) ∧ wr (x1 + 2) < 328) ∧ (Q (M 0 26 (wr (x1 + 2)).toNat) M)) ∧ (x1 = 8 → (0 ≤ wr (x1 + 2) ∧ wr (x1 + 2) < 328) ∧ (Q (M 0 26 (wr (x1 + 2)).toNat) M)) ∧ (x1 = 9 → Q (M 0 26 11) M) ∧ (x1 = 10 → Q (M 0 1 0) M) ∧ (x1 = 11 → (0 ≤ wr (x1 - 7) ∧ wr (x1 - 7) < 328) ∧ (Q (M 0 26 (wr (x1 - 7)).toNat) M)) ∧ (x1 = 12 → (0 ≤ wr (x1 - 7) ∧ wr (x1 - 7) < 328) ∧ (Q (M 0 26 (wr (x1 - 7)).toNat) M)) ∧ (x1 = 13 → (0 ≤ wr (x1 - 7) ∧ wr (x1 - 7) < 328) ∧ (Q (M 0 26 (wr (x1 - 7)).toNat) M))) : CW G K mX12_count n 0 [some (vO 0), some (vI x1)] [] M (qI Q) := by
  refine r_iload_n dX12_count_0 rfl ?_
  refine r_tsw (td := 123) (tg := [72, 72, 72, 79, 84, 91, 91, 91, 91, 100, 108, 113, 113, 113]) dX12_count_1 (by decide) (by decide) (by decide) (fun h_ => ?_) (fun j t ht hx => ?_)
  · have T := T.1 h_
    refine r_iconst dX12_count_123 (by decide) ?_
    exact r_ireturn dX12_count_124 rfl ⟨_, rfl, T⟩
  · match j, ht, hx with
    | 0, ht, hx =>
      cases ht
      have T := T.2.1 (by omega)
      refine r_aload_n dX12_count_72 rfl ?_
      refine r_getA dX12_count_73 fX12_48 rfl uX12_26 ?_
      refine r_iload_n dX12_count_76 rfl ?_
      refine s_iald dX12_count_77 rfl tX12_26 aX12_26 T.1 ?_
      have T := T.2
      exact r_ireturn dX12_count_78 rfl ⟨_, rfl, T⟩
    | 1, ht, hx =>
      cases ht
      have T := T.2.2.1 (by omega)
      refine r_aload_n dX12_count_72 rfl ?_
      refine r_getA dX12_count_73 fX12_48 rfl uX12_26 ?_
      refine r_iload_n dX12_count_76 rfl ?_
      refine s_iald dX12_count_77 rfl tX12_26 aX12_26 T.1 ?_
      have T := T.2
      exact r_ireturn dX12_count_78 rfl ⟨_, rfl, T⟩
    | 2, ht, hx =>
      cases ht
      have T := T.2.2.2.1 (by omega)
      refine r_aload_n dX12_count_72 rfl ?_
      refine r_getA dX12_count_73 fX12_48 rfl uX12_26 ?_
      refine r_iload_n dX12_count_76 rfl ?_
      refine s_iald dX12_count_77 rfl tX12_26 aX12_26 T.1 ?_
      have T := T.2
      exact r_ireturn dX12_count_78 rfl ⟨_, rfl, T⟩
    | 3, ht, hx =>
      cases ht
      have T := T.2.2.2.2.1 (by omega)
      refine r_aload_n dX12_count_79 rfl ?_
      refine r_getI dX12_count_80 fX12_294 rfl tX12_2 ?_
      exact r_ireturn dX12_count_83 rfl ⟨_, rfl, T⟩
    | 4, ht, hx =>
      cases ht
      have T := T.2.2.2.2.2.1 (by omega)
      refine r_aload_n dX12_count_84 rfl ?_
      refine r_getA dX12_count_85 fX12_48 rfl uX12_26 ?_
      refine r_iconst dX12_count_88 (by decide) ?_
      refine s_iald dX12_count_89 rfl tX12_26 aX12_26 (by decide) ?_
      exact r_ireturn dX12_count_90 rfl ⟨_, rfl, T⟩
    | 5, ht, hx =>
      cases ht
      have T := T.2.2.2.2.2.2.1 (by omega)
      refine r_aload_n dX12_count_91 rfl ?_
      refine r_getA dX12_count_92 fX12_48 rfl uX12_26 ?_
      refine r_iload_n dX12_count_95 rfl ?_
      refine r_iconst dX12_count_96 (by decide) ?_
      refine r_iadd dX12_count_97 ?_
      refine s_iald dX12_count_98 rfl tX12_26 aX12_26 T.1 ?_
      have T := T.2
      exact r_ireturn dX12_count_99 rfl ⟨_, rfl, T⟩
    | 6, ht, hx =>
      cases ht
      have T := T.2.2.2.2.2.2.2.1 (by omega)
      refine r_aload_n dX12_count_91 rfl ?_
      refine r_getA dX12_count_92 fX12_48 rfl uX12_26 ?_
      refine r_iload_n dX12_count_95 rfl ?_
      refine r_iconst dX12_count_96 (by decide) ?_
      refine r_iadd dX12_count_97 ?_
      refine s_iald dX12_count_98 rfl tX12_26 aX12_26 T.1 ?_
      have T := T.2
      exact r_ireturn dX12_count_99 rfl ⟨_, rfl, T⟩
    | 7, ht, hx =>
      cases ht
      have T := T.2.2.2.2.2.2.2.2.1 (by omega)
      refine r_aload_n dX12_count_91 rfl ?_
      refine r_getA dX12_count_92 fX12_48 rfl uX12_26 ?_
      refine r_iload_n dX12_count_95 rfl ?_
      refine r_iconst dX12_count_96 (by decide) ?_
      refine r_iadd dX12_count_97 ?_
      refine s_iald dX12_count_98 rfl tX12_26 aX12_26 T.1 ?_
      have T := T.2
      exact r_ireturn dX12_count_99 rfl ⟨_, rfl, T⟩
    | 8, ht, hx =>
      cases ht
      have T := T.2.2.2.2.2.2.2.2.2.1 (by omega)
      refine r_aload_n dX12_count_91 rfl ?_
      refine r_getA dX12_count_92 fX12_48 rfl uX12_26 ?_
      refine r_iload_n dX12_count_95 rfl ?_
      refine r_iconst dX12_count_96 (by decide) ?_
      refine r_iadd dX12_count_97 ?_
      refine s_iald dX12_count_98 rfl tX12_26 aX12_26 T.1 ?_
      have T := T.2
      exact r_ireturn dX12_count_99 rfl ⟨_, rfl, T⟩
    | 9, ht, hx =>
      cases ht
      have T := T.2.2.2.2.2.2.2.2.2.2.1 (by omega)
      refine r_aload_n dX12_count_100 rfl ?_
      refine r_getA dX12_count_101 fX12_48 rfl uX12_26 ?_
      refine r_bipush dX12_count_104 (by decide) (by decide) ?_
      refine s_iald dX12_count_106 rfl tX12_26 aX12_26 (by decide) ?_
      exact r_ireturn dX12_count_107 rfl ⟨_, rfl, T⟩
    | 10, ht, hx =>
      cases ht
      have T := T.2.2.2.2.2.2.2.2.2.2.2.1 (by omega)
      refine r_aload_n dX12_count_108 rfl ?_
      refine r_getI dX12_count_109 fX12_109 rfl tX12_1 ?_
      exact r_ireturn dX12_count_112 rfl ⟨_, rfl, T⟩
    | 11, ht, hx =>
      cases ht
      have T := T.2.2.2.2.2.2.2.2.2.2.2.2.1 (by omega)
      refine r_aload_n dX12_count_113 rfl ?_
      refine r_getA dX12_count_114 fX12_48 rfl uX12_26 ?_
      refine r_iload_n dX12_count_117 rfl ?_
      refine r_bipush dX12_count_118 (by decide) (by decide) ?_
      refine r_isub dX12_count_120 ?_
      refine s_iald dX12_count_121 rfl tX12_26 aX12_26 T.1 ?_
      have T := T.2
      exact r_ireturn dX12_count_122 rfl ⟨_, rfl, T⟩
    | 12, ht, hx =>
      cases ht
      have T := T.2.2.2.2.2.2.2.2.2.2.2.2.2.1 (by omega)
      refine r_aload_n dX12_count_113 rfl ?_
      refine r_getA dX12_count_114 fX12_48 rfl uX12_26 ?_
      refine r_iload_n dX12_count_117 rfl ?_
      refine r_bipush dX12_count_118 (by decide) (by decide) ?_
      refine r_isub dX12_count_120 ?_
      refine s_iald dX12_count_121 rfl tX12_26 aX12_26 T.1 ?_
      have T := T.2
      exact r_ireturn dX12_count_122 rfl ⟨_, rfl, T⟩
    | 13, ht, hx =>
      cases ht
      have T := T.2.2.2.2.2.2.2.2.2.2.2.2.2.2 (by omega)
      refine r_aload_n dX12_count_113 rfl ?_
      refine r_getA dX12_count_114 fX12_48 rfl uX12_26 ?_
      refine r_iload_n dX12_count_117 rfl ?_
      refine r_bipush dX12_count_118 (by decide) (by decide) ?_
      refine r_isub dX12_count_120 ?_
      refine s_iald dX12_count_121 rfl tX12_26 aX12_26 T.1 ?_
      have T := T.2
      exact r_ireturn dX12_count_122 rfl ⟨_, rfl, T⟩
    | j + 14, ht, hx => exact absurd ht (by simp)
theorem eX12_count {G : Gx} {n : Nat} {M : Mem} {Q : Int → Mem → Prop}  {x1 : Int} (h : ∀ K : Kx, CW G K mX12_count n 0 [some (vO 0), some (vI x1)] [] M (qI Q)) : OkI G n mX12_count [vO 0, vI x1] M Q := Ok_of (by decide) (Nat.le_of_ble_eq_true rfl) rfl h
-- DownOnlyModel image (I)I
set_option maxRecDepth 20000 in
set_option maxHeartbeats 1000000 in
theorem bX12_image_0 {G : Gx} {K : Kx} {n : Nat} {M : Mem} {Q : Int → Mem → Prop}  {x1 : Int}  (T : OkI G n mX12_in [vL x1, vL 0, vL 3] M (fun r_1 M1 => (¬ r_1 = 0 → (0 ≤ x1 ∧ x1 < 4) ∧ (∀ M2 : Mem, M2 = mset M1 0 46 x1.toNat 1 → CW G K mX12_image (n + 1) 23 [some (vO 0), some (vI x1), some (vI 0)] [] M2 (qI Q))) ∧ (r_1 = 0 → Q (-1) M1))) : CW G K mX12_image (n + 1) 0 [some (vO 0), some (vI x1), none] [] M (qI Q) := by
  refine r_iload_n dX12_image_0 rfl ?_
  refine r_i2l dX12_image_1 ?_
  refine r_lconst (z := 0) dX12_image_2 (by decide) (by decide) ?_
  refine r_ldc2 (z := 3) dX12_image_3 kX12_495 (by decide) (by decide) ?_
  refine r_callSI (md' := mX12_in) (as := [vL x1, vL 0, vL 3]) dX12_image_6 lX12_148 iX12_in rfl rfl (Nat.le_of_ble_eq_true rfl) T (fun r_1 M1 T => ?_)
  refine r_if_ne (tgt := 14) dX12_image_9 (by decide) (fun h_1 => ?_) (fun h_1 => ?_)
  · have T := T.1 h_1
    refine r_aload_n dX12_image_14 rfl ?_
    refine r_getA dX12_image_15 fX12_106 rfl uX12_46 ?_
    refine r_iload_n dX12_image_18 rfl ?_
    refine r_iconst dX12_image_19 (by decide) ?_
    refine n_zast dX12_image_20 rfl tX12_46 aX12_46 T.1 (by decide) (fun M2 hM2 => ?_)
    have T := T.2 M2 hM2
    refine r_iconst dX12_image_21 (by decide) ?_
    refine r_istore_n dX12_image_22 (by decide) rfl ?_
    exact T
  · have T := T.2 h_1
    refine r_iconst dX12_image_12 (by decide) ?_
    exact r_ireturn dX12_image_13 rfl ⟨_, rfl, T⟩
set_option maxRecDepth 20000 in
set_option maxHeartbeats 1000000 in
theorem bX12_image_23 {G : Gx} {K : Kx} {n : Nat} {M : Mem} {Q : Int → Mem → Prop}  {x1 : Int} {x2 : Int}  (T : (328 ≤ x2 → Q (M 0 26 3) M) ∧ (¬ (328 ≤ x2) → (0 ≤ x2 ∧ x2 < 328) ∧ ((0 ≤ wr (wr (328 * x1) + x2) ∧ wr (wr (328 * x1) + x2) < 1312) ∧ (∀ M1 : Mem, M1 = mset M 0 45 (wr (wr (328 * x1) + x2)).toNat (M 0 26 x2.toNat) → CW G K mX12_image (n + 1) 23 [some (vO 0), some (vI x1), some (vI (wr (x2 + 1)))] [] M1 (qI Q))))) : CW G K mX12_image (n + 1) 23 [some (vO 0), some (vI x1), some (vI x2)] [] M (qI Q) := by
  refine r_iload_n dX12_image_23 rfl ?_
  refine r_sipush dX12_image_24 (by decide) (by decide) ?_
  refine r_icmp_ge (tgt := 54) dX12_image_27 (by decide) (fun h_1 => ?_) (fun h_1 => ?_)
  · have T := T.1 h_1
    refine r_aload_n dX12_image_54 rfl ?_
    refine r_getA dX12_image_55 fX12_48 rfl uX12_26 ?_
    refine r_iconst dX12_image_58 (by decide) ?_
    refine s_iald dX12_image_59 rfl tX12_26 aX12_26 (by decide) ?_
    exact r_ireturn dX12_image_60 rfl ⟨_, rfl, T⟩
  · have T := T.2 h_1
    refine r_aload_n dX12_image_30 rfl ?_
    refine r_getA dX12_image_31 fX12_103 rfl uX12_45 ?_
    refine r_sipush dX12_image_34 (by decide) (by decide) ?_
    refine r_iload_n dX12_image_37 rfl ?_
    refine r_imul dX12_image_38 ?_
    refine r_iload_n dX12_image_39 rfl ?_
    refine r_iadd dX12_image_40 ?_
    refine r_aload_n dX12_image_41 rfl ?_
    refine r_getA dX12_image_42 fX12_48 rfl uX12_26 ?_
    refine r_iload_n dX12_image_45 rfl ?_
    refine s_iald dX12_image_46 rfl tX12_26 aX12_26 T.1 ?_
    have T := T.2
    refine n_iast dX12_image_47 rfl tX12_45 aX12_45 T.1 (fun M1 hM1 => ?_)
    have T := T.2 M1 hM1
    refine r_iinc dX12_image_48 rfl (by decide) rfl ?_
    refine r_goto (tgt := 23) dX12_image_51 (by decide) ?_
    exact T
theorem eX12_image {G : Gx} {n : Nat} {M : Mem} {Q : Int → Mem → Prop}  {x1 : Int} (h : ∀ K : Kx, CW G K mX12_image n 0 [some (vO 0), some (vI x1), none] [] M (qI Q)) : OkI G n mX12_image [vO 0, vI x1] M Q := Ok_of (by decide) (Nat.le_of_ble_eq_true rfl) rfl h
