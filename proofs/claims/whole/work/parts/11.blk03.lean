-- DownOnly$HouseReader opens (Z)Z
set_option maxRecDepth 20000 in
set_option maxHeartbeats 1000000 in
theorem bX2_opens_0 {G : Gx} {K : Kx} {n : Nat} {M : Mem} {Q : Int → Mem → Prop}  {x1 : Int}  (T : (x1 = 0 → OkI G n mX9_refuse [vO 2, vI 4] M (fun r_1 M1 => (r_1 = 0 ∨ r_1 = 1) ∧ Q r_1 M1)) ∧ (¬ (x1 = 0) → (M 14 2 0 < 40 → ∀ M2 : Mem, M2 = mset M 14 2 0 (wr (M 14 2 0 + 1)) → OkV G n mX9_advance [vO 2] M2 (fun M3 => Q 1 M3)) ∧ (¬ (M 14 2 0 < 40) → OkI G n mX9_refuse [vO 2, vI 4] M (fun r_2 M4 => (r_2 = 0 ∨ r_2 = 1) ∧ Q r_2 M4)))) : CW G K mX2_opens (n + 1) 0 [some (vO 14), some (vI x1)] [] M (qI Q) := by
  refine r_iload_n dX2_opens_0 rfl ?_
  refine r_if_eq (tgt := 13) dX2_opens_1 (by decide) (fun h_2 => ?_) (fun h_2 => ?_)
  · have T := T.1 h_2
    refine r_aload_n dX2_opens_13 rfl ?_
    refine r_getO (o' := 2) dX2_opens_14 fX2_9 rfl tX2_0 rfl ?_
    refine r_iconst dX2_opens_17 (by decide) ?_
    refine r_callVI (md' := mX9_refuse) (as := [vI 4]) dX2_opens_18 lX2_43 iX9_refuse rfl rfl rfl (Nat.le_of_ble_eq_true rfl) T (fun r_1 M1 T => ?_)
    exact r_zreturn dX2_opens_21 rfl T.1 ⟨_, rfl, T.2⟩
  · have T := T.2 h_2
    refine r_aload_n dX2_opens_4 rfl ?_
    refine r_getI dX2_opens_5 fX2_24 rfl tX2_2 ?_
    refine r_bipush dX2_opens_8 (by decide) (by decide) ?_
    refine r_icmp_lt (tgt := 22) dX2_opens_10 (by decide) (fun h_1 => ?_) (fun h_1 => ?_)
    · have T := T.1 h_1
      refine r_aload_n dX2_opens_22 rfl ?_
      refine r_dup dX2_opens_23 rfl ?_
      refine r_getI dX2_opens_24 fX2_24 rfl tX2_2 ?_
      refine r_iconst dX2_opens_27 (by decide) ?_
      refine r_iadd dX2_opens_28 ?_
      refine n_put dX2_opens_29 pX2_24 rfl tX2_2 (fun M2 hM2 => ?_)
      have T := T M2 hM2
      refine r_aload_n dX2_opens_32 rfl ?_
      refine r_getO (o' := 2) dX2_opens_33 fX2_9 rfl tX2_0 rfl ?_
      refine r_callVV (md' := mX9_advance) (as := []) dX2_opens_36 lX2_95 iX9_advance rfl rfl rfl (Nat.le_of_ble_eq_true rfl) T (fun M3 T => ?_)
      refine r_iconst dX2_opens_39 (by decide) ?_
      exact r_zreturn dX2_opens_40 rfl (by decide) ⟨_, rfl, T⟩
    · have T := T.2 h_1
      refine r_aload_n dX2_opens_13 rfl ?_
      refine r_getO (o' := 2) dX2_opens_14 fX2_9 rfl tX2_0 rfl ?_
      refine r_iconst dX2_opens_17 (by decide) ?_
      refine r_callVI (md' := mX9_refuse) (as := [vI 4]) dX2_opens_18 lX2_43 iX9_refuse rfl rfl rfl (Nat.le_of_ble_eq_true rfl) T (fun r_2 M4 T => ?_)
      exact r_zreturn dX2_opens_21 rfl T.1 ⟨_, rfl, T.2⟩
theorem eX2_opens {G : Gx} {n : Nat} {M : Mem} {Q : Int → Mem → Prop}  {x1 : Int} (h : ∀ K : Kx, CW G K mX2_opens n 0 [some (vO 14), some (vI x1)] [] M (qI Q)) : OkI G n mX2_opens [vO 14, vI x1] M Q := Ok_of (by decide) (Nat.le_of_ble_eq_true rfl) rfl h
-- DownOnly$HouseReader readRoom ()Z
set_option maxRecDepth 20000 in
set_option maxHeartbeats 1000000 in
theorem bX2_readRoom_0 {G : Gx} {K : Kx} {n : Nat} {M : Mem} {Q : Int → Mem → Prop}    (T : OkI G n mX9_isNumber [vO 2, vI 0, vI 40] M (fun r_1 M1 => (r_1 = 0 → Q 0 M1) ∧ (¬ (r_1 = 0) → (M1 7 0 0 < 16 → OkI G n mX9_take [vO 2] M1 (fun r_2 M2 => (0 ≤ M1 7 0 0 ∧ M1 7 0 0 < 16) ∧ (∀ M3 : Mem, M3 = mset M2 7 7 (M1 7 0 0).toNat r_2 → ∀ M4 : Mem, M4 = mset M3 7 0 0 (wr (M3 7 0 0 + 1)) → (0 ≤ wr (M4 7 0 0 - 1) ∧ wr (M4 7 0 0 - 1) < 16) ∧ ((0 ≤ M4 7 3 0 ∧ M4 7 3 0 < 16) ∧ ((M4 7 7 (wr (M4 7 0 0 - 1)).toNat ≤ M4 7 7 (M4 7 3 0).toNat → Q 1 M4) ∧ (¬ (M4 7 7 (wr (M4 7 0 0 - 1)).toNat ≤ M4 7 7 (M4 7 3 0).toNat) → ∀ M5 : Mem, M5 = mset M4 7 3 0 (wr (M4 7 0 0 - 1)) → Q 1 M5)))))) ∧ (¬ (M1 7 0 0 < 16) → Q 0 M1)))) : CW G K mX2_readRoom (n + 1) 0 [some (vO 14)] [] M (qI Q) := by
  refine r_aload_n dX2_readRoom_0 rfl ?_
  refine r_getO (o' := 2) dX2_readRoom_1 fX2_9 rfl tX2_0 rfl ?_
  refine r_iconst dX2_readRoom_4 (by decide) ?_
  refine r_bipush dX2_readRoom_5 (by decide) (by decide) ?_
  refine r_callVI (md' := mX9_isNumber) (as := [vI 0, vI 40]) dX2_readRoom_7 lX2_98 iX9_isNumber rfl rfl rfl (Nat.le_of_ble_eq_true rfl) T (fun r_1 M1 T => ?_)
  refine r_if_eq (tgt := 25) dX2_readRoom_10 (by decide) (fun h_3 => ?_) (fun h_3 => ?_)
  · have T := T.1 h_3
    refine r_iconst dX2_readRoom_25 (by decide) ?_
    exact r_zreturn dX2_readRoom_26 rfl (by decide) ⟨_, rfl, T⟩
  · have T := T.2 h_3
    refine r_aload_n dX2_readRoom_13 rfl ?_
    refine r_getO (o' := 7) dX2_readRoom_14 fX2_15 rfl tX2_1 rfl ?_
    refine r_getI dX2_readRoom_17 fX2_40 rfl tX1_0 ?_
    refine r_bipush dX2_readRoom_20 (by decide) (by decide) ?_
    refine r_icmp_lt (tgt := 27) dX2_readRoom_22 (by decide) (fun h_2 => ?_) (fun h_2 => ?_)
    · have T := T.1 h_2
      refine r_aload_n dX2_readRoom_27 rfl ?_
      refine r_getO (o' := 7) dX2_readRoom_28 fX2_15 rfl tX2_1 rfl ?_
      refine r_getA dX2_readRoom_31 fX2_102 rfl uX1_7 ?_
      refine r_aload_n dX2_readRoom_34 rfl ?_
      refine r_getO (o' := 7) dX2_readRoom_35 fX2_15 rfl tX2_1 rfl ?_
      refine r_getI dX2_readRoom_38 fX2_40 rfl tX1_0 ?_
      refine r_aload_n dX2_readRoom_41 rfl ?_
      refine r_getO (o' := 2) dX2_readRoom_42 fX2_9 rfl tX2_0 rfl ?_
      refine r_callVI (md' := mX9_take) (as := []) dX2_readRoom_45 lX2_106 iX9_take rfl rfl rfl (Nat.le_of_ble_eq_true rfl) T (fun r_2 M2 T => ?_)
      refine n_iast dX2_readRoom_48 rfl tX1_7 aX1_7 T.1 (fun M3 hM3 => ?_)
      have T := T.2 M3 hM3
      refine r_aload_n dX2_readRoom_49 rfl ?_
      refine r_getO (o' := 7) dX2_readRoom_50 fX2_15 rfl tX2_1 rfl ?_
      refine r_dup dX2_readRoom_53 rfl ?_
      refine r_getI dX2_readRoom_54 fX2_40 rfl tX1_0 ?_
      refine r_iconst dX2_readRoom_57 (by decide) ?_
      refine r_iadd dX2_readRoom_58 ?_
      refine n_put dX2_readRoom_59 pX2_40 rfl tX1_0 (fun M4 hM4 => ?_)
      have T := T M4 hM4
      refine r_aload_n dX2_readRoom_62 rfl ?_
      refine r_getO (o' := 7) dX2_readRoom_63 fX2_15 rfl tX2_1 rfl ?_
      refine r_getA dX2_readRoom_66 fX2_102 rfl uX1_7 ?_
      refine r_aload_n dX2_readRoom_69 rfl ?_
      refine r_getO (o' := 7) dX2_readRoom_70 fX2_15 rfl tX2_1 rfl ?_
      refine r_getI dX2_readRoom_73 fX2_40 rfl tX1_0 ?_
      refine r_iconst dX2_readRoom_76 (by decide) ?_
      refine r_isub dX2_readRoom_77 ?_
      refine s_iald dX2_readRoom_78 rfl tX1_7 aX1_7 T.1 ?_
      have T := T.2
      refine r_aload_n dX2_readRoom_79 rfl ?_
      refine r_getO (o' := 7) dX2_readRoom_80 fX2_15 rfl tX2_1 rfl ?_
      refine r_getA dX2_readRoom_83 fX2_102 rfl uX1_7 ?_
      refine r_aload_n dX2_readRoom_86 rfl ?_
      refine r_getO (o' := 7) dX2_readRoom_87 fX2_15 rfl tX2_1 rfl ?_
      refine r_getI dX2_readRoom_90 fX2_110 rfl tX1_3 ?_
      refine s_iald dX2_readRoom_93 rfl tX1_7 aX1_7 T.1 ?_
      have T := T.2
      refine r_icmp_le (tgt := 113) dX2_readRoom_94 (by decide) (fun h_1 => ?_) (fun h_1 => ?_)
      · have T := T.1 h_1
        refine r_iconst dX2_readRoom_113 (by decide) ?_
        exact r_zreturn dX2_readRoom_114 rfl (by decide) ⟨_, rfl, T⟩
      · have T := T.2 h_1
        refine r_aload_n dX2_readRoom_97 rfl ?_
        refine r_getO (o' := 7) dX2_readRoom_98 fX2_15 rfl tX2_1 rfl ?_
        refine r_aload_n dX2_readRoom_101 rfl ?_
        refine r_getO (o' := 7) dX2_readRoom_102 fX2_15 rfl tX2_1 rfl ?_
        refine r_getI dX2_readRoom_105 fX2_40 rfl tX1_0 ?_
        refine r_iconst dX2_readRoom_108 (by decide) ?_
        refine r_isub dX2_readRoom_109 ?_
        refine n_put dX2_readRoom_110 pX2_110 rfl tX1_3 (fun M5 hM5 => ?_)
        have T := T M5 hM5
        refine r_iconst dX2_readRoom_113 (by decide) ?_
        exact r_zreturn dX2_readRoom_114 rfl (by decide) ⟨_, rfl, T⟩
    · have T := T.2 h_2
      refine r_iconst dX2_readRoom_25 (by decide) ?_
      exact r_zreturn dX2_readRoom_26 rfl (by decide) ⟨_, rfl, T⟩
theorem eX2_readRoom {G : Gx} {n : Nat} {M : Mem} {Q : Int → Mem → Prop}   (h : ∀ K : Kx, CW G K mX2_readRoom n 0 [some (vO 14)] [] M (qI Q)) : OkI G n mX2_readRoom [vO 14] M Q := Ok_of (by decide) (Nat.le_of_ble_eq_true rfl) rfl h
-- DownOnly$HouseReader readWay (Z)Z
set_option maxRecDepth 20000 in
set_option maxHeartbeats 1000000 in
theorem bX2_readWay_0 {G : Gx} {K : Kx} {n : Nat} {M : Mem} {Q : Int → Mem → Prop}  {x1 : Int}  (T : OkI G n mX9_isNumber [vO 2, vI 0, vI (wr (M 7 0 0 - 1))] M (fun r_1 M1 => (r_1 = 0 → Q 0 M1) ∧ (¬ (r_1 = 0) → (M 7 1 0 < 24 → OkI G n mX9_take [vO 2] M1 (fun r_2 M2 => OkI G n mX9_isNumber [vO 2, vI 0, vI (wr (M2 7 0 0 - 1))] M2 (fun r_3 M3 => (¬ r_3 = 0 → OkI G n mX2_joins [vO 14, vI r_2, vI (M3 2 6 0), vI x1] M3 (fun r_4 M4 => (¬ r_4 = 0 → OkI G n mX9_take [vO 2] M4 (fun r_5 M5 => OkI G n mX9_isNumber [vO 2, vI 1, vI 60] M5 (fun r_6 M6 => (¬ r_6 = 0 → (0 ≤ M 7 1 0 ∧ M 7 1 0 < 24) ∧ (∀ M7 : Mem, M7 = mset M6 7 8 (M 7 1 0).toNat r_2 → (0 ≤ M 7 1 0 ∧ M 7 1 0 < 24) ∧ (∀ M8 : Mem, M8 = mset M7 7 9 (M 7 1 0).toNat r_5 → OkI G n mX9_take [vO 2] M8 (fun r_7 M9 => (0 ≤ M 7 1 0 ∧ M 7 1 0 < 24) ∧ (∀ M10 : Mem, M10 = mset M9 7 10 (M 7 1 0).toNat r_7 → (x1 = 0 → CW G K mX2_readWay (n + 1) 169 [some (vO 14), none, some (vI (M 7 1 0)), none, none] [vI 0, vI (M 7 1 0), vA 7 11] M10 (qI Q)) ∧ (¬ (x1 = 0) → CW G K mX2_readWay (n + 1) 169 [some (vO 14), none, some (vI (M 7 1 0)), none, none] [vI 1, vI (M 7 1 0), vA 7 11] M10 (qI Q))))))) ∧ (r_6 = 0 → Q 0 M6)))) ∧ (r_4 = 0 → OkI G n mX9_refuse [vO 2, vI 1] M4 (fun r_8 M11 => (r_8 = 0 ∨ r_8 = 1) ∧ Q r_8 M11)))) ∧ (r_3 = 0 → Q 0 M3)))) ∧ (¬ (M 7 1 0 < 24) → Q 0 M1)))) : CW G K mX2_readWay (n + 1) 0 [some (vO 14), some (vI x1), none, none, none] [] M (qI Q) := by
  refine r_aload_n dX2_readWay_0 rfl ?_
  refine r_getO (o' := 7) dX2_readWay_1 fX2_15 rfl tX2_1 rfl ?_
  refine r_getI dX2_readWay_4 fX2_66 rfl tX1_1 ?_
  refine r_istore_n dX2_readWay_7 (by decide) rfl ?_
  refine r_aload_n dX2_readWay_8 rfl ?_
  refine r_getO (o' := 2) dX2_readWay_9 fX2_9 rfl tX2_0 rfl ?_
  refine r_iconst dX2_readWay_12 (by decide) ?_
  refine r_aload_n dX2_readWay_13 rfl ?_
  refine r_getO (o' := 7) dX2_readWay_14 fX2_15 rfl tX2_1 rfl ?_
  refine r_getI dX2_readWay_17 fX2_40 rfl tX1_0 ?_
  refine r_iconst dX2_readWay_20 (by decide) ?_
  refine r_isub dX2_readWay_21 ?_
  refine r_callVI (md' := mX9_isNumber) (as := [vI 0, vI (wr (M 7 0 0 - 1))]) dX2_readWay_22 lX2_98 iX9_isNumber rfl rfl rfl (Nat.le_of_ble_eq_true rfl) T (fun r_1 M1 T => ?_)
  refine r_if_eq (tgt := 34) dX2_readWay_25 (by decide) (fun h_6 => ?_) (fun h_6 => ?_)
  · have T := T.1 h_6
    refine r_iconst dX2_readWay_34 (by decide) ?_
    exact r_zreturn dX2_readWay_35 rfl (by decide) ⟨_, rfl, T⟩
  · have T := T.2 h_6
    refine r_iload_n dX2_readWay_28 rfl ?_
    refine r_bipush dX2_readWay_29 (by decide) (by decide) ?_
    refine r_icmp_lt (tgt := 36) dX2_readWay_31 (by decide) (fun h_5 => ?_) (fun h_5 => ?_)
    · have T := T.1 h_5
      refine r_aload_n dX2_readWay_36 rfl ?_
      refine r_getO (o' := 2) dX2_readWay_37 fX2_9 rfl tX2_0 rfl ?_
      refine r_callVI (md' := mX9_take) (as := []) dX2_readWay_40 lX2_106 iX9_take rfl rfl rfl (Nat.le_of_ble_eq_true rfl) T (fun r_2 M2 T => ?_)
      refine r_istore_n dX2_readWay_43 (by decide) rfl ?_
      refine r_aload_n dX2_readWay_44 rfl ?_
      refine r_getO (o' := 2) dX2_readWay_45 fX2_9 rfl tX2_0 rfl ?_
      refine r_iconst dX2_readWay_48 (by decide) ?_
      refine r_aload_n dX2_readWay_49 rfl ?_
      refine r_getO (o' := 7) dX2_readWay_50 fX2_15 rfl tX2_1 rfl ?_
      refine r_getI dX2_readWay_53 fX2_40 rfl tX1_0 ?_
      refine r_iconst dX2_readWay_56 (by decide) ?_
      refine r_isub dX2_readWay_57 ?_
      refine r_callVI (md' := mX9_isNumber) (as := [vI 0, vI (wr (M2 7 0 0 - 1))]) dX2_readWay_58 lX2_98 iX9_isNumber rfl rfl rfl (Nat.le_of_ble_eq_true rfl) T (fun r_3 M3 T => ?_)
      refine r_if_ne (tgt := 66) dX2_readWay_61 (by decide) (fun h_4 => ?_) (fun h_4 => ?_)
      · have T := T.1 h_4
        refine r_aload_n dX2_readWay_66 rfl ?_
        refine r_iload_n dX2_readWay_67 rfl ?_
        refine r_aload_n dX2_readWay_68 rfl ?_
        refine r_getO (o' := 2) dX2_readWay_69 fX2_9 rfl tX2_0 rfl ?_
        refine r_getI dX2_readWay_72 fX2_113 rfl tX9_6 ?_
        refine r_iload_n dX2_readWay_75 rfl ?_
        refine r_callVI (md' := mX2_joins) (as := [vI r_2, vI (M3 2 6 0), vI x1]) dX2_readWay_76 lX2_116 iX2_joins rfl rfl rfl (Nat.le_of_ble_eq_true rfl) T (fun r_4 M4 T => ?_)
        refine r_if_ne (tgt := 91) dX2_readWay_79 (by decide) (fun h_3 => ?_) (fun h_3 => ?_)
        · have T := T.1 h_3
          refine r_aload_n dX2_readWay_91 rfl ?_
          refine r_getO (o' := 2) dX2_readWay_92 fX2_9 rfl tX2_0 rfl ?_
          refine r_callVI (md' := mX9_take) (as := []) dX2_readWay_95 lX2_106 iX9_take rfl rfl rfl (Nat.le_of_ble_eq_true rfl) T (fun r_5 M5 T => ?_)
          refine r_istore dX2_readWay_98 (by decide) rfl ?_
          refine r_aload_n dX2_readWay_100 rfl ?_
          refine r_getO (o' := 2) dX2_readWay_101 fX2_9 rfl tX2_0 rfl ?_
          refine r_iconst dX2_readWay_104 (by decide) ?_
          refine r_bipush dX2_readWay_105 (by decide) (by decide) ?_
          refine r_callVI (md' := mX9_isNumber) (as := [vI 1, vI 60]) dX2_readWay_107 lX2_98 iX9_isNumber rfl rfl rfl (Nat.le_of_ble_eq_true rfl) T (fun r_6 M6 T => ?_)
          refine r_if_ne (tgt := 115) dX2_readWay_110 (by decide) (fun h_2 => ?_) (fun h_2 => ?_)
          · have T := T.1 h_2
            refine r_aload_n dX2_readWay_115 rfl ?_
            refine r_getO (o' := 7) dX2_readWay_116 fX2_15 rfl tX2_1 rfl ?_
            refine r_getA dX2_readWay_119 fX2_120 rfl uX1_8 ?_
            refine r_iload_n dX2_readWay_122 rfl ?_
            refine r_iload_n dX2_readWay_123 rfl ?_
            refine n_iast dX2_readWay_124 rfl tX1_8 aX1_8 T.1 (fun M7 hM7 => ?_)
            have T := T.2 M7 hM7
            refine r_aload_n dX2_readWay_125 rfl ?_
            refine r_getO (o' := 7) dX2_readWay_126 fX2_15 rfl tX2_1 rfl ?_
            refine r_getA dX2_readWay_129 fX2_123 rfl uX1_9 ?_
            refine r_iload_n dX2_readWay_132 rfl ?_
            refine r_iload dX2_readWay_133 rfl ?_
            refine n_iast dX2_readWay_135 rfl tX1_9 aX1_9 T.1 (fun M8 hM8 => ?_)
            have T := T.2 M8 hM8
            refine r_aload_n dX2_readWay_136 rfl ?_
            refine r_getO (o' := 7) dX2_readWay_137 fX2_15 rfl tX2_1 rfl ?_
            refine r_getA dX2_readWay_140 fX2_126 rfl uX1_10 ?_
            refine r_iload_n dX2_readWay_143 rfl ?_
            refine r_aload_n dX2_readWay_144 rfl ?_
            refine r_getO (o' := 2) dX2_readWay_145 fX2_9 rfl tX2_0 rfl ?_
            refine r_callVI (md' := mX9_take) (as := []) dX2_readWay_148 lX2_106 iX9_take rfl rfl rfl (Nat.le_of_ble_eq_true rfl) T (fun r_7 M9 T => ?_)
            refine n_iast dX2_readWay_151 rfl tX1_10 aX1_10 T.1 (fun M10 hM10 => ?_)
            have T := T.2 M10 hM10
            refine r_aload_n dX2_readWay_152 rfl ?_
            refine r_getO (o' := 7) dX2_readWay_153 fX2_15 rfl tX2_1 rfl ?_
            refine r_getA dX2_readWay_156 fX2_129 rfl uX1_11 ?_
            refine r_iload_n dX2_readWay_159 rfl ?_
            refine r_iload_n dX2_readWay_160 rfl ?_
            refine r_if_eq (tgt := 168) dX2_readWay_161 (by decide) (fun h_1 => ?_) (fun h_1 => ?_)
            · have T := T.1 h_1
              refine r_iconst dX2_readWay_168 (by decide) ?_
              exact CW_msk [true, false, true, false, false] rfl T
            · have T := T.2 h_1
              refine r_iconst dX2_readWay_164 (by decide) ?_
              refine r_goto (tgt := 169) dX2_readWay_165 (by decide) ?_
              exact CW_msk [true, false, true, false, false] rfl T
          · have T := T.2 h_2
            refine r_iconst dX2_readWay_113 (by decide) ?_
            exact r_zreturn dX2_readWay_114 rfl (by decide) ⟨_, rfl, T⟩
        · have T := T.2 h_3
          refine r_aload_n dX2_readWay_82 rfl ?_
          refine r_getO (o' := 2) dX2_readWay_83 fX2_9 rfl tX2_0 rfl ?_
          refine r_iconst dX2_readWay_86 (by decide) ?_
          refine r_callVI (md' := mX9_refuse) (as := [vI 1]) dX2_readWay_87 lX2_43 iX9_refuse rfl rfl rfl (Nat.le_of_ble_eq_true rfl) T (fun r_8 M11 T => ?_)
          exact r_zreturn dX2_readWay_90 rfl T.1 ⟨_, rfl, T.2⟩
      · have T := T.2 h_4
        refine r_iconst dX2_readWay_64 (by decide) ?_
        exact r_zreturn dX2_readWay_65 rfl (by decide) ⟨_, rfl, T⟩
    · have T := T.2 h_5
      refine r_iconst dX2_readWay_34 (by decide) ?_
      exact r_zreturn dX2_readWay_35 rfl (by decide) ⟨_, rfl, T⟩
set_option maxRecDepth 20000 in
set_option maxHeartbeats 1000000 in
theorem bX2_readWay_169 {G : Gx} {K : Kx} {n : Nat} {M : Mem} {Q : Int → Mem → Prop}  {x2 : Int} {z0 : Int} {z1 : Int}  (T : (0 ≤ z1 ∧ z1 < 24) ∧ (∀ M1 : Mem, M1 = mset M 7 11 z1.toNat z0 → (0 ≤ x2 ∧ x2 < 24) ∧ (∀ M2 : Mem, M2 = mset M1 7 12 x2.toNat (-1) → (0 ≤ x2 ∧ x2 < 24) ∧ (∀ M3 : Mem, M3 = mset M2 7 13 x2.toNat (-1) → ∀ M4 : Mem, M4 = mset M3 7 1 0 (wr (M3 7 1 0 + 1)) → Q 1 M4)))) : CW G K mX2_readWay (n + 1) 169 [some (vO 14), none, some (vI x2), none, none] [vI z0, vI z1, vA 7 11] M (qI Q) := by
  refine n_iast dX2_readWay_169 rfl tX1_11 aX1_11 T.1 (fun M1 hM1 => ?_)
  have T := T.2 M1 hM1
  refine r_aload_n dX2_readWay_170 rfl ?_
  refine r_getO (o' := 7) dX2_readWay_171 fX2_15 rfl tX2_1 rfl ?_
  refine r_getA dX2_readWay_174 fX2_131 rfl uX1_12 ?_
  refine r_iload_n dX2_readWay_177 rfl ?_
  refine r_iconst dX2_readWay_178 (by decide) ?_
  refine n_iast dX2_readWay_179 rfl tX1_12 aX1_12 T.1 (fun M2 hM2 => ?_)
  have T := T.2 M2 hM2
  refine r_aload_n dX2_readWay_180 rfl ?_
  refine r_getO (o' := 7) dX2_readWay_181 fX2_15 rfl tX2_1 rfl ?_
  refine r_getA dX2_readWay_184 fX2_133 rfl uX1_13 ?_
  refine r_iload_n dX2_readWay_187 rfl ?_
  refine r_iconst dX2_readWay_188 (by decide) ?_
  refine n_iast dX2_readWay_189 rfl tX1_13 aX1_13 T.1 (fun M3 hM3 => ?_)
  have T := T.2 M3 hM3
  refine r_aload_n dX2_readWay_190 rfl ?_
  refine r_getO (o' := 7) dX2_readWay_191 fX2_15 rfl tX2_1 rfl ?_
  refine r_dup dX2_readWay_194 rfl ?_
  refine r_getI dX2_readWay_195 fX2_66 rfl tX1_1 ?_
  refine r_iconst dX2_readWay_198 (by decide) ?_
  refine r_iadd dX2_readWay_199 ?_
  refine n_put dX2_readWay_200 pX2_66 rfl tX1_1 (fun M4 hM4 => ?_)
  have T := T M4 hM4
  refine r_iconst dX2_readWay_203 (by decide) ?_
  exact r_zreturn dX2_readWay_204 rfl (by decide) ⟨_, rfl, T⟩
theorem eX2_readWay {G : Gx} {n : Nat} {M : Mem} {Q : Int → Mem → Prop}  {x1 : Int} (h : ∀ K : Kx, CW G K mX2_readWay n 0 [some (vO 14), some (vI x1), none, none, none] [] M (qI Q)) : OkI G n mX2_readWay [vO 14, vI x1] M Q := Ok_of (by decide) (Nat.le_of_ble_eq_true rfl) rfl h
-- DownOnly$HouseReader joins (IIZ)Z
set_option maxRecDepth 20000 in
set_option maxHeartbeats 1000000 in
theorem bX2_joins_0 {G : Gx} {K : Kx} {n : Nat} {M : Mem} {Q : Int → Mem → Prop}  {x1 : Int} {x2 : Int} {x3 : Int}  (T : OkI G n mX1_isRoom [vO 7, vI x1] M (fun r_1 M1 => (r_1 = 0 → Q 0 M1) ∧ (¬ (r_1 = 0) → OkI G n mX1_isRoom [vO 7, vI x2] M1 (fun r_2 M2 => (¬ r_2 = 0 → (x3 = 0 → (0 ≤ x2 ∧ x2 < 16) ∧ ((0 ≤ x1 ∧ x1 < 16) ∧ ((M2 7 7 x1.toNat ≤ M2 7 7 x2.toNat → Q 0 M2) ∧ (¬ (M2 7 7 x1.toNat ≤ M2 7 7 x2.toNat) → Q 1 M2)))) ∧ (¬ (x3 = 0) → (x1 = x2 → Q 0 M2) ∧ (¬ (x1 = x2) → (0 ≤ x1 ∧ x1 < 16) ∧ ((0 ≤ x2 ∧ x2 < 16) ∧ ((¬ M2 7 7 x1.toNat = M2 7 7 x2.toNat → Q 0 M2) ∧ (M2 7 7 x1.toNat = M2 7 7 x2.toNat → Q 1 M2)))))) ∧ (r_2 = 0 → Q 0 M2))))) : CW G K mX2_joins (n + 1) 0 [some (vO 14), some (vI x1), some (vI x2), some (vI x3)] [] M (qI Q) := by
  refine r_aload_n dX2_joins_0 rfl ?_
  refine r_getO (o' := 7) dX2_joins_1 fX2_15 rfl tX2_1 rfl ?_
  refine r_iload_n dX2_joins_4 rfl ?_
  refine r_callVI (md' := mX1_isRoom) (as := [vI x1]) dX2_joins_5 lX2_136 iX1_isRoom rfl rfl rfl (Nat.le_of_ble_eq_true rfl) T (fun r_1 M1 T => ?_)
  refine r_if_eq (tgt := 22) dX2_joins_8 (by decide) (fun h_6 => ?_) (fun h_6 => ?_)
  · have T := T.1 h_6
    refine r_iconst dX2_joins_22 (by decide) ?_
    exact r_zreturn dX2_joins_23 rfl (by decide) ⟨_, rfl, T⟩
  · have T := T.2 h_6
    refine r_aload_n dX2_joins_11 rfl ?_
    refine r_getO (o' := 7) dX2_joins_12 fX2_15 rfl tX2_1 rfl ?_
    refine r_iload_n dX2_joins_15 rfl ?_
    refine r_callVI (md' := mX1_isRoom) (as := [vI x2]) dX2_joins_16 lX2_136 iX1_isRoom rfl rfl rfl (Nat.le_of_ble_eq_true rfl) T (fun r_2 M2 T => ?_)
    refine r_if_ne (tgt := 24) dX2_joins_19 (by decide) (fun h_5 => ?_) (fun h_5 => ?_)
    · have T := T.1 h_5
      refine r_iload_n dX2_joins_24 rfl ?_
      refine r_if_eq (tgt := 60) dX2_joins_25 (by decide) (fun h_4 => ?_) (fun h_4 => ?_)
      · have T := T.1 h_4
        refine r_aload_n dX2_joins_60 rfl ?_
        refine r_getO (o' := 7) dX2_joins_61 fX2_15 rfl tX2_1 rfl ?_
        refine r_getA dX2_joins_64 fX2_102 rfl uX1_7 ?_
        refine r_iload_n dX2_joins_67 rfl ?_
        refine s_iald dX2_joins_68 rfl tX1_7 aX1_7 T.1 ?_
        have T := T.2
        refine r_aload_n dX2_joins_69 rfl ?_
        refine r_getO (o' := 7) dX2_joins_70 fX2_15 rfl tX2_1 rfl ?_
        refine r_getA dX2_joins_73 fX2_102 rfl uX1_7 ?_
        refine r_iload_n dX2_joins_76 rfl ?_
        refine s_iald dX2_joins_77 rfl tX1_7 aX1_7 T.1 ?_
        have T := T.2
        refine r_icmp_ge (tgt := 85) dX2_joins_78 (by decide) (fun h_1 => ?_) (fun h_1 => ?_)
        · have T := T.1 h_1
          refine r_iconst dX2_joins_85 (by decide) ?_
          exact r_zreturn dX2_joins_86 rfl (by decide) ⟨_, rfl, T⟩
        · have T := T.2 h_1
          refine r_iconst dX2_joins_81 (by decide) ?_
          refine r_goto (tgt := 86) dX2_joins_82 (by decide) ?_
          exact r_zreturn dX2_joins_86 rfl (by decide) ⟨_, rfl, T⟩
      · have T := T.2 h_4
        refine r_iload_n dX2_joins_28 rfl ?_
        refine r_iload_n dX2_joins_29 rfl ?_
        refine r_icmp_eq (tgt := 58) dX2_joins_30 (by decide) (fun h_3 => ?_) (fun h_3 => ?_)
        · have T := T.1 h_3
          refine r_iconst dX2_joins_58 (by decide) ?_
          exact r_zreturn dX2_joins_59 rfl (by decide) ⟨_, rfl, T⟩
        · have T := T.2 h_3
          refine r_aload_n dX2_joins_33 rfl ?_
          refine r_getO (o' := 7) dX2_joins_34 fX2_15 rfl tX2_1 rfl ?_
          refine r_getA dX2_joins_37 fX2_102 rfl uX1_7 ?_
          refine r_iload_n dX2_joins_40 rfl ?_
          refine s_iald dX2_joins_41 rfl tX1_7 aX1_7 T.1 ?_
          have T := T.2
          refine r_aload_n dX2_joins_42 rfl ?_
          refine r_getO (o' := 7) dX2_joins_43 fX2_15 rfl tX2_1 rfl ?_
          refine r_getA dX2_joins_46 fX2_102 rfl uX1_7 ?_
          refine r_iload_n dX2_joins_49 rfl ?_
          refine s_iald dX2_joins_50 rfl tX1_7 aX1_7 T.1 ?_
          have T := T.2
          refine r_icmp_ne (tgt := 58) dX2_joins_51 (by decide) (fun h_2 => ?_) (fun h_2 => ?_)
          · have T := T.1 h_2
            refine r_iconst dX2_joins_58 (by decide) ?_
            exact r_zreturn dX2_joins_59 rfl (by decide) ⟨_, rfl, T⟩
          · have T := T.2 h_2
            refine r_iconst dX2_joins_54 (by decide) ?_
            refine r_goto (tgt := 59) dX2_joins_55 (by decide) ?_
            exact r_zreturn dX2_joins_59 rfl (by decide) ⟨_, rfl, T⟩
    · have T := T.2 h_5
      refine r_iconst dX2_joins_22 (by decide) ?_
      exact r_zreturn dX2_joins_23 rfl (by decide) ⟨_, rfl, T⟩
theorem eX2_joins {G : Gx} {n : Nat} {M : Mem} {Q : Int → Mem → Prop}  {x1 : Int} {x2 : Int} {x3 : Int} (h : ∀ K : Kx, CW G K mX2_joins n 0 [some (vO 14), some (vI x1), some (vI x2), some (vI x3)] [] M (qI Q)) : OkI G n mX2_joins [vO 14, vI x1, vI x2, vI x3] M Q := Ok_of (by decide) (Nat.le_of_ble_eq_true rfl) rfl h
-- DownOnly$HouseReader readDoor ()Z
set_option maxRecDepth 20000 in
set_option maxHeartbeats 1000000 in
theorem bX2_readDoor_0 {G : Gx} {K : Kx} {n : Nat} {M : Mem} {Q : Int → Mem → Prop}    (T : OkI G n mX9_isNumber [vO 2, vI 0, vI (wr (M 7 1 0 - 1))] M (fun r_1 M1 => (¬ r_1 = 0 → OkI G n mX9_take [vO 2] M1 (fun r_2 M2 => OkI G n mX9_isNumber [vO 2, vI 0, vI 1439] M2 (fun r_3 M3 => (¬ r_3 = 0 → OkI G n mX9_take [vO 2] M3 (fun r_4 M4 => OkI G n mX9_isNumber [vO 2, vI r_4, vI 1439] M4 (fun r_5 M5 => (r_5 = 0 → Q 0 M5) ∧ (¬ (r_5 = 0) → OkI G n mX1_isWay [vO 7, vI r_2] M5 (fun r_6 M6 => (¬ r_6 = 0 → (0 ≤ r_2 ∧ r_2 < 24) ∧ (∀ M7 : Mem, M7 = mset M6 7 12 r_2.toNat r_4 → OkI G n mX9_take [vO 2] M7 (fun r_7 M8 => (0 ≤ r_2 ∧ r_2 < 24) ∧ (∀ M9 : Mem, M9 = mset M8 7 13 r_2.toNat r_7 → Q 1 M9)))) ∧ (r_6 = 0 → Q 0 M6)))))) ∧ (r_3 = 0 → Q 0 M3)))) ∧ (r_1 = 0 → Q 0 M1))) : CW G K mX2_readDoor (n + 1) 0 [some (vO 14), none, none] [] M (qI Q) := by
  refine r_aload_n dX2_readDoor_0 rfl ?_
  refine r_getO (o' := 2) dX2_readDoor_1 fX2_9 rfl tX2_0 rfl ?_
  refine r_iconst dX2_readDoor_4 (by decide) ?_
  refine r_aload_n dX2_readDoor_5 rfl ?_
  refine r_getO (o' := 7) dX2_readDoor_6 fX2_15 rfl tX2_1 rfl ?_
  refine r_getI dX2_readDoor_9 fX2_66 rfl tX1_1 ?_
  refine r_iconst dX2_readDoor_12 (by decide) ?_
  refine r_isub dX2_readDoor_13 ?_
  refine r_callVI (md' := mX9_isNumber) (as := [vI 0, vI (wr (M 7 1 0 - 1))]) dX2_readDoor_14 lX2_98 iX9_isNumber rfl rfl rfl (Nat.le_of_ble_eq_true rfl) T (fun r_1 M1 T => ?_)
  refine r_if_ne (tgt := 22) dX2_readDoor_17 (by decide) (fun h_4 => ?_) (fun h_4 => ?_)
  · have T := T.1 h_4
    refine r_aload_n dX2_readDoor_22 rfl ?_
    refine r_getO (o' := 2) dX2_readDoor_23 fX2_9 rfl tX2_0 rfl ?_
    refine r_callVI (md' := mX9_take) (as := []) dX2_readDoor_26 lX2_106 iX9_take rfl rfl rfl (Nat.le_of_ble_eq_true rfl) T (fun r_2 M2 T => ?_)
    refine r_istore_n dX2_readDoor_29 (by decide) rfl ?_
    refine r_aload_n dX2_readDoor_30 rfl ?_
    refine r_getO (o' := 2) dX2_readDoor_31 fX2_9 rfl tX2_0 rfl ?_
    refine r_iconst dX2_readDoor_34 (by decide) ?_
    refine r_sipush dX2_readDoor_35 (by decide) (by decide) ?_
    refine r_callVI (md' := mX9_isNumber) (as := [vI 0, vI 1439]) dX2_readDoor_38 lX2_98 iX9_isNumber rfl rfl rfl (Nat.le_of_ble_eq_true rfl) T (fun r_3 M3 T => ?_)
    refine r_if_ne (tgt := 46) dX2_readDoor_41 (by decide) (fun h_3 => ?_) (fun h_3 => ?_)
    · have T := T.1 h_3
      refine r_aload_n dX2_readDoor_46 rfl ?_
      refine r_getO (o' := 2) dX2_readDoor_47 fX2_9 rfl tX2_0 rfl ?_
      refine r_callVI (md' := mX9_take) (as := []) dX2_readDoor_50 lX2_106 iX9_take rfl rfl rfl (Nat.le_of_ble_eq_true rfl) T (fun r_4 M4 T => ?_)
      refine r_istore_n dX2_readDoor_53 (by decide) rfl ?_
      refine r_aload_n dX2_readDoor_54 rfl ?_
      refine r_getO (o' := 2) dX2_readDoor_55 fX2_9 rfl tX2_0 rfl ?_
      refine r_iload_n dX2_readDoor_58 rfl ?_
      refine r_sipush dX2_readDoor_59 (by decide) (by decide) ?_
      refine r_callVI (md' := mX9_isNumber) (as := [vI r_4, vI 1439]) dX2_readDoor_62 lX2_98 iX9_isNumber rfl rfl rfl (Nat.le_of_ble_eq_true rfl) T (fun r_5 M5 T => ?_)
      refine r_if_eq (tgt := 79) dX2_readDoor_65 (by decide) (fun h_2 => ?_) (fun h_2 => ?_)
      · have T := T.1 h_2
        refine r_iconst dX2_readDoor_79 (by decide) ?_
        exact r_zreturn dX2_readDoor_80 rfl (by decide) ⟨_, rfl, T⟩
      · have T := T.2 h_2
        refine r_aload_n dX2_readDoor_68 rfl ?_
        refine r_getO (o' := 7) dX2_readDoor_69 fX2_15 rfl tX2_1 rfl ?_
        refine r_iload_n dX2_readDoor_72 rfl ?_
        refine r_callVI (md' := mX1_isWay) (as := [vI r_2]) dX2_readDoor_73 lX2_139 iX1_isWay rfl rfl rfl (Nat.le_of_ble_eq_true rfl) T (fun r_6 M6 T => ?_)
        refine r_if_ne (tgt := 81) dX2_readDoor_76 (by decide) (fun h_1 => ?_) (fun h_1 => ?_)
        · have T := T.1 h_1
          refine r_aload_n dX2_readDoor_81 rfl ?_
          refine r_getO (o' := 7) dX2_readDoor_82 fX2_15 rfl tX2_1 rfl ?_
          refine r_getA dX2_readDoor_85 fX2_131 rfl uX1_12 ?_
          refine r_iload_n dX2_readDoor_88 rfl ?_
          refine r_iload_n dX2_readDoor_89 rfl ?_
          refine n_iast dX2_readDoor_90 rfl tX1_12 aX1_12 T.1 (fun M7 hM7 => ?_)
          have T := T.2 M7 hM7
          refine r_aload_n dX2_readDoor_91 rfl ?_
          refine r_getO (o' := 7) dX2_readDoor_92 fX2_15 rfl tX2_1 rfl ?_
          refine r_getA dX2_readDoor_95 fX2_133 rfl uX1_13 ?_
          refine r_iload_n dX2_readDoor_98 rfl ?_
          refine r_aload_n dX2_readDoor_99 rfl ?_
          refine r_getO (o' := 2) dX2_readDoor_100 fX2_9 rfl tX2_0 rfl ?_
          refine r_callVI (md' := mX9_take) (as := []) dX2_readDoor_103 lX2_106 iX9_take rfl rfl rfl (Nat.le_of_ble_eq_true rfl) T (fun r_7 M8 T => ?_)
          refine n_iast dX2_readDoor_106 rfl tX1_13 aX1_13 T.1 (fun M9 hM9 => ?_)
          have T := T.2 M9 hM9
          refine r_iconst dX2_readDoor_107 (by decide) ?_
          exact r_zreturn dX2_readDoor_108 rfl (by decide) ⟨_, rfl, T⟩
        · have T := T.2 h_1
          refine r_iconst dX2_readDoor_79 (by decide) ?_
          exact r_zreturn dX2_readDoor_80 rfl (by decide) ⟨_, rfl, T⟩
    · have T := T.2 h_3
      refine r_iconst dX2_readDoor_44 (by decide) ?_
      exact r_zreturn dX2_readDoor_45 rfl (by decide) ⟨_, rfl, T⟩
  · have T := T.2 h_4
    refine r_iconst dX2_readDoor_20 (by decide) ?_
    exact r_zreturn dX2_readDoor_21 rfl (by decide) ⟨_, rfl, T⟩
theorem eX2_readDoor {G : Gx} {n : Nat} {M : Mem} {Q : Int → Mem → Prop}   (h : ∀ K : Kx, CW G K mX2_readDoor n 0 [some (vO 14), none, none] [] M (qI Q)) : OkI G n mX2_readDoor [vO 14] M Q := Ok_of (by decide) (Nat.le_of_ble_eq_true rfl) rfl h
-- DownOnly$HouseReader readHoist ()Z
set_option maxRecDepth 20000 in
set_option maxHeartbeats 1000000 in
theorem bX2_readHoist_0 {G : Gx} {K : Kx} {n : Nat} {M : Mem} {Q : Int → Mem → Prop}    (T : OkI G n mX9_isNumber [vO 2, vI 1, vI 60] M (fun r_1 M1 => (¬ r_1 = 0 → OkI G n mX9_take [vO 2] M1 (fun r_2 M2 => ∀ M3 : Mem, M3 = mset M2 7 4 0 r_2 → OkI G n mX9_isNumber [vO 2, vI 1, vI 9] M3 (fun r_3 M4 => (¬ r_3 = 0 → OkI G n mX9_take [vO 2] M4 (fun r_4 M5 => ∀ M6 : Mem, M6 = mset M5 7 5 0 r_4 → OkI G n mX9_isNumber [vO 2, vI 1, vI 120] M6 (fun r_5 M7 => (¬ r_5 = 0 → OkI G n mX9_take [vO 2] M7 (fun r_6 M8 => ∀ M9 : Mem, M9 = mset M8 7 6 0 r_6 → Q 1 M9)) ∧ (r_5 = 0 → Q 0 M7)))) ∧ (r_3 = 0 → Q 0 M4)))) ∧ (r_1 = 0 → Q 0 M1))) : CW G K mX2_readHoist (n + 1) 0 [some (vO 14)] [] M (qI Q) := by
  refine r_aload_n dX2_readHoist_0 rfl ?_
  refine r_getO (o' := 2) dX2_readHoist_1 fX2_9 rfl tX2_0 rfl ?_
  refine r_iconst dX2_readHoist_4 (by decide) ?_
  refine r_bipush dX2_readHoist_5 (by decide) (by decide) ?_
  refine r_callVI (md' := mX9_isNumber) (as := [vI 1, vI 60]) dX2_readHoist_7 lX2_98 iX9_isNumber rfl rfl rfl (Nat.le_of_ble_eq_true rfl) T (fun r_1 M1 T => ?_)
  refine r_if_ne (tgt := 15) dX2_readHoist_10 (by decide) (fun h_3 => ?_) (fun h_3 => ?_)
  · have T := T.1 h_3
    refine r_aload_n dX2_readHoist_15 rfl ?_
    refine r_getO (o' := 7) dX2_readHoist_16 fX2_15 rfl tX2_1 rfl ?_
    refine r_aload_n dX2_readHoist_19 rfl ?_
    refine r_getO (o' := 2) dX2_readHoist_20 fX2_9 rfl tX2_0 rfl ?_
    refine r_callVI (md' := mX9_take) (as := []) dX2_readHoist_23 lX2_106 iX9_take rfl rfl rfl (Nat.le_of_ble_eq_true rfl) T (fun r_2 M2 T => ?_)
    refine n_put dX2_readHoist_26 pX2_142 rfl tX1_4 (fun M3 hM3 => ?_)
    have T := T M3 hM3
    refine r_aload_n dX2_readHoist_29 rfl ?_
    refine r_getO (o' := 2) dX2_readHoist_30 fX2_9 rfl tX2_0 rfl ?_
    refine r_iconst dX2_readHoist_33 (by decide) ?_
    refine r_bipush dX2_readHoist_34 (by decide) (by decide) ?_
    refine r_callVI (md' := mX9_isNumber) (as := [vI 1, vI 9]) dX2_readHoist_36 lX2_98 iX9_isNumber rfl rfl rfl (Nat.le_of_ble_eq_true rfl) T (fun r_3 M4 T => ?_)
    refine r_if_ne (tgt := 44) dX2_readHoist_39 (by decide) (fun h_2 => ?_) (fun h_2 => ?_)
    · have T := T.1 h_2
      refine r_aload_n dX2_readHoist_44 rfl ?_
      refine r_getO (o' := 7) dX2_readHoist_45 fX2_15 rfl tX2_1 rfl ?_
      refine r_aload_n dX2_readHoist_48 rfl ?_
      refine r_getO (o' := 2) dX2_readHoist_49 fX2_9 rfl tX2_0 rfl ?_
      refine r_callVI (md' := mX9_take) (as := []) dX2_readHoist_52 lX2_106 iX9_take rfl rfl rfl (Nat.le_of_ble_eq_true rfl) T (fun r_4 M5 T => ?_)
      refine n_put dX2_readHoist_55 pX2_145 rfl tX1_5 (fun M6 hM6 => ?_)
      have T := T M6 hM6
      refine r_aload_n dX2_readHoist_58 rfl ?_
      refine r_getO (o' := 2) dX2_readHoist_59 fX2_9 rfl tX2_0 rfl ?_
      refine r_iconst dX2_readHoist_62 (by decide) ?_
      refine r_bipush dX2_readHoist_63 (by decide) (by decide) ?_
      refine r_callVI (md' := mX9_isNumber) (as := [vI 1, vI 120]) dX2_readHoist_65 lX2_98 iX9_isNumber rfl rfl rfl (Nat.le_of_ble_eq_true rfl) T (fun r_5 M7 T => ?_)
      refine r_if_ne (tgt := 73) dX2_readHoist_68 (by decide) (fun h_1 => ?_) (fun h_1 => ?_)
      · have T := T.1 h_1
        refine r_aload_n dX2_readHoist_73 rfl ?_
        refine r_getO (o' := 7) dX2_readHoist_74 fX2_15 rfl tX2_1 rfl ?_
        refine r_aload_n dX2_readHoist_77 rfl ?_
        refine r_getO (o' := 2) dX2_readHoist_78 fX2_9 rfl tX2_0 rfl ?_
        refine r_callVI (md' := mX9_take) (as := []) dX2_readHoist_81 lX2_106 iX9_take rfl rfl rfl (Nat.le_of_ble_eq_true rfl) T (fun r_6 M8 T => ?_)
        refine n_put dX2_readHoist_84 pX2_81 rfl tX1_6 (fun M9 hM9 => ?_)
        have T := T M9 hM9
        refine r_iconst dX2_readHoist_87 (by decide) ?_
        exact r_zreturn dX2_readHoist_88 rfl (by decide) ⟨_, rfl, T⟩
      · have T := T.2 h_1
        refine r_iconst dX2_readHoist_71 (by decide) ?_
        exact r_zreturn dX2_readHoist_72 rfl (by decide) ⟨_, rfl, T⟩
    · have T := T.2 h_2
      refine r_iconst dX2_readHoist_42 (by decide) ?_
      exact r_zreturn dX2_readHoist_43 rfl (by decide) ⟨_, rfl, T⟩
  · have T := T.2 h_3
    refine r_iconst dX2_readHoist_13 (by decide) ?_
    exact r_zreturn dX2_readHoist_14 rfl (by decide) ⟨_, rfl, T⟩
theorem eX2_readHoist {G : Gx} {n : Nat} {M : Mem} {Q : Int → Mem → Prop}   (h : ∀ K : Kx, CW G K mX2_readHoist n 0 [some (vO 14)] [] M (qI Q)) : OkI G n mX2_readHoist [vO 14] M Q := Ok_of (by decide) (Nat.le_of_ble_eq_true rfl) rfl h
-- DownOnly$HouseReader readPerson ()Z
set_option maxRecDepth 20000 in
set_option maxHeartbeats 1000000 in
theorem bX2_readPerson_0 {G : Gx} {K : Kx} {n : Nat} {M : Mem} {Q : Int → Mem → Prop}    (T : OkI G n mX9_isNumber [vO 2, vI 0, vI (wr (M 7 0 0 - 1))] M (fun r_1 M1 => (r_1 = 0 → Q 0 M1) ∧ (¬ (r_1 = 0) → (M1 7 2 0 < 8 → OkI G n mX9_take [vO 2] M1 (fun r_2 M2 => (0 ≤ M1 7 2 0 ∧ M1 7 2 0 < 8) ∧ (∀ M3 : Mem, M3 = mset M2 7 14 (M1 7 2 0).toNat r_2 → ∀ M4 : Mem, M4 = mset M3 7 2 0 (wr (M3 7 2 0 + 1)) → Q 1 M4))) ∧ (¬ (M1 7 2 0 < 8) → Q 0 M1)))) : CW G K mX2_readPerson (n + 1) 0 [some (vO 14)] [] M (qI Q) := by
  refine r_aload_n dX2_readPerson_0 rfl ?_
  refine r_getO (o' := 2) dX2_readPerson_1 fX2_9 rfl tX2_0 rfl ?_
  refine r_iconst dX2_readPerson_4 (by decide) ?_
  refine r_aload_n dX2_readPerson_5 rfl ?_
  refine r_getO (o' := 7) dX2_readPerson_6 fX2_15 rfl tX2_1 rfl ?_
  refine r_getI dX2_readPerson_9 fX2_40 rfl tX1_0 ?_
  refine r_iconst dX2_readPerson_12 (by decide) ?_
  refine r_isub dX2_readPerson_13 ?_
  refine r_callVI (md' := mX9_isNumber) (as := [vI 0, vI (wr (M 7 0 0 - 1))]) dX2_readPerson_14 lX2_98 iX9_isNumber rfl rfl rfl (Nat.le_of_ble_eq_true rfl) T (fun r_1 M1 T => ?_)
  refine r_if_eq (tgt := 32) dX2_readPerson_17 (by decide) (fun h_2 => ?_) (fun h_2 => ?_)
  · have T := T.1 h_2
    refine r_iconst dX2_readPerson_32 (by decide) ?_
    exact r_zreturn dX2_readPerson_33 rfl (by decide) ⟨_, rfl, T⟩
  · have T := T.2 h_2
    refine r_aload_n dX2_readPerson_20 rfl ?_
    refine r_getO (o' := 7) dX2_readPerson_21 fX2_15 rfl tX2_1 rfl ?_
    refine r_getI dX2_readPerson_24 fX2_89 rfl tX1_2 ?_
    refine r_bipush dX2_readPerson_27 (by decide) (by decide) ?_
    refine r_icmp_lt (tgt := 34) dX2_readPerson_29 (by decide) (fun h_1 => ?_) (fun h_1 => ?_)
    · have T := T.1 h_1
      refine r_aload_n dX2_readPerson_34 rfl ?_
      refine r_getO (o' := 7) dX2_readPerson_35 fX2_15 rfl tX2_1 rfl ?_
      refine r_getA dX2_readPerson_38 fX2_148 rfl uX1_14 ?_
      refine r_aload_n dX2_readPerson_41 rfl ?_
      refine r_getO (o' := 7) dX2_readPerson_42 fX2_15 rfl tX2_1 rfl ?_
      refine r_getI dX2_readPerson_45 fX2_89 rfl tX1_2 ?_
      refine r_aload_n dX2_readPerson_48 rfl ?_
      refine r_getO (o' := 2) dX2_readPerson_49 fX2_9 rfl tX2_0 rfl ?_
      refine r_callVI (md' := mX9_take) (as := []) dX2_readPerson_52 lX2_106 iX9_take rfl rfl rfl (Nat.le_of_ble_eq_true rfl) T (fun r_2 M2 T => ?_)
      refine n_iast dX2_readPerson_55 rfl tX1_14 aX1_14 T.1 (fun M3 hM3 => ?_)
      have T := T.2 M3 hM3
      refine r_aload_n dX2_readPerson_56 rfl ?_
      refine r_getO (o' := 7) dX2_readPerson_57 fX2_15 rfl tX2_1 rfl ?_
      refine r_dup dX2_readPerson_60 rfl ?_
      refine r_getI dX2_readPerson_61 fX2_89 rfl tX1_2 ?_
      refine r_iconst dX2_readPerson_64 (by decide) ?_
      refine r_iadd dX2_readPerson_65 ?_
      refine n_put dX2_readPerson_66 pX2_89 rfl tX1_2 (fun M4 hM4 => ?_)
      have T := T M4 hM4
      refine r_iconst dX2_readPerson_69 (by decide) ?_
      exact r_zreturn dX2_readPerson_70 rfl (by decide) ⟨_, rfl, T⟩
    · have T := T.2 h_1
      refine r_iconst dX2_readPerson_32 (by decide) ?_
      exact r_zreturn dX2_readPerson_33 rfl (by decide) ⟨_, rfl, T⟩
theorem eX2_readPerson {G : Gx} {n : Nat} {M : Mem} {Q : Int → Mem → Prop}   (h : ∀ K : Kx, CW G K mX2_readPerson n 0 [some (vO 14)] [] M (qI Q)) : OkI G n mX2_readPerson [vO 14] M Q := Ok_of (by decide) (Nat.le_of_ble_eq_true rfl) rfl h
-- DownOnly$RuleReader readAll ()Z
set_option maxRecDepth 20000 in
set_option maxHeartbeats 1000000 in
theorem bX7_readAll_0 {G : Gx} {K : Kx} {n : Nat} {M : Mem} {Q : Int → Mem → Prop} {o : Nat}  (h0 : oc o = 7) (h1 : oc (o - 6) = 6) (T : OkV G n mX6_clear [vO (o - 6)] M (fun M1 => OkV G n mX9_begin [vO 2] M1 (fun M2 => CW G K mX7_readAll (n + 1) 16 [some (vO o), some (vI 0)] [] M2 (qI Q)))) : CW G K mX7_readAll (n + 1) 0 [some (vO o), none] [] M (qI Q) := by
  refine r_aload_n dX7_readAll_0 rfl ?_
  refine r_getO (o' := o - 6) dX7_readAll_1 fX7_15 h0 tX7_1 (by simp [lk, h0]) ?_
  refine r_callVV (md' := mX6_clear) (as := []) dX7_readAll_4 lX7_19 iX6_clear h1 rfl rfl (Nat.le_of_ble_eq_true rfl) T (fun M1 T => ?_)
  refine r_aload_n dX7_readAll_7 rfl ?_
  refine r_getO (o' := 2) dX7_readAll_8 fX7_9 h0 tX7_0 (by simp [lk, h0]) ?_
  refine r_callVV (md' := mX9_begin) (as := []) dX7_readAll_11 lX7_24 iX9_begin rfl rfl rfl (Nat.le_of_ble_eq_true rfl) T (fun M2 T => ?_)
  refine r_iconst dX7_readAll_14 (by decide) ?_
  refine r_istore_n dX7_readAll_15 (by decide) rfl ?_
  exact T
set_option maxRecDepth 20000 in
set_option maxHeartbeats 1000000 in
theorem bX7_readAll_16 {G : Gx} {K : Kx} {n : Nat} {M : Mem} {Q : Int → Mem → Prop} {o : Nat} {x1 : Int} (h0 : oc o = 7) (h1 : oc (o - 6) = 6) (T : (12 < x1 → OkI G n mX9_refuse [vO 2, vI 4] M (fun r_1 M1 => (r_1 = 0 ∨ r_1 = 1) ∧ Q r_1 M1)) ∧ (¬ (12 < x1) → OkI G n mX7_readDeed [vO o] M (fun r_2 M2 => (r_2 = 0 → Q 0 M2) ∧ (¬ (r_2 = 0) → (x1 < 12 → (0 ≤ x1 ∧ x1 < 12) ∧ (∀ M3 : Mem, M3 = mset M2 (o - 6) 3 x1.toNat (M2 (o - 6) 6 0) → OkI G n mX9_isWord [vO 2, vO (1000 + 6)] M3 (fun r_3 M4 => (r_3 = 0 → CW G K mX7_readAll (n + 1) 82 [some (vO o), some (vI x1)] [] M4 (qI Q)) ∧ (¬ (r_3 = 0) → OkV G n mX9_advance [vO 2] M4 (fun M5 => OkI G n mX7_readTest [vO o, vI 0] M5 (fun r_4 M6 => (¬ r_4 = 0 → CW G K mX7_readAll (n + 1) 82 [some (vO o), some (vI x1)] [] M6 (qI Q)) ∧ (r_4 = 0 → Q 0 M6))))))) ∧ (¬ (x1 < 12) → Q 0 M2))))) : CW G K mX7_readAll (n + 1) 16 [some (vO o), some (vI x1)] [] M (qI Q) := by
  refine r_iload_n dX7_readAll_16 rfl ?_
  refine r_bipush dX7_readAll_17 (by decide) (by decide) ?_
  refine r_icmp_gt (tgt := 130) dX7_readAll_19 (by decide) (fun h_5 => ?_) (fun h_5 => ?_)
  · have T := T.1 h_5
    refine r_aload_n dX7_readAll_130 rfl ?_
    refine r_getO (o' := 2) dX7_readAll_131 fX7_9 h0 tX7_0 (by simp [lk, h0]) ?_
    refine r_iconst dX7_readAll_134 (by decide) ?_
    refine r_callVI (md' := mX9_refuse) (as := [vI 4]) dX7_readAll_135 lX7_64 iX9_refuse rfl rfl rfl (Nat.le_of_ble_eq_true rfl) T (fun r_1 M1 T => ?_)
    exact r_zreturn dX7_readAll_138 rfl T.1 ⟨_, rfl, T.2⟩
  · have T := T.2 h_5
    refine r_aload_n dX7_readAll_22 rfl ?_
    refine r_callVI (md' := mX7_readDeed) (as := []) dX7_readAll_23 lX7_29 iX7_readDeed h0 rfl rfl (Nat.le_of_ble_eq_true rfl) T (fun r_2 M2 T => ?_)
    refine r_if_eq (tgt := 35) dX7_readAll_26 (by decide) (fun h_4 => ?_) (fun h_4 => ?_)
    · have T := T.1 h_4
      refine r_iconst dX7_readAll_35 (by decide) ?_
      exact r_zreturn dX7_readAll_36 rfl (by decide) ⟨_, rfl, T⟩
    · have T := T.2 h_4
      refine r_iload_n dX7_readAll_29 rfl ?_
      refine r_bipush dX7_readAll_30 (by decide) (by decide) ?_
      refine r_icmp_lt (tgt := 37) dX7_readAll_32 (by decide) (fun h_3 => ?_) (fun h_3 => ?_)
      · have T := T.1 h_3
        refine r_aload_n dX7_readAll_37 rfl ?_
        refine r_getO (o' := o - 6) dX7_readAll_38 fX7_15 h0 tX7_1 (by simp [lk, h0]) ?_
        refine r_getA dX7_readAll_41 fX7_33 h1 uX6_3 ?_
        refine r_iload_n dX7_readAll_44 rfl ?_
        refine r_aload_n dX7_readAll_45 rfl ?_
        refine r_getO (o' := o - 6) dX7_readAll_46 fX7_15 h0 tX7_1 (by simp [lk, h0]) ?_
        refine r_getI dX7_readAll_49 fX7_37 h1 tX6_6 ?_
        refine n_iast dX7_readAll_52 h1 tX6_3 aX6_3 T.1 (fun M3 hM3 => ?_)
        have T := T.2 M3 hM3
        refine r_aload_n dX7_readAll_53 rfl ?_
        refine r_getO (o' := 2) dX7_readAll_54 fX7_9 h0 tX7_0 (by simp [lk, h0]) ?_
        refine r_lds (j := 6) dX7_readAll_57 sX7_41 ?_
        refine r_callVI (md' := mX9_isWord) (as := [vO (1000 + 6)]) dX7_readAll_59 lX7_43 iX9_isWord rfl rfl rfl (Nat.le_of_ble_eq_true rfl) T (fun r_3 M4 T => ?_)
        refine r_if_eq (tgt := 82) dX7_readAll_62 (by decide) (fun h_2 => ?_) (fun h_2 => ?_)
        · have T := T.1 h_2
          exact T
        · have T := T.2 h_2
          refine r_aload_n dX7_readAll_65 rfl ?_
          refine r_getO (o' := 2) dX7_readAll_66 fX7_9 h0 tX7_0 (by simp [lk, h0]) ?_
          refine r_callVV (md' := mX9_advance) (as := []) dX7_readAll_69 lX7_47 iX9_advance rfl rfl rfl (Nat.le_of_ble_eq_true rfl) T (fun M5 T => ?_)
          refine r_aload_n dX7_readAll_72 rfl ?_
          refine r_iconst dX7_readAll_73 (by decide) ?_
          refine r_callVI (md' := mX7_readTest) (as := [vI 0]) dX7_readAll_74 lX7_50 iX7_readTest h0 rfl rfl (Nat.le_of_ble_eq_true rfl) T (fun r_4 M6 T => ?_)
          refine r_if_ne (tgt := 82) dX7_readAll_77 (by decide) (fun h_1 => ?_) (fun h_1 => ?_)
          · have T := T.1 h_1
            exact T
          · have T := T.2 h_1
            refine r_iconst dX7_readAll_80 (by decide) ?_
            exact r_zreturn dX7_readAll_81 rfl (by decide) ⟨_, rfl, T⟩
      · have T := T.2 h_3
        refine r_iconst dX7_readAll_35 (by decide) ?_
        exact r_zreturn dX7_readAll_36 rfl (by decide) ⟨_, rfl, T⟩
set_option maxRecDepth 20000 in
set_option maxHeartbeats 1000000 in
theorem bX7_readAll_82 {G : Gx} {K : Kx} {n : Nat} {M : Mem} {Q : Int → Mem → Prop} {o : Nat} {x1 : Int} (h0 : oc o = 7) (h1 : oc (o - 6) = 6) (T : (0 ≤ x1 ∧ x1 < 12) ∧ (∀ M1 : Mem, M1 = mset M (o - 6) 4 x1.toNat (M (o - 6) 6 0) → (¬ M1 2 2 0 = 0 → OkI G n mX9_passSign [vO 2, vI 59] M1 (fun r_1 M2 => (¬ r_1 = 0 → CW G K mX7_readAll (n + 1) 16 [some (vO o), some (vI (wr (x1 + 1)))] [] M2 (qI Q)) ∧ (r_1 = 0 → Q 0 M2))) ∧ (M1 2 2 0 = 0 → Q 1 M1))) : CW G K mX7_readAll (n + 1) 82 [some (vO o), some (vI x1)] [] M (qI Q) := by
  refine r_aload_n dX7_readAll_82 rfl ?_
  refine r_getO (o' := o - 6) dX7_readAll_83 fX7_15 h0 tX7_1 (by simp [lk, h0]) ?_
  refine r_getA dX7_readAll_86 fX7_54 h1 uX6_4 ?_
  refine r_iload_n dX7_readAll_89 rfl ?_
  refine r_aload_n dX7_readAll_90 rfl ?_
  refine r_getO (o' := o - 6) dX7_readAll_91 fX7_15 h0 tX7_1 (by simp [lk, h0]) ?_
  refine r_getI dX7_readAll_94 fX7_37 h1 tX6_6 ?_
  refine n_iast dX7_readAll_97 h1 tX6_4 aX6_4 T.1 (fun M1 hM1 => ?_)
  have T := T.2 M1 hM1
  refine r_aload_n dX7_readAll_98 rfl ?_
  refine r_getO (o' := 2) dX7_readAll_99 fX7_9 h0 tX7_0 (by simp [lk, h0]) ?_
  refine r_getI dX7_readAll_102 fX7_57 rfl tX9_2 ?_
  refine r_if_ne (tgt := 110) dX7_readAll_105 (by decide) (fun h_2 => ?_) (fun h_2 => ?_)
  · have T := T.1 h_2
    refine r_aload_n dX7_readAll_110 rfl ?_
    refine r_getO (o' := 2) dX7_readAll_111 fX7_9 h0 tX7_0 (by simp [lk, h0]) ?_
    refine r_bipush dX7_readAll_114 (by decide) (by decide) ?_
    refine r_callVI (md' := mX9_passSign) (as := [vI 59]) dX7_readAll_116 lX7_60 iX9_passSign rfl rfl rfl (Nat.le_of_ble_eq_true rfl) T (fun r_1 M2 T => ?_)
    refine r_if_ne (tgt := 124) dX7_readAll_119 (by decide) (fun h_1 => ?_) (fun h_1 => ?_)
    · have T := T.1 h_1
      refine r_iinc dX7_readAll_124 rfl (by decide) rfl ?_
      refine r_goto (tgt := 16) dX7_readAll_127 (by decide) ?_
      exact T
    · have T := T.2 h_1
      refine r_iconst dX7_readAll_122 (by decide) ?_
      exact r_zreturn dX7_readAll_123 rfl (by decide) ⟨_, rfl, T⟩
  · have T := T.2 h_2
    refine r_iconst dX7_readAll_108 (by decide) ?_
    exact r_zreturn dX7_readAll_109 rfl (by decide) ⟨_, rfl, T⟩
theorem eX7_readAll {G : Gx} {n : Nat} {M : Mem} {Q : Int → Mem → Prop} {o : Nat}  (h : ∀ K : Kx, CW G K mX7_readAll n 0 [some (vO o), none] [] M (qI Q)) : OkI G n mX7_readAll [vO o] M Q := Ok_of (by decide) (Nat.le_of_ble_eq_true rfl) rfl h
-- DownOnly$RuleReader readDeed ()Z
set_option maxRecDepth 20000 in
set_option maxHeartbeats 1000000 in
theorem bX7_readDeed_0 {G : Gx} {K : Kx} {n : Nat} {M : Mem} {Q : Int → Mem → Prop} {o : Nat}  (h0 : oc o = 7) (T : OkI G n mX9_isWord [vO 2, vO (1000 + 7)] M (fun r_1 M1 => (r_1 = 0 → OkI G n mX9_isWord [vO 2, vO (1000 + 8)] M1 (fun r_2 M2 => (r_2 = 0 → CW G K mX7_readDeed (n + 1) 33 [some (vO o), none, none] [vI 2] M2 (qI Q)) ∧ (¬ (r_2 = 0) → CW G K mX7_readDeed (n + 1) 33 [some (vO o), none, none] [vI 1] M2 (qI Q)))) ∧ (¬ (r_1 = 0) → CW G K mX7_readDeed (n + 1) 33 [some (vO o), none, none] [vI 0] M1 (qI Q)))) : CW G K mX7_readDeed (n + 1) 0 [some (vO o), none, none] [] M (qI Q) := by
  refine r_aload_n dX7_readDeed_0 rfl ?_
  refine r_getO (o' := 2) dX7_readDeed_1 fX7_9 h0 tX7_0 (by simp [lk, h0]) ?_
  refine r_lds (j := 7) dX7_readDeed_4 sX7_67 ?_
  refine r_callVI (md' := mX9_isWord) (as := [vO (1000 + 7)]) dX7_readDeed_6 lX7_43 iX9_isWord rfl rfl rfl (Nat.le_of_ble_eq_true rfl) T (fun r_1 M1 T => ?_)
  refine r_if_eq (tgt := 16) dX7_readDeed_9 (by decide) (fun h_2 => ?_) (fun h_2 => ?_)
  · have T := T.1 h_2
    refine r_aload_n dX7_readDeed_16 rfl ?_
    refine r_getO (o' := 2) dX7_readDeed_17 fX7_9 h0 tX7_0 (by simp [lk, h0]) ?_
    refine r_lds (j := 8) dX7_readDeed_20 sX7_69 ?_
    refine r_callVI (md' := mX9_isWord) (as := [vO (1000 + 8)]) dX7_readDeed_22 lX7_43 iX9_isWord rfl rfl rfl (Nat.le_of_ble_eq_true rfl) T (fun r_2 M2 T => ?_)
    refine r_if_eq (tgt := 32) dX7_readDeed_25 (by decide) (fun h_1 => ?_) (fun h_1 => ?_)
    · have T := T.1 h_1
      refine r_iconst dX7_readDeed_32 (by decide) ?_
      exact T
    · have T := T.2 h_1
      refine r_iconst dX7_readDeed_28 (by decide) ?_
      refine r_goto (tgt := 33) dX7_readDeed_29 (by decide) ?_
      exact T
  · have T := T.2 h_2
    refine r_iconst dX7_readDeed_12 (by decide) ?_
    refine r_goto (tgt := 33) dX7_readDeed_13 (by decide) ?_
    exact T
set_option maxRecDepth 20000 in
set_option maxHeartbeats 1000000 in
theorem bX7_readDeed_33 {G : Gx} {K : Kx} {n : Nat} {M : Mem} {Q : Int → Mem → Prop} {o : Nat} {z0 : Int} (h0 : oc o = 7) (T : (¬ z0 = 2 → CW G K mX7_readDeed (n + 1) 60 [some (vO o), some (vI z0), none] [] M (qI Q)) ∧ (z0 = 2 → OkI G n mX9_isWord [vO 2, vO (1000 + 9)] M (fun r_1 M1 => (¬ r_1 = 0 → CW G K mX7_readDeed (n + 1) 60 [some (vO o), some (vI z0), none] [] M1 (qI Q)) ∧ (r_1 = 0 → OkI G n mX9_refuse [vO 2, vI 0] M1 (fun r_2 M2 => (r_2 = 0 ∨ r_2 = 1) ∧ Q r_2 M2))))) : CW G K mX7_readDeed (n + 1) 33 [some (vO o), none, none] [vI z0] M (qI Q) := by
  refine r_istore_n dX7_readDeed_33 (by decide) rfl ?_
  refine r_iload_n dX7_readDeed_34 rfl ?_
  refine r_iconst dX7_readDeed_35 (by decide) ?_
  refine r_icmp_ne (tgt := 60) dX7_readDeed_36 (by decide) (fun h_2 => ?_) (fun h_2 => ?_)
  · have T := T.1 h_2
    exact T
  · have T := T.2 h_2
    refine r_aload_n dX7_readDeed_39 rfl ?_
    refine r_getO (o' := 2) dX7_readDeed_40 fX7_9 h0 tX7_0 (by simp [lk, h0]) ?_
    refine r_lds (j := 9) dX7_readDeed_43 sX7_71 ?_
    refine r_callVI (md' := mX9_isWord) (as := [vO (1000 + 9)]) dX7_readDeed_45 lX7_43 iX9_isWord rfl rfl rfl (Nat.le_of_ble_eq_true rfl) T (fun r_1 M1 T => ?_)
    refine r_if_ne (tgt := 60) dX7_readDeed_48 (by decide) (fun h_1 => ?_) (fun h_1 => ?_)
    · have T := T.1 h_1
      exact T
    · have T := T.2 h_1
      refine r_aload_n dX7_readDeed_51 rfl ?_
      refine r_getO (o' := 2) dX7_readDeed_52 fX7_9 h0 tX7_0 (by simp [lk, h0]) ?_
      refine r_iconst dX7_readDeed_55 (by decide) ?_
      refine r_callVI (md' := mX9_refuse) (as := [vI 0]) dX7_readDeed_56 lX7_64 iX9_refuse rfl rfl rfl (Nat.le_of_ble_eq_true rfl) T (fun r_2 M2 T => ?_)
      exact r_zreturn dX7_readDeed_59 rfl T.1 ⟨_, rfl, T.2⟩
set_option maxRecDepth 20000 in
set_option maxHeartbeats 1000000 in
theorem bX7_readDeed_60 {G : Gx} {K : Kx} {n : Nat} {M : Mem} {Q : Int → Mem → Prop} {o : Nat} {x1 : Int} (h0 : oc o = 7) (h1 : oc (o - 6) = 6) (T : (M (o - 6) 0 0 < 12 → OkV G n mX9_advance [vO 2] M (fun M1 => (0 ≤ M (o - 6) 0 0 ∧ M (o - 6) 0 0 < 12) ∧ (∀ M2 : Mem, M2 = mset M1 (o - 6) 1 (M (o - 6) 0 0).toNat x1 → (¬ x1 = 0 → ∀ M3 : Mem, M3 = mset M2 (o - 6) 0 0 (wr (M2 (o - 6) 0 0 + 1)) → Q 1 M3) ∧ (x1 = 0 → OkI G n mX9_isNumber [vO 2, vI 0, vI 23] M2 (fun r_1 M4 => (¬ r_1 = 0 → OkI G n mX9_take [vO 2] M4 (fun r_2 M5 => (0 ≤ M (o - 6) 0 0 ∧ M (o - 6) 0 0 < 12) ∧ (∀ M6 : Mem, M6 = mset M5 (o - 6) 2 (M (o - 6) 0 0).toNat r_2 → ∀ M7 : Mem, M7 = mset M6 (o - 6) 0 0 (wr (M6 (o - 6) 0 0 + 1)) → Q 1 M7))) ∧ (r_1 = 0 → Q 0 M4)))))) ∧ (¬ (M (o - 6) 0 0 < 12) → OkI G n mX9_refuse [vO 2, vI 4] M (fun r_3 M8 => (r_3 = 0 ∨ r_3 = 1) ∧ Q r_3 M8))) : CW G K mX7_readDeed (n + 1) 60 [some (vO o), some (vI x1), none] [] M (qI Q) := by
  refine r_aload_n dX7_readDeed_60 rfl ?_
  refine r_getO (o' := o - 6) dX7_readDeed_61 fX7_15 h0 tX7_1 (by simp [lk, h0]) ?_
  refine r_getI dX7_readDeed_64 fX7_73 h1 tX6_0 ?_
  refine r_istore_n dX7_readDeed_67 (by decide) rfl ?_
  refine r_iload_n dX7_readDeed_68 rfl ?_
  refine r_bipush dX7_readDeed_69 (by decide) (by decide) ?_
  refine r_icmp_lt (tgt := 83) dX7_readDeed_71 (by decide) (fun h_3 => ?_) (fun h_3 => ?_)
  · have T := T.1 h_3
    refine r_aload_n dX7_readDeed_83 rfl ?_
    refine r_getO (o' := 2) dX7_readDeed_84 fX7_9 h0 tX7_0 (by simp [lk, h0]) ?_
    refine r_callVV (md' := mX9_advance) (as := []) dX7_readDeed_87 lX7_47 iX9_advance rfl rfl rfl (Nat.le_of_ble_eq_true rfl) T (fun M1 T => ?_)
    refine r_aload_n dX7_readDeed_90 rfl ?_
    refine r_getO (o' := o - 6) dX7_readDeed_91 fX7_15 h0 tX7_1 (by simp [lk, h0]) ?_
    refine r_getA dX7_readDeed_94 fX7_76 h1 uX6_1 ?_
    refine r_iload_n dX7_readDeed_97 rfl ?_
    refine r_iload_n dX7_readDeed_98 rfl ?_
    refine n_iast dX7_readDeed_99 h1 tX6_1 aX6_1 T.1 (fun M2 hM2 => ?_)
    have T := T.2 M2 hM2
    refine r_iload_n dX7_readDeed_100 rfl ?_
    refine r_if_ne (tgt := 135) dX7_readDeed_101 (by decide) (fun h_2 => ?_) (fun h_2 => ?_)
    · have T := T.1 h_2
      refine r_aload_n dX7_readDeed_135 rfl ?_
      refine r_getO (o' := o - 6) dX7_readDeed_136 fX7_15 h0 tX7_1 (by simp [lk, h0]) ?_
      refine r_dup dX7_readDeed_139 rfl ?_
      refine r_getI dX7_readDeed_140 fX7_73 h1 tX6_0 ?_
      refine r_iconst dX7_readDeed_143 (by decide) ?_
      refine r_iadd dX7_readDeed_144 ?_
      refine n_put dX7_readDeed_145 pX7_73 h1 tX6_0 (fun M3 hM3 => ?_)
      have T := T M3 hM3
      refine r_iconst dX7_readDeed_148 (by decide) ?_
      exact r_zreturn dX7_readDeed_149 rfl (by decide) ⟨_, rfl, T⟩
    · have T := T.2 h_2
      refine r_aload_n dX7_readDeed_104 rfl ?_
      refine r_getO (o' := 2) dX7_readDeed_105 fX7_9 h0 tX7_0 (by simp [lk, h0]) ?_
      refine r_iconst dX7_readDeed_108 (by decide) ?_
      refine r_bipush dX7_readDeed_109 (by decide) (by decide) ?_
      refine r_callVI (md' := mX9_isNumber) (as := [vI 0, vI 23]) dX7_readDeed_111 lX7_79 iX9_isNumber rfl rfl rfl (Nat.le_of_ble_eq_true rfl) T (fun r_1 M4 T => ?_)
      refine r_if_ne (tgt := 119) dX7_readDeed_114 (by decide) (fun h_1 => ?_) (fun h_1 => ?_)
      · have T := T.1 h_1
        refine r_aload_n dX7_readDeed_119 rfl ?_
        refine r_getO (o' := o - 6) dX7_readDeed_120 fX7_15 h0 tX7_1 (by simp [lk, h0]) ?_
        refine r_getA dX7_readDeed_123 fX7_83 h1 uX6_2 ?_
        refine r_iload_n dX7_readDeed_126 rfl ?_
        refine r_aload_n dX7_readDeed_127 rfl ?_
        refine r_getO (o' := 2) dX7_readDeed_128 fX7_9 h0 tX7_0 (by simp [lk, h0]) ?_
        refine r_callVI (md' := mX9_take) (as := []) dX7_readDeed_131 lX7_86 iX9_take rfl rfl rfl (Nat.le_of_ble_eq_true rfl) T (fun r_2 M5 T => ?_)
        refine n_iast dX7_readDeed_134 h1 tX6_2 aX6_2 T.1 (fun M6 hM6 => ?_)
        have T := T.2 M6 hM6
        refine r_aload_n dX7_readDeed_135 rfl ?_
        refine r_getO (o' := o - 6) dX7_readDeed_136 fX7_15 h0 tX7_1 (by simp [lk, h0]) ?_
        refine r_dup dX7_readDeed_139 rfl ?_
        refine r_getI dX7_readDeed_140 fX7_73 h1 tX6_0 ?_
        refine r_iconst dX7_readDeed_143 (by decide) ?_
        refine r_iadd dX7_readDeed_144 ?_
        refine n_put dX7_readDeed_145 pX7_73 h1 tX6_0 (fun M7 hM7 => ?_)
        have T := T M7 hM7
        refine r_iconst dX7_readDeed_148 (by decide) ?_
        exact r_zreturn dX7_readDeed_149 rfl (by decide) ⟨_, rfl, T⟩
      · have T := T.2 h_1
        refine r_iconst dX7_readDeed_117 (by decide) ?_
        exact r_zreturn dX7_readDeed_118 rfl (by decide) ⟨_, rfl, T⟩
  · have T := T.2 h_3
    refine r_aload_n dX7_readDeed_74 rfl ?_
    refine r_getO (o' := 2) dX7_readDeed_75 fX7_9 h0 tX7_0 (by simp [lk, h0]) ?_
    refine r_iconst dX7_readDeed_78 (by decide) ?_
    refine r_callVI (md' := mX9_refuse) (as := [vI 4]) dX7_readDeed_79 lX7_64 iX9_refuse rfl rfl rfl (Nat.le_of_ble_eq_true rfl) T (fun r_3 M8 T => ?_)
    exact r_zreturn dX7_readDeed_82 rfl T.1 ⟨_, rfl, T.2⟩
theorem eX7_readDeed {G : Gx} {n : Nat} {M : Mem} {Q : Int → Mem → Prop} {o : Nat}  (h : ∀ K : Kx, CW G K mX7_readDeed n 0 [some (vO o), none, none] [] M (qI Q)) : OkI G n mX7_readDeed [vO o] M Q := Ok_of (by decide) (Nat.le_of_ble_eq_true rfl) rfl h
-- DownOnly$RuleReader readTest (I)Z
set_option maxRecDepth 20000 in
set_option maxHeartbeats 1000000 in
theorem bX7_readTest_0 {G : Gx} {K : Kx} {n : Nat} {M : Mem} {Q : Int → Mem → Prop} {o : Nat} {x1 : Int}  (T : CW G K mX7_readTest (n + 1) 7 [some (vO o), some (vI x1), some (vI 0), some (vI 0), some (vI 0)] [] M (qI Q)) : CW G K mX7_readTest (n + 1) 0 [some (vO o), some (vI x1), none, none, none] [] M (qI Q) := by
  refine r_iconst dX7_readTest_0 (by decide) ?_
  refine r_istore_n dX7_readTest_1 (by decide) rfl ?_
  refine r_iconst dX7_readTest_2 (by decide) ?_
  refine r_istore_n dX7_readTest_3 (by decide) rfl ?_
  refine r_iconst dX7_readTest_4 (by decide) ?_
  refine r_istore dX7_readTest_5 (by decide) rfl ?_
  exact T
set_option maxRecDepth 20000 in
set_option maxHeartbeats 1000000 in
theorem bX7_readTest_7 {G : Gx} {K : Kx} {n : Nat} {M : Mem} {Q : Int → Mem → Prop} {o : Nat} {x1 : Int} {x2 : Int} {x3 : Int} {x4 : Int} (h0 : oc o = 7) (h1 : oc (o - 6) = 6) (T : (400 ≤ x4 → OkI G n mX9_refuse [vO 2, vI 0] M (fun r_1 M1 => (r_1 = 0 ∨ r_1 = 1) ∧ Q r_1 M1)) ∧ (¬ (400 ≤ x4) → OkI G n mX7_readFact [vO o, vI x1] M (fun r_2 M2 => (¬ r_2 = 0 → (x3 = 0 → CW G K mX7_readTest (n + 1) 39 [some (vO o), some (vI x1), some (vI x2), none, some (vI x4)] [] M2 (qI Q)) ∧ (¬ (x3 = 0) → OkI G n mX6_put [vO (o - 6), vI 19] M2 (fun r_3 M3 => CW G K mX7_readTest (n + 1) 39 [some (vO o), some (vI x1), some (vI x2), none, some (vI x4)] [] M3 (qI Q)))) ∧ (r_2 = 0 → Q 0 M2)))) : CW G K mX7_readTest (n + 1) 7 [some (vO o), some (vI x1), some (vI x2), some (vI x3), some (vI x4)] [] M (qI Q) := by
  refine r_iload dX7_readTest_7 rfl ?_
  refine r_sipush dX7_readTest_9 (by decide) (by decide) ?_
  refine r_icmp_ge (tgt := 100) dX7_readTest_12 (by decide) (fun h_3 => ?_) (fun h_3 => ?_)
  · have T := T.1 h_3
    refine r_aload_n dX7_readTest_100 rfl ?_
    refine r_getO (o' := 2) dX7_readTest_101 fX7_9 h0 tX7_0 (by simp [lk, h0]) ?_
    refine r_iconst dX7_readTest_104 (by decide) ?_
    refine r_callVI (md' := mX9_refuse) (as := [vI 0]) dX7_readTest_105 lX7_64 iX9_refuse rfl rfl rfl (Nat.le_of_ble_eq_true rfl) T (fun r_1 M1 T => ?_)
    exact r_zreturn dX7_readTest_108 rfl T.1 ⟨_, rfl, T.2⟩
  · have T := T.2 h_3
    refine r_aload_n dX7_readTest_15 rfl ?_
    refine r_iload_n dX7_readTest_16 rfl ?_
    refine r_callVI (md' := mX7_readFact) (as := [vI x1]) dX7_readTest_17 lX7_89 iX7_readFact h0 rfl rfl (Nat.le_of_ble_eq_true rfl) T (fun r_2 M2 T => ?_)
    refine r_if_ne (tgt := 25) dX7_readTest_20 (by decide) (fun h_2 => ?_) (fun h_2 => ?_)
    · have T := T.1 h_2
      refine r_iload_n dX7_readTest_25 rfl ?_
      refine r_if_eq (tgt := 39) dX7_readTest_26 (by decide) (fun h_1 => ?_) (fun h_1 => ?_)
      · have T := T.1 h_1
        exact CW_msk [true, true, true, false, true] rfl T
      · have T := T.2 h_1
        refine r_aload_n dX7_readTest_29 rfl ?_
        refine r_getO (o' := o - 6) dX7_readTest_30 fX7_15 h0 tX7_1 (by simp [lk, h0]) ?_
        refine r_bipush dX7_readTest_33 (by decide) (by decide) ?_
        refine r_callVI (md' := mX6_put) (as := [vI 19]) dX7_readTest_35 lX7_92 iX6_put h1 rfl rfl (Nat.le_of_ble_eq_true rfl) T (fun r_3 M3 T => ?_)
        refine r_pop dX7_readTest_38 rfl ?_
        exact CW_msk [true, true, true, false, true] rfl T
    · have T := T.2 h_2
      refine r_iconst dX7_readTest_23 (by decide) ?_
      exact r_zreturn dX7_readTest_24 rfl (by decide) ⟨_, rfl, T⟩
set_option maxRecDepth 20000 in
set_option maxHeartbeats 1000000 in
theorem bX7_readTest_39 {G : Gx} {K : Kx} {n : Nat} {M : Mem} {Q : Int → Mem → Prop} {o : Nat} {x1 : Int} {x2 : Int} {x4 : Int} (h0 : oc o = 7) (h1 : oc (o - 6) = 6) (T : OkI G n mX9_isWord [vO 2, vO (1000 + 11)] M (fun r_1 M1 => (¬ r_1 = 0 → CW G K mX7_readTest (n + 1) 77 [some (vO o), some (vI x1), some (vI x2), some (vI r_1), some (vI x4)] [] M1 (qI Q)) ∧ (r_1 = 0 → (x2 = 0 → OkI G n mX9_isWord [vO 2, vO (1000 + 10)] M1 (fun r_2 M2 => CW G K mX7_readTest (n + 1) 77 [some (vO o), some (vI x1), some (vI r_2), some (vI r_1), some (vI x4)] [] M2 (qI Q))) ∧ (¬ (x2 = 0) → OkI G n mX6_put [vO (o - 6), vI 20] M1 (fun r_3 M3 => OkI G n mX9_isWord [vO 2, vO (1000 + 10)] M3 (fun r_4 M4 => CW G K mX7_readTest (n + 1) 77 [some (vO o), some (vI x1), some (vI r_4), some (vI r_1), some (vI x4)] [] M4 (qI Q))))))) : CW G K mX7_readTest (n + 1) 39 [some (vO o), some (vI x1), some (vI x2), none, some (vI x4)] [] M (qI Q) := by
  refine r_aload_n dX7_readTest_39 rfl ?_
  refine r_getO (o' := 2) dX7_readTest_40 fX7_9 h0 tX7_0 (by simp [lk, h0]) ?_
  refine r_lds (j := 11) dX7_readTest_43 sX7_95 ?_
  refine r_callVI (md' := mX9_isWord) (as := [vO (1000 + 11)]) dX7_readTest_45 lX7_43 iX9_isWord rfl rfl rfl (Nat.le_of_ble_eq_true rfl) T (fun r_1 M1 T => ?_)
  refine r_istore_n dX7_readTest_48 (by decide) rfl ?_
  refine r_iload_n dX7_readTest_49 rfl ?_
  refine r_if_ne (tgt := 77) dX7_readTest_50 (by decide) (fun h_2 => ?_) (fun h_2 => ?_)
  · have T := T.1 h_2
    exact T
  · have T := T.2 h_2
    refine r_iload_n dX7_readTest_53 rfl ?_
    refine r_if_eq (tgt := 67) dX7_readTest_54 (by decide) (fun h_1 => ?_) (fun h_1 => ?_)
    · have T := T.1 h_1
      refine r_aload_n dX7_readTest_67 rfl ?_
      refine r_getO (o' := 2) dX7_readTest_68 fX7_9 h0 tX7_0 (by simp [lk, h0]) ?_
      refine r_lds (j := 10) dX7_readTest_71 sX7_97 ?_
      refine r_callVI (md' := mX9_isWord) (as := [vO (1000 + 10)]) dX7_readTest_73 lX7_43 iX9_isWord rfl rfl rfl (Nat.le_of_ble_eq_true rfl) T (fun r_2 M2 T => ?_)
      refine r_istore_n dX7_readTest_76 (by decide) rfl ?_
      exact T
    · have T := T.2 h_1
      refine r_aload_n dX7_readTest_57 rfl ?_
      refine r_getO (o' := o - 6) dX7_readTest_58 fX7_15 h0 tX7_1 (by simp [lk, h0]) ?_
      refine r_bipush dX7_readTest_61 (by decide) (by decide) ?_
      refine r_callVI (md' := mX6_put) (as := [vI 20]) dX7_readTest_63 lX7_92 iX6_put h1 rfl rfl (Nat.le_of_ble_eq_true rfl) T (fun r_3 M3 T => ?_)
      refine r_pop dX7_readTest_66 rfl ?_
      refine r_aload_n dX7_readTest_67 rfl ?_
      refine r_getO (o' := 2) dX7_readTest_68 fX7_9 h0 tX7_0 (by simp [lk, h0]) ?_
      refine r_lds (j := 10) dX7_readTest_71 sX7_97 ?_
      refine r_callVI (md' := mX9_isWord) (as := [vO (1000 + 10)]) dX7_readTest_73 lX7_43 iX9_isWord rfl rfl rfl (Nat.le_of_ble_eq_true rfl) T (fun r_4 M4 T => ?_)
      refine r_istore_n dX7_readTest_76 (by decide) rfl ?_
      exact T
set_option maxRecDepth 20000 in
set_option maxHeartbeats 1000000 in
theorem bX7_readTest_77 {G : Gx} {K : Kx} {n : Nat} {M : Mem} {Q : Int → Mem → Prop} {o : Nat} {x1 : Int} {x2 : Int} {x3 : Int} {x4 : Int} (h0 : oc o = 7) (T : (¬ x3 = 0 → OkV G n mX9_advance [vO 2] M (fun M1 => CW G K mX7_readTest (n + 1) 7 [some (vO o), some (vI x1), some (vI x2), some (vI x3), some (vI (wr (x4 + 1)))] [] M1 (qI Q))) ∧ (x3 = 0 → (¬ x2 = 0 → OkV G n mX9_advance [vO 2] M (fun M2 => CW G K mX7_readTest (n + 1) 7 [some (vO o), some (vI x1), some (vI x2), some (vI x3), some (vI (wr (x4 + 1)))] [] M2 (qI Q))) ∧ (x2 = 0 → Q 1 M))) : CW G K mX7_readTest (n + 1) 77 [some (vO o), some (vI x1), some (vI x2), some (vI x3), some (vI x4)] [] M (qI Q) := by
  refine r_iload_n dX7_readTest_77 rfl ?_
  refine r_if_ne (tgt := 87) dX7_readTest_78 (by decide) (fun h_2 => ?_) (fun h_2 => ?_)
  · have T := T.1 h_2
    refine r_aload_n dX7_readTest_87 rfl ?_
    refine r_getO (o' := 2) dX7_readTest_88 fX7_9 h0 tX7_0 (by simp [lk, h0]) ?_
    refine r_callVV (md' := mX9_advance) (as := []) dX7_readTest_91 lX7_47 iX9_advance rfl rfl rfl (Nat.le_of_ble_eq_true rfl) T (fun M1 T => ?_)
    refine r_iinc dX7_readTest_94 rfl (by decide) rfl ?_
    refine r_goto (tgt := 7) dX7_readTest_97 (by decide) ?_
    exact T
  · have T := T.2 h_2
    refine r_iload_n dX7_readTest_81 rfl ?_
    refine r_if_ne (tgt := 87) dX7_readTest_82 (by decide) (fun h_1 => ?_) (fun h_1 => ?_)
    · have T := T.1 h_1
      refine r_aload_n dX7_readTest_87 rfl ?_
      refine r_getO (o' := 2) dX7_readTest_88 fX7_9 h0 tX7_0 (by simp [lk, h0]) ?_
      refine r_callVV (md' := mX9_advance) (as := []) dX7_readTest_91 lX7_47 iX9_advance rfl rfl rfl (Nat.le_of_ble_eq_true rfl) T (fun M2 T => ?_)
      refine r_iinc dX7_readTest_94 rfl (by decide) rfl ?_
      refine r_goto (tgt := 7) dX7_readTest_97 (by decide) ?_
      exact T
    · have T := T.2 h_1
      refine r_iconst dX7_readTest_85 (by decide) ?_
      exact r_zreturn dX7_readTest_86 rfl (by decide) ⟨_, rfl, T⟩
theorem eX7_readTest {G : Gx} {n : Nat} {M : Mem} {Q : Int → Mem → Prop} {o : Nat} {x1 : Int} (h : ∀ K : Kx, CW G K mX7_readTest n 0 [some (vO o), some (vI x1), none, none, none] [] M (qI Q)) : OkI G n mX7_readTest [vO o, vI x1] M Q := Ok_of (by decide) (Nat.le_of_ble_eq_true rfl) rfl h
-- DownOnly$RuleReader readFact (I)Z
set_option maxRecDepth 20000 in
set_option maxHeartbeats 1000000 in
theorem bX7_readFact_0 {G : Gx} {K : Kx} {n : Nat} {M : Mem} {Q : Int → Mem → Prop} {o : Nat} {x1 : Int} (h0 : oc o = 7) (h1 : oc (o - 6) = 6) (T : OkI G n mX9_isWord [vO 2, vO (1000 + 12)] M (fun r_1 M1 => (¬ r_1 = 0 → CW G K mX7_readFact (n + 1) 67 [some (vO o), some (vI x1), some (vI r_1)] [] M1 (qI Q)) ∧ (r_1 = 0 → OkI G n mX9_isSign [vO 2, vI 91] M1 (fun r_2 M2 => (¬ r_2 = 0 → CW G K mX7_readFact (n + 1) 67 [some (vO o), some (vI x1), some (vI r_1)] [] M2 (qI Q)) ∧ (r_2 = 0 → OkI G n mX7_readSum [vO o] M2 (fun r_3 M3 => (r_3 = 0 → Q 0 M3) ∧ (¬ (r_3 = 0) → OkI G n mX7_readComparison [vO o] M3 (fun r_4 M4 => (r_4 = 0 → Q 0 M4) ∧ (¬ (r_4 = 0) → OkI G n mX7_readSum [vO o] M4 (fun r_5 M5 => (r_5 = 0 → Q 0 M5) ∧ (¬ (r_5 = 0) → OkI G n mX6_put [vO (o - 6), vI (M5 o 3 0)] M5 (fun r_6 M6 => (r_6 = 0 → Q 0 M6) ∧ (¬ (r_6 = 0) → Q 1 M6))))))))))))) : CW G K mX7_readFact (n + 1) 0 [some (vO o), some (vI x1), none] [] M (qI Q) := by
  refine r_aload_n dX7_readFact_0 rfl ?_
  refine r_getO (o' := 2) dX7_readFact_1 fX7_9 h0 tX7_0 (by simp [lk, h0]) ?_
  refine r_lds (j := 12) dX7_readFact_4 sX7_99 ?_
  refine r_callVI (md' := mX9_isWord) (as := [vO (1000 + 12)]) dX7_readFact_6 lX7_43 iX9_isWord rfl rfl rfl (Nat.le_of_ble_eq_true rfl) T (fun r_1 M1 T => ?_)
  refine r_istore_n dX7_readFact_9 (by decide) rfl ?_
  refine r_iload_n dX7_readFact_10 rfl ?_
  refine r_if_ne (tgt := 67) dX7_readFact_11 (by decide) (fun h_6 => ?_) (fun h_6 => ?_)
  · have T := T.1 h_6
    exact T
  · have T := T.2 h_6
    refine r_aload_n dX7_readFact_14 rfl ?_
    refine r_getO (o' := 2) dX7_readFact_15 fX7_9 h0 tX7_0 (by simp [lk, h0]) ?_
    refine r_bipush dX7_readFact_18 (by decide) (by decide) ?_
    refine r_callVI (md' := mX9_isSign) (as := [vI 91]) dX7_readFact_20 lX7_101 iX9_isSign rfl rfl rfl (Nat.le_of_ble_eq_true rfl) T (fun r_2 M2 T => ?_)
    refine r_if_ne (tgt := 67) dX7_readFact_23 (by decide) (fun h_5 => ?_) (fun h_5 => ?_)
    · have T := T.1 h_5
      exact T
    · have T := T.2 h_5
      refine r_aload_n dX7_readFact_26 rfl ?_
      refine r_callVI (md' := mX7_readSum) (as := []) dX7_readFact_27 lX7_104 iX7_readSum h0 rfl rfl (Nat.le_of_ble_eq_true rfl) T (fun r_3 M3 T => ?_)
      refine r_if_eq (tgt := 65) dX7_readFact_30 (by decide) (fun h_4 => ?_) (fun h_4 => ?_)
      · have T := T.1 h_4
        refine r_iconst dX7_readFact_65 (by decide) ?_
        exact r_zreturn dX7_readFact_66 rfl (by decide) ⟨_, rfl, T⟩
      · have T := T.2 h_4
        refine r_aload_n dX7_readFact_33 rfl ?_
        refine r_callVI (md' := mX7_readComparison) (as := []) dX7_readFact_34 lX7_107 iX7_readComparison h0 rfl rfl (Nat.le_of_ble_eq_true rfl) T (fun r_4 M4 T => ?_)
        refine r_if_eq (tgt := 65) dX7_readFact_37 (by decide) (fun h_3 => ?_) (fun h_3 => ?_)
        · have T := T.1 h_3
          refine r_iconst dX7_readFact_65 (by decide) ?_
          exact r_zreturn dX7_readFact_66 rfl (by decide) ⟨_, rfl, T⟩
        · have T := T.2 h_3
          refine r_aload_n dX7_readFact_40 rfl ?_
          refine r_callVI (md' := mX7_readSum) (as := []) dX7_readFact_41 lX7_104 iX7_readSum h0 rfl rfl (Nat.le_of_ble_eq_true rfl) T (fun r_5 M5 T => ?_)
          refine r_if_eq (tgt := 65) dX7_readFact_44 (by decide) (fun h_2 => ?_) (fun h_2 => ?_)
          · have T := T.1 h_2
            refine r_iconst dX7_readFact_65 (by decide) ?_
            exact r_zreturn dX7_readFact_66 rfl (by decide) ⟨_, rfl, T⟩
          · have T := T.2 h_2
            refine r_aload_n dX7_readFact_47 rfl ?_
            refine r_getO (o' := o - 6) dX7_readFact_48 fX7_15 h0 tX7_1 (by simp [lk, h0]) ?_
            refine r_aload_n dX7_readFact_51 rfl ?_
            refine r_getI dX7_readFact_52 fX7_110 h0 tX7_3 ?_
            refine r_callVI (md' := mX6_put) (as := [vI (M5 o 3 0)]) dX7_readFact_55 lX7_92 iX6_put h1 rfl rfl (Nat.le_of_ble_eq_true rfl) T (fun r_6 M6 T => ?_)
            refine r_if_eq (tgt := 65) dX7_readFact_58 (by decide) (fun h_1 => ?_) (fun h_1 => ?_)
            · have T := T.1 h_1
              refine r_iconst dX7_readFact_65 (by decide) ?_
              exact r_zreturn dX7_readFact_66 rfl (by decide) ⟨_, rfl, T⟩
            · have T := T.2 h_1
              refine r_iconst dX7_readFact_61 (by decide) ?_
              refine r_goto (tgt := 66) dX7_readFact_62 (by decide) ?_
              exact r_zreturn dX7_readFact_66 rfl (by decide) ⟨_, rfl, T⟩
set_option maxRecDepth 20000 in
set_option maxHeartbeats 1000000 in
theorem bX7_readFact_67 {G : Gx} {K : Kx} {n : Nat} {M : Mem} {Q : Int → Mem → Prop} {o : Nat} {x1 : Int} {x2 : Int} (h0 : oc o = 7) (h1 : oc (o - 6) = 6) (T : (x1 < 10 → OkV G n mX9_advance [vO 2] M (fun M1 => (x2 = 0 → OkI G n mX7_readTest [vO o, vI (wr (x1 + 1))] M1 (fun r_1 M2 => (r_1 = 0 → Q 0 M2) ∧ (¬ (r_1 = 0) → OkI G n mX9_passSign [vO 2, vI 93] M2 (fun r_2 M3 => (r_2 = 0 → Q 0 M3) ∧ (¬ (r_2 = 0) → Q 1 M3))))) ∧ (¬ (x2 = 0) → OkI G n mX7_readFact [vO o, vI (wr (x1 + 1))] M1 (fun r_3 M4 => (r_3 = 0 → Q 0 M4) ∧ (¬ (r_3 = 0) → OkI G n mX6_put [vO (o - 6), vI 21] M4 (fun r_4 M5 => (r_4 = 0 → Q 0 M5) ∧ (¬ (r_4 = 0) → Q 1 M5))))))) ∧ (¬ (x1 < 10) → OkI G n mX9_refuse [vO 2, vI 2] M (fun r_5 M6 => (r_5 = 0 ∨ r_5 = 1) ∧ Q r_5 M6))) : CW G K mX7_readFact (n + 1) 67 [some (vO o), some (vI x1), some (vI x2)] [] M (qI Q) := by
  refine r_iload_n dX7_readFact_67 rfl ?_
  refine r_bipush dX7_readFact_68 (by decide) (by decide) ?_
  refine r_icmp_lt (tgt := 82) dX7_readFact_70 (by decide) (fun h_6 => ?_) (fun h_6 => ?_)
  · have T := T.1 h_6
    refine r_aload_n dX7_readFact_82 rfl ?_
    refine r_getO (o' := 2) dX7_readFact_83 fX7_9 h0 tX7_0 (by simp [lk, h0]) ?_
    refine r_callVV (md' := mX9_advance) (as := []) dX7_readFact_86 lX7_47 iX9_advance rfl rfl rfl (Nat.le_of_ble_eq_true rfl) T (fun M1 T => ?_)
    refine r_iload_n dX7_readFact_89 rfl ?_
    refine r_if_eq (tgt := 121) dX7_readFact_90 (by decide) (fun h_5 => ?_) (fun h_5 => ?_)
    · have T := T.1 h_5
      refine r_aload_n dX7_readFact_121 rfl ?_
      refine r_iload_n dX7_readFact_122 rfl ?_
      refine r_iconst dX7_readFact_123 (by decide) ?_
      refine r_iadd dX7_readFact_124 ?_
      refine r_callVI (md' := mX7_readTest) (as := [vI (wr (x1 + 1))]) dX7_readFact_125 lX7_50 iX7_readTest h0 rfl rfl (Nat.le_of_ble_eq_true rfl) T (fun r_1 M2 T => ?_)
      refine r_if_eq (tgt := 147) dX7_readFact_128 (by decide) (fun h_2 => ?_) (fun h_2 => ?_)
      · have T := T.1 h_2
        refine r_iconst dX7_readFact_147 (by decide) ?_
        exact r_zreturn dX7_readFact_148 rfl (by decide) ⟨_, rfl, T⟩
      · have T := T.2 h_2
        refine r_aload_n dX7_readFact_131 rfl ?_
        refine r_getO (o' := 2) dX7_readFact_132 fX7_9 h0 tX7_0 (by simp [lk, h0]) ?_
        refine r_bipush dX7_readFact_135 (by decide) (by decide) ?_
        refine r_callVI (md' := mX9_passSign) (as := [vI 93]) dX7_readFact_137 lX7_60 iX9_passSign rfl rfl rfl (Nat.le_of_ble_eq_true rfl) T (fun r_2 M3 T => ?_)
        refine r_if_eq (tgt := 147) dX7_readFact_140 (by decide) (fun h_1 => ?_) (fun h_1 => ?_)
        · have T := T.1 h_1
          refine r_iconst dX7_readFact_147 (by decide) ?_
          exact r_zreturn dX7_readFact_148 rfl (by decide) ⟨_, rfl, T⟩
        · have T := T.2 h_1
          refine r_iconst dX7_readFact_143 (by decide) ?_
          refine r_goto (tgt := 148) dX7_readFact_144 (by decide) ?_
          exact r_zreturn dX7_readFact_148 rfl (by decide) ⟨_, rfl, T⟩
    · have T := T.2 h_5
      refine r_aload_n dX7_readFact_93 rfl ?_
      refine r_iload_n dX7_readFact_94 rfl ?_
      refine r_iconst dX7_readFact_95 (by decide) ?_
      refine r_iadd dX7_readFact_96 ?_
      refine r_callVI (md' := mX7_readFact) (as := [vI (wr (x1 + 1))]) dX7_readFact_97 lX7_89 iX7_readFact h0 rfl rfl (Nat.le_of_ble_eq_true rfl) T (fun r_3 M4 T => ?_)
      refine r_if_eq (tgt := 119) dX7_readFact_100 (by decide) (fun h_4 => ?_) (fun h_4 => ?_)
      · have T := T.1 h_4
        refine r_iconst dX7_readFact_119 (by decide) ?_
        exact r_zreturn dX7_readFact_120 rfl (by decide) ⟨_, rfl, T⟩
      · have T := T.2 h_4
        refine r_aload_n dX7_readFact_103 rfl ?_
        refine r_getO (o' := o - 6) dX7_readFact_104 fX7_15 h0 tX7_1 (by simp [lk, h0]) ?_
        refine r_bipush dX7_readFact_107 (by decide) (by decide) ?_
        refine r_callVI (md' := mX6_put) (as := [vI 21]) dX7_readFact_109 lX7_92 iX6_put h1 rfl rfl (Nat.le_of_ble_eq_true rfl) T (fun r_4 M5 T => ?_)
        refine r_if_eq (tgt := 119) dX7_readFact_112 (by decide) (fun h_3 => ?_) (fun h_3 => ?_)
        · have T := T.1 h_3
          refine r_iconst dX7_readFact_119 (by decide) ?_
          exact r_zreturn dX7_readFact_120 rfl (by decide) ⟨_, rfl, T⟩
        · have T := T.2 h_3
          refine r_iconst dX7_readFact_115 (by decide) ?_
          refine r_goto (tgt := 120) dX7_readFact_116 (by decide) ?_
          exact r_zreturn dX7_readFact_120 rfl (by decide) ⟨_, rfl, T⟩
  · have T := T.2 h_6
    refine r_aload_n dX7_readFact_73 rfl ?_
    refine r_getO (o' := 2) dX7_readFact_74 fX7_9 h0 tX7_0 (by simp [lk, h0]) ?_
    refine r_iconst dX7_readFact_77 (by decide) ?_
    refine r_callVI (md' := mX9_refuse) (as := [vI 2]) dX7_readFact_78 lX7_64 iX9_refuse rfl rfl rfl (Nat.le_of_ble_eq_true rfl) T (fun r_5 M6 T => ?_)
    exact r_zreturn dX7_readFact_81 rfl T.1 ⟨_, rfl, T.2⟩
theorem eX7_readFact {G : Gx} {n : Nat} {M : Mem} {Q : Int → Mem → Prop} {o : Nat} {x1 : Int} (h : ∀ K : Kx, CW G K mX7_readFact n 0 [some (vO o), some (vI x1), none] [] M (qI Q)) : OkI G n mX7_readFact [vO o, vI x1] M Q := Ok_of (by decide) (Nat.le_of_ble_eq_true rfl) rfl h
-- DownOnly$RuleReader readComparison ()Z
set_option maxRecDepth 20000 in
set_option maxHeartbeats 1000000 in
theorem bX7_readComparison_0 {G : Gx} {K : Kx} {n : Nat} {M : Mem} {Q : Int → Mem → Prop} {o : Nat}  (h0 : oc o = 7) (T : OkI G n mX7_comparison [vO o] M (fun r_1 M1 => ∀ M2 : Mem, M2 = mset M1 o 3 0 r_1 → (¬ M2 o 3 0 = (-1) → OkI G n mX7_countPart [vO o] M2 (fun r_2 M3 => (¬ r_2 = 0 → OkV G n mX9_advance [vO 2] M3 (fun M4 => Q 1 M4)) ∧ (r_2 = 0 → Q 0 M3))) ∧ (M2 o 3 0 = (-1) → OkI G n mX9_refuse [vO 2, vI 0] M2 (fun r_3 M5 => (r_3 = 0 ∨ r_3 = 1) ∧ Q r_3 M5)))) : CW G K mX7_readComparison (n + 1) 0 [some (vO o)] [] M (qI Q) := by
  refine r_aload_n dX7_readComparison_0 rfl ?_
  refine r_aload_n dX7_readComparison_1 rfl ?_
  refine r_callVI (md' := mX7_comparison) (as := []) dX7_readComparison_2 lX7_113 iX7_comparison h0 rfl rfl (Nat.le_of_ble_eq_true rfl) T (fun r_1 M1 T => ?_)
  refine n_put dX7_readComparison_5 pX7_110 h0 tX7_3 (fun M2 hM2 => ?_)
  have T := T M2 hM2
  refine r_aload_n dX7_readComparison_8 rfl ?_
  refine r_getI dX7_readComparison_9 fX7_110 h0 tX7_3 ?_
  refine r_iconst dX7_readComparison_12 (by decide) ?_
  refine r_icmp_ne (tgt := 25) dX7_readComparison_13 (by decide) (fun h_2 => ?_) (fun h_2 => ?_)
  · have T := T.1 h_2
    refine r_aload_n dX7_readComparison_25 rfl ?_
    refine r_callVI (md' := mX7_countPart) (as := []) dX7_readComparison_26 lX7_116 iX7_countPart h0 rfl rfl (Nat.le_of_ble_eq_true rfl) T (fun r_2 M3 T => ?_)
    refine r_if_ne (tgt := 34) dX7_readComparison_29 (by decide) (fun h_1 => ?_) (fun h_1 => ?_)
    · have T := T.1 h_1
      refine r_aload_n dX7_readComparison_34 rfl ?_
      refine r_getO (o' := 2) dX7_readComparison_35 fX7_9 h0 tX7_0 (by simp [lk, h0]) ?_
      refine r_callVV (md' := mX9_advance) (as := []) dX7_readComparison_38 lX7_47 iX9_advance rfl rfl rfl (Nat.le_of_ble_eq_true rfl) T (fun M4 T => ?_)
      refine r_iconst dX7_readComparison_41 (by decide) ?_
      exact r_zreturn dX7_readComparison_42 rfl (by decide) ⟨_, rfl, T⟩
    · have T := T.2 h_1
      refine r_iconst dX7_readComparison_32 (by decide) ?_
      exact r_zreturn dX7_readComparison_33 rfl (by decide) ⟨_, rfl, T⟩
  · have T := T.2 h_2
    refine r_aload_n dX7_readComparison_16 rfl ?_
    refine r_getO (o' := 2) dX7_readComparison_17 fX7_9 h0 tX7_0 (by simp [lk, h0]) ?_
    refine r_iconst dX7_readComparison_20 (by decide) ?_
    refine r_callVI (md' := mX9_refuse) (as := [vI 0]) dX7_readComparison_21 lX7_64 iX9_refuse rfl rfl rfl (Nat.le_of_ble_eq_true rfl) T (fun r_3 M5 T => ?_)
    exact r_zreturn dX7_readComparison_24 rfl T.1 ⟨_, rfl, T.2⟩
theorem eX7_readComparison {G : Gx} {n : Nat} {M : Mem} {Q : Int → Mem → Prop} {o : Nat}  (h : ∀ K : Kx, CW G K mX7_readComparison n 0 [some (vO o)] [] M (qI Q)) : OkI G n mX7_readComparison [vO o] M Q := Ok_of (by decide) (Nat.le_of_ble_eq_true rfl) rfl h
-- DownOnly$RuleReader comparison ()I
set_option maxRecDepth 20000 in
set_option maxHeartbeats 1000000 in
theorem bX7_comparison_0 {G : Gx} {K : Kx} {n : Nat} {M : Mem} {Q : Int → Mem → Prop} {o : Nat}  (h0 : oc o = 7) (T : (M 2 2 0 = 3 → (¬ wr (M 2 4 0 - (M 2 3 0)) = 2 → CW G K mX7_comparison (n + 1) 37 [some (vO o), none] [vI 0] M (qI Q)) ∧ (wr (M 2 4 0 - (M 2 3 0)) = 2 → CW G K mX7_comparison (n + 1) 37 [some (vO o), none] [vI 1] M (qI Q))) ∧ (¬ (M 2 2 0 = 3) → Q (-1) M)) : CW G K mX7_comparison (n + 1) 0 [some (vO o), none] [] M (qI Q) := by
  refine r_aload_n dX7_comparison_0 rfl ?_
  refine r_getO (o' := 2) dX7_comparison_1 fX7_9 h0 tX7_0 (by simp [lk, h0]) ?_
  refine r_getI dX7_comparison_4 fX7_57 rfl tX9_2 ?_
  refine r_iconst dX7_comparison_7 (by decide) ?_
  refine r_icmp_eq (tgt := 13) dX7_comparison_8 (by decide) (fun h_2 => ?_) (fun h_2 => ?_)
  · have T := T.1 h_2
    refine r_aload_n dX7_comparison_13 rfl ?_
    refine r_getO (o' := 2) dX7_comparison_14 fX7_9 h0 tX7_0 (by simp [lk, h0]) ?_
    refine r_getI dX7_comparison_17 fX7_119 rfl tX9_4 ?_
    refine r_aload_n dX7_comparison_20 rfl ?_
    refine r_getO (o' := 2) dX7_comparison_21 fX7_9 h0 tX7_0 (by simp [lk, h0]) ?_
    refine r_getI dX7_comparison_24 fX7_121 rfl tX9_3 ?_
    refine r_isub dX7_comparison_27 ?_
    refine r_iconst dX7_comparison_28 (by decide) ?_
    refine r_icmp_ne (tgt := 36) dX7_comparison_29 (by decide) (fun h_1 => ?_) (fun h_1 => ?_)
    · have T := T.1 h_1
      refine r_iconst dX7_comparison_36 (by decide) ?_
      exact T
    · have T := T.2 h_1
      refine r_iconst dX7_comparison_32 (by decide) ?_
      refine r_goto (tgt := 37) dX7_comparison_33 (by decide) ?_
      exact T
  · have T := T.2 h_2
    refine r_iconst dX7_comparison_11 (by decide) ?_
    exact r_ireturn dX7_comparison_12 rfl ⟨_, rfl, T⟩
set_option maxRecDepth 20000 in
set_option maxHeartbeats 1000000 in
theorem bX7_comparison_37 {G : Gx} {K : Kx} {n : Nat} {M : Mem} {Q : Int → Mem → Prop} {o : Nat} {z0 : Int} (h0 : oc o = 7) (T : OkI G n mX9_byteAt [vO 2, vI (M 2 3 0)] M (fun r_1 M1 => ((r_1 < 60 ∨ 62 < r_1) → Q (-1) M1) ∧ (r_1 = 60 → (z0 = 0 → Q 14 M1) ∧ (¬ (z0 = 0) → Q 15 M1)) ∧ (r_1 = 61 → Q 16 M1) ∧ (r_1 = 62 → (z0 = 0 → Q 18 M1) ∧ (¬ (z0 = 0) → Q 17 M1)))) : CW G K mX7_comparison (n + 1) 37 [some (vO o), none] [vI z0] M (qI Q) := by
  refine r_istore_n dX7_comparison_37 (by decide) rfl ?_
  refine r_aload_n dX7_comparison_38 rfl ?_
  refine r_getO (o' := 2) dX7_comparison_39 fX7_9 h0 tX7_0 (by simp [lk, h0]) ?_
  refine r_aload_n dX7_comparison_42 rfl ?_
  refine r_getO (o' := 2) dX7_comparison_43 fX7_9 h0 tX7_0 (by simp [lk, h0]) ?_
  refine r_getI dX7_comparison_46 fX7_121 rfl tX9_3 ?_
  refine r_callVI (md' := mX9_byteAt) (as := [vI (M 2 3 0)]) dX7_comparison_49 lX7_124 iX9_byteAt rfl rfl rfl (Nat.le_of_ble_eq_true rfl) T (fun r_1 M1 T => ?_)
  refine r_tsw (td := 107) (tg := [80, 104, 92]) dX7_comparison_52 (by decide) (by decide) (by decide) (fun h_ => ?_) (fun j t ht hx => ?_)
  · have T := T.1 h_
    refine r_iconst dX7_comparison_107 (by decide) ?_
    exact r_ireturn dX7_comparison_108 rfl ⟨_, rfl, T⟩
  · match j, ht, hx with
    | 0, ht, hx =>
      cases ht
      have T := T.2.1 (by omega)
      refine r_iload_n dX7_comparison_80 rfl ?_
      refine r_if_eq (tgt := 89) dX7_comparison_81 (by decide) (fun h_1 => ?_) (fun h_1 => ?_)
      · have T := T.1 h_1
        refine r_bipush dX7_comparison_89 (by decide) (by decide) ?_
        exact r_ireturn dX7_comparison_91 rfl ⟨_, rfl, T⟩
      · have T := T.2 h_1
        refine r_bipush dX7_comparison_84 (by decide) (by decide) ?_
        refine r_goto (tgt := 91) dX7_comparison_86 (by decide) ?_
        exact r_ireturn dX7_comparison_91 rfl ⟨_, rfl, T⟩
    | 1, ht, hx =>
      cases ht
      have T := T.2.2.1 (by omega)
      refine r_bipush dX7_comparison_104 (by decide) (by decide) ?_
      exact r_ireturn dX7_comparison_106 rfl ⟨_, rfl, T⟩
    | 2, ht, hx =>
      cases ht
      have T := T.2.2.2 (by omega)
      refine r_iload_n dX7_comparison_92 rfl ?_
      refine r_if_eq (tgt := 101) dX7_comparison_93 (by decide) (fun h_2 => ?_) (fun h_2 => ?_)
      · have T := T.1 h_2
        refine r_bipush dX7_comparison_101 (by decide) (by decide) ?_
        exact r_ireturn dX7_comparison_103 rfl ⟨_, rfl, T⟩
      · have T := T.2 h_2
        refine r_bipush dX7_comparison_96 (by decide) (by decide) ?_
        refine r_goto (tgt := 103) dX7_comparison_98 (by decide) ?_
        exact r_ireturn dX7_comparison_103 rfl ⟨_, rfl, T⟩
    | j + 3, ht, hx => exact absurd ht (by simp)
theorem eX7_comparison {G : Gx} {n : Nat} {M : Mem} {Q : Int → Mem → Prop} {o : Nat}  (h : ∀ K : Kx, CW G K mX7_comparison n 0 [some (vO o), none] [] M (qI Q)) : OkI G n mX7_comparison [vO o] M Q := Ok_of (by decide) (Nat.le_of_ble_eq_true rfl) rfl h
-- DownOnly$RuleReader readSum ()Z
set_option maxRecDepth 20000 in
set_option maxHeartbeats 1000000 in
theorem bX7_readSum_0 {G : Gx} {K : Kx} {n : Nat} {M : Mem} {Q : Int → Mem → Prop} {o : Nat}   (T : CW G K mX7_readSum (n + 1) 6 [some (vO o), some (vI (-1)), some (vI (-1)), some (vI 0), none] [] M (qI Q)) : CW G K mX7_readSum (n + 1) 0 [some (vO o), none, none, none, none] [] M (qI Q) := by
  refine r_iconst dX7_readSum_0 (by decide) ?_
  refine r_istore_n dX7_readSum_1 (by decide) rfl ?_
  refine r_iconst dX7_readSum_2 (by decide) ?_
  refine r_istore_n dX7_readSum_3 (by decide) rfl ?_
  refine r_iconst dX7_readSum_4 (by decide) ?_
  refine r_istore_n dX7_readSum_5 (by decide) rfl ?_
  exact T
set_option maxRecDepth 20000 in
set_option maxHeartbeats 1000000 in
theorem bX7_readSum_6 {G : Gx} {K : Kx} {n : Nat} {M : Mem} {Q : Int → Mem → Prop} {o : Nat} {x1 : Int} {x2 : Int} {x3 : Int} (h0 : oc o = 7) (h1 : oc (o - 6) = 6) (T : (400 ≤ x3 → OkI G n mX9_refuse [vO 2, vI 0] M (fun r_1 M1 => (r_1 = 0 ∨ r_1 = 1) ∧ Q r_1 M1)) ∧ (¬ (400 ≤ x3) → OkI G n mX7_readValue [vO o] M (fun r_2 M2 => (¬ r_2 = 0 → (x2 = (-1) → CW G K mX7_readSum (n + 1) 36 [some (vO o), some (vI x1), none, some (vI x3), none] [] M2 (qI Q)) ∧ (¬ (x2 = (-1)) → OkI G n mX6_put [vO (o - 6), vI x2] M2 (fun r_3 M3 => CW G K mX7_readSum (n + 1) 36 [some (vO o), some (vI x1), none, some (vI x3), none] [] M3 (qI Q)))) ∧ (r_2 = 0 → Q 0 M2)))) : CW G K mX7_readSum (n + 1) 6 [some (vO o), some (vI x1), some (vI x2), some (vI x3), none] [] M (qI Q) := by
  refine r_iload_n dX7_readSum_6 rfl ?_
  refine r_sipush dX7_readSum_7 (by decide) (by decide) ?_
  refine r_icmp_ge (tgt := 106) dX7_readSum_10 (by decide) (fun h_3 => ?_) (fun h_3 => ?_)
  · have T := T.1 h_3
    refine r_aload_n dX7_readSum_106 rfl ?_
    refine r_getO (o' := 2) dX7_readSum_107 fX7_9 h0 tX7_0 (by simp [lk, h0]) ?_
    refine r_iconst dX7_readSum_110 (by decide) ?_
    refine r_callVI (md' := mX9_refuse) (as := [vI 0]) dX7_readSum_111 lX7_64 iX9_refuse rfl rfl rfl (Nat.le_of_ble_eq_true rfl) T (fun r_1 M1 T => ?_)
    exact r_zreturn dX7_readSum_114 rfl T.1 ⟨_, rfl, T.2⟩
  · have T := T.2 h_3
    refine r_aload_n dX7_readSum_13 rfl ?_
    refine r_callVI (md' := mX7_readValue) (as := []) dX7_readSum_14 lX7_128 iX7_readValue h0 rfl rfl (Nat.le_of_ble_eq_true rfl) T (fun r_2 M2 T => ?_)
    refine r_if_ne (tgt := 22) dX7_readSum_17 (by decide) (fun h_2 => ?_) (fun h_2 => ?_)
    · have T := T.1 h_2
      refine r_iload_n dX7_readSum_22 rfl ?_
      refine r_iconst dX7_readSum_23 (by decide) ?_
      refine r_icmp_eq (tgt := 36) dX7_readSum_24 (by decide) (fun h_1 => ?_) (fun h_1 => ?_)
      · have T := T.1 h_1
        exact CW_msk [true, true, false, true, false] rfl T
      · have T := T.2 h_1
        refine r_aload_n dX7_readSum_27 rfl ?_
        refine r_getO (o' := o - 6) dX7_readSum_28 fX7_15 h0 tX7_1 (by simp [lk, h0]) ?_
        refine r_iload_n dX7_readSum_31 rfl ?_
        refine r_callVI (md' := mX6_put) (as := [vI x2]) dX7_readSum_32 lX7_92 iX6_put h1 rfl rfl (Nat.le_of_ble_eq_true rfl) T (fun r_3 M3 T => ?_)
        refine r_pop dX7_readSum_35 rfl ?_
        exact CW_msk [true, true, false, true, false] rfl T
    · have T := T.2 h_2
      refine r_iconst dX7_readSum_20 (by decide) ?_
      exact r_zreturn dX7_readSum_21 rfl (by decide) ⟨_, rfl, T⟩
set_option maxRecDepth 20000 in
set_option maxHeartbeats 1000000 in
theorem bX7_readSum_36 {G : Gx} {K : Kx} {n : Nat} {M : Mem} {Q : Int → Mem → Prop} {o : Nat} {x1 : Int} {x3 : Int} (h0 : oc o = 7) (T : OkI G n mX7_reckoning [vO o] M (fun r_1 M1 => (r_1 = 12 → CW G K mX7_readSum (n + 1) 62 [some (vO o), some (vI x1), none, some (vI x3), some (vI r_1)] [vI r_1] M1 (qI Q)) ∧ (¬ (r_1 = 12) → (¬ r_1 = 13 → CW G K mX7_readSum (n + 1) 62 [some (vO o), some (vI x1), none, some (vI x3), some (vI r_1)] [vI (-1)] M1 (qI Q)) ∧ (r_1 = 13 → CW G K mX7_readSum (n + 1) 62 [some (vO o), some (vI x1), none, some (vI x3), some (vI r_1)] [vI r_1] M1 (qI Q))))) : CW G K mX7_readSum (n + 1) 36 [some (vO o), some (vI x1), none, some (vI x3), none] [] M (qI Q) := by
  refine r_aload_n dX7_readSum_36 rfl ?_
  refine r_callVI (md' := mX7_reckoning) (as := []) dX7_readSum_37 lX7_131 iX7_reckoning h0 rfl rfl (Nat.le_of_ble_eq_true rfl) T (fun r_1 M1 T => ?_)
  refine r_istore dX7_readSum_40 (by decide) rfl ?_
  refine r_iload dX7_readSum_42 rfl ?_
  refine r_bipush dX7_readSum_44 (by decide) (by decide) ?_
  refine r_icmp_eq (tgt := 56) dX7_readSum_46 (by decide) (fun h_2 => ?_) (fun h_2 => ?_)
  · have T := T.1 h_2
    refine r_iload dX7_readSum_56 rfl ?_
    refine r_goto (tgt := 62) dX7_readSum_58 (by decide) ?_
    exact T
  · have T := T.2 h_2
    refine r_iload dX7_readSum_49 rfl ?_
    refine r_bipush dX7_readSum_51 (by decide) (by decide) ?_
    refine r_icmp_ne (tgt := 61) dX7_readSum_53 (by decide) (fun h_1 => ?_) (fun h_1 => ?_)
    · have T := T.1 h_1
      refine r_iconst dX7_readSum_61 (by decide) ?_
      exact T
    · have T := T.2 h_1
      refine r_iload dX7_readSum_56 rfl ?_
      refine r_goto (tgt := 62) dX7_readSum_58 (by decide) ?_
      exact T
set_option maxRecDepth 20000 in
set_option maxHeartbeats 1000000 in
theorem bX7_readSum_62 {G : Gx} {K : Kx} {n : Nat} {M : Mem} {Q : Int → Mem → Prop} {o : Nat} {x1 : Int} {x3 : Int} {x4 : Int} {z0 : Int} (h0 : oc o = 7) (h1 : oc (o - 6) = 6) (T : (¬ z0 = (-1) → (¬ x4 = (-1) → OkV G n mX9_advance [vO 2] M (fun M1 => CW G K mX7_readSum (n + 1) 6 [some (vO o), some (vI x1), some (vI z0), some (vI (wr (x3 + 1))), none] [] M1 (qI Q))) ∧ (x4 = (-1) → Q 1 M)) ∧ (z0 = (-1) → (x1 = (-1) → (¬ x4 = (-1) → OkV G n mX9_advance [vO 2] M (fun M2 => CW G K mX7_readSum (n + 1) 6 [some (vO o), some (vI x4), some (vI z0), some (vI (wr (x3 + 1))), none] [] M2 (qI Q))) ∧ (x4 = (-1) → Q 1 M)) ∧ (¬ (x1 = (-1)) → OkI G n mX6_put [vO (o - 6), vI x1] M (fun r_1 M3 => (¬ x4 = (-1) → OkV G n mX9_advance [vO 2] M3 (fun M4 => CW G K mX7_readSum (n + 1) 6 [some (vO o), some (vI x4), some (vI z0), some (vI (wr (x3 + 1))), none] [] M4 (qI Q))) ∧ (x4 = (-1) → Q 1 M3))))) : CW G K mX7_readSum (n + 1) 62 [some (vO o), some (vI x1), none, some (vI x3), some (vI x4)] [vI z0] M (qI Q) := by
  refine r_istore_n dX7_readSum_62 (by decide) rfl ?_
  refine r_iload_n dX7_readSum_63 rfl ?_
  refine r_iconst dX7_readSum_64 (by decide) ?_
  refine r_icmp_ne (tgt := 85) dX7_readSum_65 (by decide) (fun h_5 => ?_) (fun h_5 => ?_)
  · have T := T.1 h_5
    refine r_iload dX7_readSum_85 rfl ?_
    refine r_iconst dX7_readSum_87 (by decide) ?_
    refine r_icmp_ne (tgt := 93) dX7_readSum_88 (by decide) (fun h_1 => ?_) (fun h_1 => ?_)
    · have T := T.1 h_1
      refine r_aload_n dX7_readSum_93 rfl ?_
      refine r_getO (o' := 2) dX7_readSum_94 fX7_9 h0 tX7_0 (by simp [lk, h0]) ?_
      refine r_callVV (md' := mX9_advance) (as := []) dX7_readSum_97 lX7_47 iX9_advance rfl rfl rfl (Nat.le_of_ble_eq_true rfl) T (fun M1 T => ?_)
      refine r_iinc dX7_readSum_100 rfl (by decide) rfl ?_
      refine r_goto (tgt := 6) dX7_readSum_103 (by decide) ?_
      exact CW_msk [true, true, true, true, false] rfl T
    · have T := T.2 h_1
      refine r_iconst dX7_readSum_91 (by decide) ?_
      exact r_zreturn dX7_readSum_92 rfl (by decide) ⟨_, rfl, T⟩
  · have T := T.2 h_5
    refine r_iload_n dX7_readSum_68 rfl ?_
    refine r_iconst dX7_readSum_69 (by decide) ?_
    refine r_icmp_eq (tgt := 82) dX7_readSum_70 (by decide) (fun h_4 => ?_) (fun h_4 => ?_)
    · have T := T.1 h_4
      refine r_iload dX7_readSum_82 rfl ?_
      refine r_istore_n dX7_readSum_84 (by decide) rfl ?_
      refine r_iload dX7_readSum_85 rfl ?_
      refine r_iconst dX7_readSum_87 (by decide) ?_
      refine r_icmp_ne (tgt := 93) dX7_readSum_88 (by decide) (fun h_2 => ?_) (fun h_2 => ?_)
      · have T := T.1 h_2
        refine r_aload_n dX7_readSum_93 rfl ?_
        refine r_getO (o' := 2) dX7_readSum_94 fX7_9 h0 tX7_0 (by simp [lk, h0]) ?_
        refine r_callVV (md' := mX9_advance) (as := []) dX7_readSum_97 lX7_47 iX9_advance rfl rfl rfl (Nat.le_of_ble_eq_true rfl) T (fun M2 T => ?_)
        refine r_iinc dX7_readSum_100 rfl (by decide) rfl ?_
        refine r_goto (tgt := 6) dX7_readSum_103 (by decide) ?_
        exact CW_msk [true, true, true, true, false] rfl T
      · have T := T.2 h_2
        refine r_iconst dX7_readSum_91 (by decide) ?_
        exact r_zreturn dX7_readSum_92 rfl (by decide) ⟨_, rfl, T⟩
    · have T := T.2 h_4
      refine r_aload_n dX7_readSum_73 rfl ?_
      refine r_getO (o' := o - 6) dX7_readSum_74 fX7_15 h0 tX7_1 (by simp [lk, h0]) ?_
      refine r_iload_n dX7_readSum_77 rfl ?_
      refine r_callVI (md' := mX6_put) (as := [vI x1]) dX7_readSum_78 lX7_92 iX6_put h1 rfl rfl (Nat.le_of_ble_eq_true rfl) T (fun r_1 M3 T => ?_)
      refine r_pop dX7_readSum_81 rfl ?_
      refine r_iload dX7_readSum_82 rfl ?_
      refine r_istore_n dX7_readSum_84 (by decide) rfl ?_
      refine r_iload dX7_readSum_85 rfl ?_
      refine r_iconst dX7_readSum_87 (by decide) ?_
      refine r_icmp_ne (tgt := 93) dX7_readSum_88 (by decide) (fun h_3 => ?_) (fun h_3 => ?_)
      · have T := T.1 h_3
        refine r_aload_n dX7_readSum_93 rfl ?_
        refine r_getO (o' := 2) dX7_readSum_94 fX7_9 h0 tX7_0 (by simp [lk, h0]) ?_
        refine r_callVV (md' := mX9_advance) (as := []) dX7_readSum_97 lX7_47 iX9_advance rfl rfl rfl (Nat.le_of_ble_eq_true rfl) T (fun M4 T => ?_)
        refine r_iinc dX7_readSum_100 rfl (by decide) rfl ?_
        refine r_goto (tgt := 6) dX7_readSum_103 (by decide) ?_
        exact CW_msk [true, true, true, true, false] rfl T
      · have T := T.2 h_3
        refine r_iconst dX7_readSum_91 (by decide) ?_
        exact r_zreturn dX7_readSum_92 rfl (by decide) ⟨_, rfl, T⟩
theorem eX7_readSum {G : Gx} {n : Nat} {M : Mem} {Q : Int → Mem → Prop} {o : Nat}  (h : ∀ K : Kx, CW G K mX7_readSum n 0 [some (vO o), none, none, none, none] [] M (qI Q)) : OkI G n mX7_readSum [vO o] M Q := Ok_of (by decide) (Nat.le_of_ble_eq_true rfl) rfl h
-- DownOnly$RuleReader reckoning ()I
set_option maxRecDepth 20000 in
set_option maxHeartbeats 1000000 in
theorem bX7_reckoning_0 {G : Gx} {K : Kx} {n : Nat} {M : Mem} {Q : Int → Mem → Prop} {o : Nat}  (h0 : oc o = 7) (T : (M 2 2 0 = 3 → OkI G n mX9_byteAt [vO 2, vI (M 2 3 0)] M (fun r_1 M1 => ((r_1 < 42 ∨ 47 < r_1) → Q (-1) M1) ∧ (r_1 = 42 → Q 12 M1) ∧ (r_1 = 43 → Q 10 M1) ∧ (r_1 = 44 → Q (-1) M1) ∧ (r_1 = 45 → Q 11 M1) ∧ (r_1 = 46 → Q (-1) M1) ∧ (r_1 = 47 → Q 13 M1))) ∧ (¬ (M 2 2 0 = 3) → Q (-1) M)) : CW G K mX7_reckoning (n + 1) 0 [some (vO o)] [] M (qI Q) := by
  refine r_aload_n dX7_reckoning_0 rfl ?_
  refine r_getO (o' := 2) dX7_reckoning_1 fX7_9 h0 tX7_0 (by simp [lk, h0]) ?_
  refine r_getI dX7_reckoning_4 fX7_57 rfl tX9_2 ?_
  refine r_iconst dX7_reckoning_7 (by decide) ?_
  refine r_icmp_eq (tgt := 13) dX7_reckoning_8 (by decide) (fun h_1 => ?_) (fun h_1 => ?_)
  · have T := T.1 h_1
    refine r_aload_n dX7_reckoning_13 rfl ?_
    refine r_getO (o' := 2) dX7_reckoning_14 fX7_9 h0 tX7_0 (by simp [lk, h0]) ?_
    refine r_aload_n dX7_reckoning_17 rfl ?_
    refine r_getO (o' := 2) dX7_reckoning_18 fX7_9 h0 tX7_0 (by simp [lk, h0]) ?_
    refine r_getI dX7_reckoning_21 fX7_121 rfl tX9_3 ?_
    refine r_callVI (md' := mX9_byteAt) (as := [vI (M 2 3 0)]) dX7_reckoning_24 lX7_124 iX9_byteAt rfl rfl rfl (Nat.le_of_ble_eq_true rfl) T (fun r_1 M1 T => ?_)
    refine r_tsw (td := 76) (tg := [70, 64, 76, 67, 76, 73]) dX7_reckoning_27 (by decide) (by decide) (by decide) (fun h_ => ?_) (fun j t ht hx => ?_)
    · have T := T.1 h_
      refine r_iconst dX7_reckoning_76 (by decide) ?_
      exact r_ireturn dX7_reckoning_77 rfl ⟨_, rfl, T⟩
    · match j, ht, hx with
      | 0, ht, hx =>
        cases ht
        have T := T.2.1 (by omega)
        refine r_bipush dX7_reckoning_70 (by decide) (by decide) ?_
        exact r_ireturn dX7_reckoning_72 rfl ⟨_, rfl, T⟩
      | 1, ht, hx =>
        cases ht
        have T := T.2.2.1 (by omega)
        refine r_bipush dX7_reckoning_64 (by decide) (by decide) ?_
        exact r_ireturn dX7_reckoning_66 rfl ⟨_, rfl, T⟩
      | 2, ht, hx =>
        cases ht
        have T := T.2.2.2.1 (by omega)
        refine r_iconst dX7_reckoning_76 (by decide) ?_
        exact r_ireturn dX7_reckoning_77 rfl ⟨_, rfl, T⟩
      | 3, ht, hx =>
        cases ht
        have T := T.2.2.2.2.1 (by omega)
        refine r_bipush dX7_reckoning_67 (by decide) (by decide) ?_
        exact r_ireturn dX7_reckoning_69 rfl ⟨_, rfl, T⟩
      | 4, ht, hx =>
        cases ht
        have T := T.2.2.2.2.2.1 (by omega)
        refine r_iconst dX7_reckoning_76 (by decide) ?_
        exact r_ireturn dX7_reckoning_77 rfl ⟨_, rfl, T⟩
      | 5, ht, hx =>
        cases ht
        have T := T.2.2.2.2.2.2 (by omega)
        refine r_bipush dX7_reckoning_73 (by decide) (by decide) ?_
        exact r_ireturn dX7_reckoning_75 rfl ⟨_, rfl, T⟩
      | j + 6, ht, hx => exact absurd ht (by simp)
  · have T := T.2 h_1
    refine r_iconst dX7_reckoning_11 (by decide) ?_
    exact r_ireturn dX7_reckoning_12 rfl ⟨_, rfl, T⟩
theorem eX7_reckoning {G : Gx} {n : Nat} {M : Mem} {Q : Int → Mem → Prop} {o : Nat}  (h : ∀ K : Kx, CW G K mX7_reckoning n 0 [some (vO o)] [] M (qI Q)) : OkI G n mX7_reckoning [vO o] M Q := Ok_of (by decide) (Nat.le_of_ble_eq_true rfl) rfl h
-- DownOnly$RuleReader readValue ()Z
set_option maxRecDepth 20000 in
set_option maxHeartbeats 1000000 in
theorem bX7_readValue_0 {G : Gx} {K : Kx} {n : Nat} {M : Mem} {Q : Int → Mem → Prop} {o : Nat}  (h0 : oc o = 7) (h1 : oc (o - 6) = 6) (T : OkI G n mX7_valueWord [vO o] M (fun r_1 M1 => (¬ r_1 = (-1) → OkI G n mX7_countPart [vO o] M1 (fun r_2 M2 => (¬ r_2 = 0 → OkV G n mX9_advance [vO 2] M2 (fun M3 => OkI G n mX6_put [vO (o - 6), vI r_1] M3 (fun r_3 M4 => (r_3 = 0 ∨ r_3 = 1) ∧ Q r_3 M4))) ∧ (r_2 = 0 → Q 0 M2))) ∧ (r_1 = (-1) → OkI G n mX9_isNumber [vO 2, vI 0, vI 99999] M1 (fun r_4 M5 => (¬ r_4 = 0 → OkI G n mX7_countPart [vO o] M5 (fun r_5 M6 => (¬ r_5 = 0 → OkV G n mX9_advance [vO 2] M6 (fun M7 => OkI G n mX6_put [vO (o - 6), vI (wr (100 + (M5 2 6 0)))] M7 (fun r_6 M8 => (r_6 = 0 ∨ r_6 = 1) ∧ Q r_6 M8))) ∧ (r_5 = 0 → Q 0 M6))) ∧ (r_4 = 0 → Q 0 M5))))) : CW G K mX7_readValue (n + 1) 0 [some (vO o), none] [] M (qI Q) := by
  refine r_aload_n dX7_readValue_0 rfl ?_
  refine r_callVI (md' := mX7_valueWord) (as := []) dX7_readValue_1 lX7_134 iX7_valueWord h0 rfl rfl (Nat.le_of_ble_eq_true rfl) T (fun r_1 M1 T => ?_)
  refine r_istore_n dX7_readValue_4 (by decide) rfl ?_
  refine r_iload_n dX7_readValue_5 rfl ?_
  refine r_iconst dX7_readValue_6 (by decide) ?_
  refine r_icmp_ne (tgt := 36) dX7_readValue_7 (by decide) (fun h_4 => ?_) (fun h_4 => ?_)
  · have T := T.1 h_4
    refine r_aload_n dX7_readValue_36 rfl ?_
    refine r_callVI (md' := mX7_countPart) (as := []) dX7_readValue_37 lX7_116 iX7_countPart h0 rfl rfl (Nat.le_of_ble_eq_true rfl) T (fun r_2 M2 T => ?_)
    refine r_if_ne (tgt := 45) dX7_readValue_40 (by decide) (fun h_1 => ?_) (fun h_1 => ?_)
    · have T := T.1 h_1
      refine r_aload_n dX7_readValue_45 rfl ?_
      refine r_getO (o' := 2) dX7_readValue_46 fX7_9 h0 tX7_0 (by simp [lk, h0]) ?_
      refine r_callVV (md' := mX9_advance) (as := []) dX7_readValue_49 lX7_47 iX9_advance rfl rfl rfl (Nat.le_of_ble_eq_true rfl) T (fun M3 T => ?_)
      refine r_aload_n dX7_readValue_52 rfl ?_
      refine r_getO (o' := o - 6) dX7_readValue_53 fX7_15 h0 tX7_1 (by simp [lk, h0]) ?_
      refine r_iload_n dX7_readValue_56 rfl ?_
      refine r_callVI (md' := mX6_put) (as := [vI r_1]) dX7_readValue_57 lX7_92 iX6_put h1 rfl rfl (Nat.le_of_ble_eq_true rfl) T (fun r_3 M4 T => ?_)
      exact r_zreturn dX7_readValue_60 rfl T.1 ⟨_, rfl, T.2⟩
    · have T := T.2 h_1
      refine r_iconst dX7_readValue_43 (by decide) ?_
      exact r_zreturn dX7_readValue_44 rfl (by decide) ⟨_, rfl, T⟩
  · have T := T.2 h_4
    refine r_aload_n dX7_readValue_10 rfl ?_
    refine r_getO (o' := 2) dX7_readValue_11 fX7_9 h0 tX7_0 (by simp [lk, h0]) ?_
    refine r_iconst dX7_readValue_14 (by decide) ?_
    refine r_ldc (z := 99999) dX7_readValue_15 kX7_137 (by decide) (by decide) ?_
    refine r_callVI (md' := mX9_isNumber) (as := [vI 0, vI 99999]) dX7_readValue_17 lX7_79 iX9_isNumber rfl rfl rfl (Nat.le_of_ble_eq_true rfl) T (fun r_4 M5 T => ?_)
    refine r_if_ne (tgt := 25) dX7_readValue_20 (by decide) (fun h_3 => ?_) (fun h_3 => ?_)
    · have T := T.1 h_3
      refine r_bipush dX7_readValue_25 (by decide) (by decide) ?_
      refine r_aload_n dX7_readValue_27 rfl ?_
      refine r_getO (o' := 2) dX7_readValue_28 fX7_9 h0 tX7_0 (by simp [lk, h0]) ?_
      refine r_getI dX7_readValue_31 fX7_138 rfl tX9_6 ?_
      refine r_iadd dX7_readValue_34 ?_
      refine r_istore_n dX7_readValue_35 (by decide) rfl ?_
      refine r_aload_n dX7_readValue_36 rfl ?_
      refine r_callVI (md' := mX7_countPart) (as := []) dX7_readValue_37 lX7_116 iX7_countPart h0 rfl rfl (Nat.le_of_ble_eq_true rfl) T (fun r_5 M6 T => ?_)
      refine r_if_ne (tgt := 45) dX7_readValue_40 (by decide) (fun h_2 => ?_) (fun h_2 => ?_)
      · have T := T.1 h_2
        refine r_aload_n dX7_readValue_45 rfl ?_
        refine r_getO (o' := 2) dX7_readValue_46 fX7_9 h0 tX7_0 (by simp [lk, h0]) ?_
        refine r_callVV (md' := mX9_advance) (as := []) dX7_readValue_49 lX7_47 iX9_advance rfl rfl rfl (Nat.le_of_ble_eq_true rfl) T (fun M7 T => ?_)
        refine r_aload_n dX7_readValue_52 rfl ?_
        refine r_getO (o' := o - 6) dX7_readValue_53 fX7_15 h0 tX7_1 (by simp [lk, h0]) ?_
        refine r_iload_n dX7_readValue_56 rfl ?_
        refine r_callVI (md' := mX6_put) (as := [vI (wr (100 + (M5 2 6 0)))]) dX7_readValue_57 lX7_92 iX6_put h1 rfl rfl (Nat.le_of_ble_eq_true rfl) T (fun r_6 M8 T => ?_)
        exact r_zreturn dX7_readValue_60 rfl T.1 ⟨_, rfl, T.2⟩
      · have T := T.2 h_2
        refine r_iconst dX7_readValue_43 (by decide) ?_
        exact r_zreturn dX7_readValue_44 rfl (by decide) ⟨_, rfl, T⟩
    · have T := T.2 h_3
      refine r_iconst dX7_readValue_23 (by decide) ?_
      exact r_zreturn dX7_readValue_24 rfl (by decide) ⟨_, rfl, T⟩
theorem eX7_readValue {G : Gx} {n : Nat} {M : Mem} {Q : Int → Mem → Prop} {o : Nat}  (h : ∀ K : Kx, CW G K mX7_readValue n 0 [some (vO o), none] [] M (qI Q)) : OkI G n mX7_readValue [vO o] M Q := Ok_of (by decide) (Nat.le_of_ble_eq_true rfl) rfl h
-- DownOnly$RuleReader valueWord ()I
set_option maxRecDepth 20000 in
set_option maxHeartbeats 1000000 in
theorem bX7_valueWord_0 {G : Gx} {K : Kx} {n : Nat} {M : Mem} {Q : Int → Mem → Prop} {o : Nat}  (h0 : oc o = 7) (T : OkI G n mX9_isWord [vO 2, vO (1000 + 13)] M (fun r_1 M1 => (r_1 = 0 → OkI G n mX9_isWord [vO 2, vO (1000 + 5)] M1 (fun r_2 M2 => (r_2 = 0 → OkI G n mX9_isWord [vO 2, vO (1000 + 0)] M2 (fun r_3 M3 => (r_3 = 0 → OkI G n mX9_isWord [vO 2, vO (1000 + 14)] M3 (fun r_4 M4 => (r_4 = 0 → OkI G n mX9_isWord [vO 2, vO (1000 + 15)] M4 (fun r_5 M5 => (r_5 = 0 → OkI G n mX9_isWord [vO 2, vO (1000 + 16)] M5 (fun r_6 M6 => (r_6 = 0 → OkI G n mX9_isWord [vO 2, vO (1000 + 17)] M6 (fun r_7 M7 => (r_7 = 0 → OkI G n mX9_isWord [vO 2, vO (1000 + 18)] M7 (fun r_8 M8 => (r_8 = 0 → Q (-1) M8) ∧ (¬ (r_8 = 0) → Q 7 M8))) ∧ (¬ (r_7 = 0) → Q 6 M7))) ∧ (¬ (r_6 = 0) → Q 5 M6))) ∧ (¬ (r_5 = 0) → Q 4 M5))) ∧ (¬ (r_4 = 0) → Q 3 M4))) ∧ (¬ (r_3 = 0) → Q 2 M3))) ∧ (¬ (r_2 = 0) → Q 1 M2))) ∧ (¬ (r_1 = 0) → Q 0 M1))) : CW G K mX7_valueWord (n + 1) 0 [some (vO o)] [] M (qI Q) := by
  refine r_aload_n dX7_valueWord_0 rfl ?_
  refine r_getO (o' := 2) dX7_valueWord_1 fX7_9 h0 tX7_0 (by simp [lk, h0]) ?_
  refine r_lds (j := 13) dX7_valueWord_4 sX7_141 ?_
  refine r_callVI (md' := mX9_isWord) (as := [vO (1000 + 13)]) dX7_valueWord_6 lX7_43 iX9_isWord rfl rfl rfl (Nat.le_of_ble_eq_true rfl) T (fun r_1 M1 T => ?_)
  refine r_if_eq (tgt := 14) dX7_valueWord_9 (by decide) (fun h_8 => ?_) (fun h_8 => ?_)
  · have T := T.1 h_8
    refine r_aload_n dX7_valueWord_14 rfl ?_
    refine r_getO (o' := 2) dX7_valueWord_15 fX7_9 h0 tX7_0 (by simp [lk, h0]) ?_
    refine r_lds (j := 5) dX7_valueWord_18 sX7_143 ?_
    refine r_callVI (md' := mX9_isWord) (as := [vO (1000 + 5)]) dX7_valueWord_20 lX7_43 iX9_isWord rfl rfl rfl (Nat.le_of_ble_eq_true rfl) T (fun r_2 M2 T => ?_)
    refine r_if_eq (tgt := 28) dX7_valueWord_23 (by decide) (fun h_7 => ?_) (fun h_7 => ?_)
    · have T := T.1 h_7
      refine r_aload_n dX7_valueWord_28 rfl ?_
      refine r_getO (o' := 2) dX7_valueWord_29 fX7_9 h0 tX7_0 (by simp [lk, h0]) ?_
      refine r_lds (j := 0) dX7_valueWord_32 sX7_145 ?_
      refine r_callVI (md' := mX9_isWord) (as := [vO (1000 + 0)]) dX7_valueWord_34 lX7_43 iX9_isWord rfl rfl rfl (Nat.le_of_ble_eq_true rfl) T (fun r_3 M3 T => ?_)
      refine r_if_eq (tgt := 42) dX7_valueWord_37 (by decide) (fun h_6 => ?_) (fun h_6 => ?_)
      · have T := T.1 h_6
        refine r_aload_n dX7_valueWord_42 rfl ?_
        refine r_getO (o' := 2) dX7_valueWord_43 fX7_9 h0 tX7_0 (by simp [lk, h0]) ?_
        refine r_lds (j := 14) dX7_valueWord_46 sX7_147 ?_
        refine r_callVI (md' := mX9_isWord) (as := [vO (1000 + 14)]) dX7_valueWord_48 lX7_43 iX9_isWord rfl rfl rfl (Nat.le_of_ble_eq_true rfl) T (fun r_4 M4 T => ?_)
        refine r_if_eq (tgt := 56) dX7_valueWord_51 (by decide) (fun h_5 => ?_) (fun h_5 => ?_)
        · have T := T.1 h_5
          refine r_aload_n dX7_valueWord_56 rfl ?_
          refine r_getO (o' := 2) dX7_valueWord_57 fX7_9 h0 tX7_0 (by simp [lk, h0]) ?_
          refine r_lds (j := 15) dX7_valueWord_60 sX7_149 ?_
          refine r_callVI (md' := mX9_isWord) (as := [vO (1000 + 15)]) dX7_valueWord_62 lX7_43 iX9_isWord rfl rfl rfl (Nat.le_of_ble_eq_true rfl) T (fun r_5 M5 T => ?_)
          refine r_if_eq (tgt := 70) dX7_valueWord_65 (by decide) (fun h_4 => ?_) (fun h_4 => ?_)
          · have T := T.1 h_4
            refine r_aload_n dX7_valueWord_70 rfl ?_
            refine r_getO (o' := 2) dX7_valueWord_71 fX7_9 h0 tX7_0 (by simp [lk, h0]) ?_
            refine r_lds (j := 16) dX7_valueWord_74 sX7_151 ?_
            refine r_callVI (md' := mX9_isWord) (as := [vO (1000 + 16)]) dX7_valueWord_76 lX7_43 iX9_isWord rfl rfl rfl (Nat.le_of_ble_eq_true rfl) T (fun r_6 M6 T => ?_)
            refine r_if_eq (tgt := 84) dX7_valueWord_79 (by decide) (fun h_3 => ?_) (fun h_3 => ?_)
            · have T := T.1 h_3
              refine r_aload_n dX7_valueWord_84 rfl ?_
              refine r_getO (o' := 2) dX7_valueWord_85 fX7_9 h0 tX7_0 (by simp [lk, h0]) ?_
              refine r_lds (j := 17) dX7_valueWord_88 sX7_153 ?_
              refine r_callVI (md' := mX9_isWord) (as := [vO (1000 + 17)]) dX7_valueWord_90 lX7_43 iX9_isWord rfl rfl rfl (Nat.le_of_ble_eq_true rfl) T (fun r_7 M7 T => ?_)
              refine r_if_eq (tgt := 99) dX7_valueWord_93 (by decide) (fun h_2 => ?_) (fun h_2 => ?_)
              · have T := T.1 h_2
                refine r_aload_n dX7_valueWord_99 rfl ?_
                refine r_getO (o' := 2) dX7_valueWord_100 fX7_9 h0 tX7_0 (by simp [lk, h0]) ?_
                refine r_lds (j := 18) dX7_valueWord_103 sX7_155 ?_
                refine r_callVI (md' := mX9_isWord) (as := [vO (1000 + 18)]) dX7_valueWord_105 lX7_43 iX9_isWord rfl rfl rfl (Nat.le_of_ble_eq_true rfl) T (fun r_8 M8 T => ?_)
                refine r_if_eq (tgt := 116) dX7_valueWord_108 (by decide) (fun h_1 => ?_) (fun h_1 => ?_)
                · have T := T.1 h_1
                  refine r_iconst dX7_valueWord_116 (by decide) ?_
                  exact r_ireturn dX7_valueWord_117 rfl ⟨_, rfl, T⟩
                · have T := T.2 h_1
                  refine r_bipush dX7_valueWord_111 (by decide) (by decide) ?_
                  refine r_goto (tgt := 117) dX7_valueWord_113 (by decide) ?_
                  exact r_ireturn dX7_valueWord_117 rfl ⟨_, rfl, T⟩
              · have T := T.2 h_2
                refine r_bipush dX7_valueWord_96 (by decide) (by decide) ?_
                exact r_ireturn dX7_valueWord_98 rfl ⟨_, rfl, T⟩
            · have T := T.2 h_3
              refine r_iconst dX7_valueWord_82 (by decide) ?_
              exact r_ireturn dX7_valueWord_83 rfl ⟨_, rfl, T⟩
          · have T := T.2 h_4
            refine r_iconst dX7_valueWord_68 (by decide) ?_
            exact r_ireturn dX7_valueWord_69 rfl ⟨_, rfl, T⟩
        · have T := T.2 h_5
          refine r_iconst dX7_valueWord_54 (by decide) ?_
          exact r_ireturn dX7_valueWord_55 rfl ⟨_, rfl, T⟩
      · have T := T.2 h_6
        refine r_iconst dX7_valueWord_40 (by decide) ?_
        exact r_ireturn dX7_valueWord_41 rfl ⟨_, rfl, T⟩
    · have T := T.2 h_7
      refine r_iconst dX7_valueWord_26 (by decide) ?_
      exact r_ireturn dX7_valueWord_27 rfl ⟨_, rfl, T⟩
  · have T := T.2 h_8
    refine r_iconst dX7_valueWord_12 (by decide) ?_
    exact r_ireturn dX7_valueWord_13 rfl ⟨_, rfl, T⟩
theorem eX7_valueWord {G : Gx} {n : Nat} {M : Mem} {Q : Int → Mem → Prop} {o : Nat}  (h : ∀ K : Kx, CW G K mX7_valueWord n 0 [some (vO o)] [] M (qI Q)) : OkI G n mX7_valueWord [vO o] M Q := Ok_of (by decide) (Nat.le_of_ble_eq_true rfl) rfl h
-- DownOnly$RuleReader countPart ()Z
set_option maxRecDepth 20000 in
set_option maxHeartbeats 1000000 in
theorem bX7_countPart_0 {G : Gx} {K : Kx} {n : Nat} {M : Mem} {Q : Int → Mem → Prop} {o : Nat}  (h0 : oc o = 7) (T : ∀ M1 : Mem, M1 = mset M o 2 0 (wr (M o 2 0 + 1)) → (M1 o 2 0 ≤ 60 → Q 1 M1) ∧ (¬ (M1 o 2 0 ≤ 60) → OkI G n mX9_refuse [vO 2, vI 3] M1 (fun r_1 M2 => (r_1 = 0 → Q 0 M2) ∧ (¬ (r_1 = 0) → Q 1 M2)))) : CW G K mX7_countPart (n + 1) 0 [some (vO o)] [] M (qI Q) := by
  refine r_aload_n dX7_countPart_0 rfl ?_
  refine r_dup dX7_countPart_1 rfl ?_
  refine r_getI dX7_countPart_2 fX7_157 h0 tX7_2 ?_
  refine r_iconst dX7_countPart_5 (by decide) ?_
  refine r_iadd dX7_countPart_6 ?_
  refine n_put dX7_countPart_7 pX7_157 h0 tX7_2 (fun M1 hM1 => ?_)
  have T := T M1 hM1
  refine r_aload_n dX7_countPart_10 rfl ?_
  refine r_getI dX7_countPart_11 fX7_157 h0 tX7_2 ?_
  refine r_bipush dX7_countPart_14 (by decide) (by decide) ?_
  refine r_icmp_le (tgt := 30) dX7_countPart_16 (by decide) (fun h_2 => ?_) (fun h_2 => ?_)
  · have T := T.1 h_2
    refine r_iconst dX7_countPart_30 (by decide) ?_
    refine r_goto (tgt := 35) dX7_countPart_31 (by decide) ?_
    exact r_zreturn dX7_countPart_35 rfl (by decide) ⟨_, rfl, T⟩
  · have T := T.2 h_2
    refine r_aload_n dX7_countPart_19 rfl ?_
    refine r_getO (o' := 2) dX7_countPart_20 fX7_9 h0 tX7_0 (by simp [lk, h0]) ?_
    refine r_iconst dX7_countPart_23 (by decide) ?_
    refine r_callVI (md' := mX9_refuse) (as := [vI 3]) dX7_countPart_24 lX7_64 iX9_refuse rfl rfl rfl (Nat.le_of_ble_eq_true rfl) T (fun r_1 M2 T => ?_)
    refine r_if_eq (tgt := 34) dX7_countPart_27 (by decide) (fun h_1 => ?_) (fun h_1 => ?_)
    · have T := T.1 h_1
      refine r_iconst dX7_countPart_34 (by decide) ?_
      exact r_zreturn dX7_countPart_35 rfl (by decide) ⟨_, rfl, T⟩
    · have T := T.2 h_1
      refine r_iconst dX7_countPart_30 (by decide) ?_
      refine r_goto (tgt := 35) dX7_countPart_31 (by decide) ?_
      exact r_zreturn dX7_countPart_35 rfl (by decide) ⟨_, rfl, T⟩
theorem eX7_countPart {G : Gx} {n : Nat} {M : Mem} {Q : Int → Mem → Prop} {o : Nat}  (h : ∀ K : Kx, CW G K mX7_countPart n 0 [some (vO o)] [] M (qI Q)) : OkI G n mX7_countPart [vO o] M Q := Ok_of (by decide) (Nat.le_of_ble_eq_true rfl) rfl h
-- DownOnly feed (IIIII)I
set_option maxRecDepth 20000 in
set_option maxHeartbeats 1000000 in
theorem bX11_feed_0 {G : Gx} {K : Kx} {n : Nat} {M : Mem} {Q : Int → Mem → Prop}  {x1 : Int} {x2 : Int} {x3 : Int} {x4 : Int} {x5 : Int}  (T : (wr (M 2 1 0 + 20) ≤ 400 → OkV G n mX9_append [vO 2, vI x1] M (fun M1 => OkV G n mX9_append [vO 2, vI x2] M1 (fun M2 => OkV G n mX9_append [vO 2, vI x3] M2 (fun M3 => OkV G n mX9_append [vO 2, vI x4] M3 (fun M4 => OkV G n mX9_append [vO 2, vI x5] M4 (fun M5 => Q (M5 2 1 0) M5)))))) ∧ (¬ (wr (M 2 1 0 + 20) ≤ 400) → Q (-1) M)) : CW G K mX11_feed (n + 1) 0 [some (vO 1), some (vI x1), some (vI x2), some (vI x3), some (vI x4), some (vI x5)] [] M (qI Q) := by
  refine r_aload_n dX11_feed_0 rfl ?_
  refine r_getO (o' := 2) dX11_feed_1 fX11_10 rfl tX11_0 rfl ?_
  refine r_getI dX11_feed_4 fX11_83 rfl tX9_1 ?_
  refine r_bipush dX11_feed_7 (by decide) (by decide) ?_
  refine r_iadd dX11_feed_9 ?_
  refine r_sipush dX11_feed_10 (by decide) (by decide) ?_
  refine r_icmp_le (tgt := 18) dX11_feed_13 (by decide) (fun h_1 => ?_) (fun h_1 => ?_)
  · have T := T.1 h_1
    refine r_aload_n dX11_feed_18 rfl ?_
    refine r_getO (o' := 2) dX11_feed_19 fX11_10 rfl tX11_0 rfl ?_
    refine r_iload_n dX11_feed_22 rfl ?_
    refine r_callVV (md' := mX9_append) (as := [vI x1]) dX11_feed_23 lX11_87 iX9_append rfl rfl rfl (Nat.le_of_ble_eq_true rfl) T (fun M1 T => ?_)
    refine r_aload_n dX11_feed_26 rfl ?_
    refine r_getO (o' := 2) dX11_feed_27 fX11_10 rfl tX11_0 rfl ?_
    refine r_iload_n dX11_feed_30 rfl ?_
    refine r_callVV (md' := mX9_append) (as := [vI x2]) dX11_feed_31 lX11_87 iX9_append rfl rfl rfl (Nat.le_of_ble_eq_true rfl) T (fun M2 T => ?_)
    refine r_aload_n dX11_feed_34 rfl ?_
    refine r_getO (o' := 2) dX11_feed_35 fX11_10 rfl tX11_0 rfl ?_
    refine r_iload_n dX11_feed_38 rfl ?_
    refine r_callVV (md' := mX9_append) (as := [vI x3]) dX11_feed_39 lX11_87 iX9_append rfl rfl rfl (Nat.le_of_ble_eq_true rfl) T (fun M3 T => ?_)
    refine r_aload_n dX11_feed_42 rfl ?_
    refine r_getO (o' := 2) dX11_feed_43 fX11_10 rfl tX11_0 rfl ?_
    refine r_iload dX11_feed_46 rfl ?_
    refine r_callVV (md' := mX9_append) (as := [vI x4]) dX11_feed_48 lX11_87 iX9_append rfl rfl rfl (Nat.le_of_ble_eq_true rfl) T (fun M4 T => ?_)
    refine r_aload_n dX11_feed_51 rfl ?_
    refine r_getO (o' := 2) dX11_feed_52 fX11_10 rfl tX11_0 rfl ?_
    refine r_iload dX11_feed_55 rfl ?_
    refine r_callVV (md' := mX9_append) (as := [vI x5]) dX11_feed_57 lX11_87 iX9_append rfl rfl rfl (Nat.le_of_ble_eq_true rfl) T (fun M5 T => ?_)
    refine r_aload_n dX11_feed_60 rfl ?_
    refine r_getO (o' := 2) dX11_feed_61 fX11_10 rfl tX11_0 rfl ?_
    refine r_getI dX11_feed_64 fX11_83 rfl tX9_1 ?_
    exact r_ireturn dX11_feed_67 rfl ⟨_, rfl, T⟩
  · have T := T.2 h_1
    refine r_iconst dX11_feed_16 (by decide) ?_
    exact r_ireturn dX11_feed_17 rfl ⟨_, rfl, T⟩
theorem eX11_feed {G : Gx} {n : Nat} {M : Mem} {Q : Int → Mem → Prop}  {x1 : Int} {x2 : Int} {x3 : Int} {x4 : Int} {x5 : Int} (h : ∀ K : Kx, CW G K mX11_feed n 0 [some (vO 1), some (vI x1), some (vI x2), some (vI x3), some (vI x4), some (vI x5)] [] M (qI Q)) : OkI G n mX11_feed [vO 1, vI x1, vI x2, vI x3, vI x4, vI x5] M Q := Ok_of (by decide) (Nat.le_of_ble_eq_true rfl) rfl h
