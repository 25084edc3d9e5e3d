-- DownOnlyModel downs (III)I
set_option maxRecDepth 20000 in
set_option maxHeartbeats 1000000 in
theorem bX12_downs_0 {G : Gx} {K : Kx} {n : Nat} {M : Mem} {Q : Int → Mem → Prop}  {x1 : Int} {x2 : Int} {x3 : Int}  (T : OkI G n mX12_isRoom [vO 0, vI x1] M (fun r_1 M1 => (r_1 = 0 → Q (-1) M1) ∧ (¬ (r_1 = 0) → OkI G n mX12_isRoom [vO 0, vI x2] M1 (fun r_2 M2 => (r_2 = 0 → Q (-1) M2) ∧ (¬ (r_2 = 0) → OkI G n mX12_in [vL x3, vL 0, vL 2] M2 (fun r_3 M3 => (¬ r_3 = 0 → OkV G n mX12_descends [vO 0, vI x2] M3 (fun M4 => (¬ x3 = 0 → (0 ≤ x1 ∧ x1 < 16) ∧ ((0 ≤ M4 0 31 x1.toNat → (¬ x3 = 1 → CW G K mX12_downs (n + 1) 73 [some (vO 0), some (vI x1), none, none, some (vI 0)] [] M4 (qI Q)) ∧ (x3 = 1 → (0 ≤ x1 ∧ x1 < 16) ∧ (Q (M4 0 31 x1.toNat) M4))) ∧ (¬ (0 ≤ M4 0 31 x1.toNat) → Q (-2) M4))) ∧ (x3 = 0 → (0 ≤ x1 ∧ x1 < 16) ∧ (Q (M4 0 30 x1.toNat) M4)))) ∧ (r_3 = 0 → Q (-1) M3))))))) : CW G K mX12_downs (n + 1) 0 [some (vO 0), some (vI x1), some (vI x2), some (vI x3), none] [] M (qI Q) := by
  refine r_aload_n dX12_downs_0 rfl ?_
  refine r_iload_n dX12_downs_1 rfl ?_
  refine r_callVI (md' := mX12_isRoom) (as := [vI x1]) dX12_downs_2 lX12_325 iX12_isRoom rfl rfl rfl (Nat.le_of_ble_eq_true rfl) T (fun r_1 M1 T => ?_)
  refine r_if_eq (tgt := 28) dX12_downs_5 (by decide) (fun h_6 => ?_) (fun h_6 => ?_)
  · have T := T.1 h_6
    refine r_iconst dX12_downs_28 (by decide) ?_
    exact r_ireturn dX12_downs_29 rfl ⟨_, rfl, T⟩
  · have T := T.2 h_6
    refine r_aload_n dX12_downs_8 rfl ?_
    refine r_iload_n dX12_downs_9 rfl ?_
    refine r_callVI (md' := mX12_isRoom) (as := [vI x2]) dX12_downs_10 lX12_325 iX12_isRoom rfl rfl rfl (Nat.le_of_ble_eq_true rfl) T (fun r_2 M2 T => ?_)
    refine r_if_eq (tgt := 28) dX12_downs_13 (by decide) (fun h_5 => ?_) (fun h_5 => ?_)
    · have T := T.1 h_5
      refine r_iconst dX12_downs_28 (by decide) ?_
      exact r_ireturn dX12_downs_29 rfl ⟨_, rfl, T⟩
    · have T := T.2 h_5
      refine r_iload_n dX12_downs_16 rfl ?_
      refine r_i2l dX12_downs_17 ?_
      refine r_lconst (z := 0) dX12_downs_18 (by decide) (by decide) ?_
      refine r_ldc2 (z := 2) dX12_downs_19 kX12_328 (by decide) (by decide) ?_
      refine r_callSI (md' := mX12_in) (as := [vL x3, vL 0, vL 2]) dX12_downs_22 lX12_148 iX12_in rfl rfl (Nat.le_of_ble_eq_true rfl) T (fun r_3 M3 T => ?_)
      refine r_if_ne (tgt := 30) dX12_downs_25 (by decide) (fun h_4 => ?_) (fun h_4 => ?_)
      · have T := T.1 h_4
        refine r_aload_n dX12_downs_30 rfl ?_
        refine r_iload_n dX12_downs_31 rfl ?_
        refine r_callVV (md' := mX12_descends) (as := [vI x2]) dX12_downs_32 lX12_426 iX12_descends rfl rfl rfl (Nat.le_of_ble_eq_true rfl) T (fun M4 T => ?_)
        refine r_iload_n dX12_downs_35 rfl ?_
        refine r_if_ne (tgt := 46) dX12_downs_36 (by decide) (fun h_3 => ?_) (fun h_3 => ?_)
        · have T := T.1 h_3
          refine r_aload_n dX12_downs_46 rfl ?_
          refine r_getA dX12_downs_47 fX12_64 rfl uX12_31 ?_
          refine r_iload_n dX12_downs_50 rfl ?_
          refine s_iald dX12_downs_51 rfl tX12_31 aX12_31 T.1 ?_
          have T := T.2
          refine r_if_ge (tgt := 58) dX12_downs_52 (by decide) (fun h_2 => ?_) (fun h_2 => ?_)
          · have T := T.1 h_2
            refine r_iload_n dX12_downs_58 rfl ?_
            refine r_iconst dX12_downs_59 (by decide) ?_
            refine r_icmp_ne (tgt := 70) dX12_downs_60 (by decide) (fun h_1 => ?_) (fun h_1 => ?_)
            · have T := T.1 h_1
              refine r_iconst dX12_downs_70 (by decide) ?_
              refine r_istore dX12_downs_71 (by decide) rfl ?_
              exact CW_msk [true, true, false, false, true] rfl T
            · have T := T.2 h_1
              refine r_aload_n dX12_downs_63 rfl ?_
              refine r_getA dX12_downs_64 fX12_64 rfl uX12_31 ?_
              refine r_iload_n dX12_downs_67 rfl ?_
              refine s_iald dX12_downs_68 rfl tX12_31 aX12_31 T.1 ?_
              have T := T.2
              exact r_ireturn dX12_downs_69 rfl ⟨_, rfl, T⟩
          · have T := T.2 h_2
            refine r_bipush dX12_downs_55 (by decide) (by decide) ?_
            exact r_ireturn dX12_downs_57 rfl ⟨_, rfl, T⟩
        · have T := T.2 h_3
          refine r_aload_n dX12_downs_39 rfl ?_
          refine r_getA dX12_downs_40 fX12_61 rfl uX12_30 ?_
          refine r_iload_n dX12_downs_43 rfl ?_
          refine s_iald dX12_downs_44 rfl tX12_30 aX12_30 T.1 ?_
          have T := T.2
          exact r_ireturn dX12_downs_45 rfl ⟨_, rfl, T⟩
      · have T := T.2 h_4
        refine r_iconst dX12_downs_28 (by decide) ?_
        exact r_ireturn dX12_downs_29 rfl ⟨_, rfl, T⟩
set_option maxRecDepth 20000 in
set_option maxHeartbeats 1000000 in
theorem bX12_downs_73 {G : Gx} {K : Kx} {n : Nat} {M : Mem} {Q : Int → Mem → Prop}  {x1 : Int} {x4 : Int}  (T : (M 0 26 1 ≤ x4 → Q (-2) M) ∧ (¬ (M 0 26 1 ≤ x4) → OkI G n mX12_wayOf [vO 0, vI x4, vI 3] M (fun r_1 M1 => (¬ r_1 = 0 → CW G K mX12_downs (n + 1) 73 [some (vO 0), some (vI x1), none, none, some (vI (wr (x4 + 1)))] [] M1 (qI Q)) ∧ (r_1 = 0 → OkI G n mX12_wayOf [vO 0, vI x4, vI 0] M1 (fun r_2 M2 => (¬ r_2 = x1 → CW G K mX12_downs (n + 1) 73 [some (vO 0), some (vI x1), none, none, some (vI (wr (x4 + 1)))] [] M2 (qI Q)) ∧ (r_2 = x1 → OkI G n mX12_wayOf [vO 0, vI x4, vI 1] M2 (fun r_3 M3 => (0 ≤ r_3 ∧ r_3 < 16) ∧ ((M3 0 31 r_3.toNat < 0 → CW G K mX12_downs (n + 1) 73 [some (vO 0), some (vI x1), none, none, some (vI (wr (x4 + 1)))] [] M3 (qI Q)) ∧ (¬ (M3 0 31 r_3.toNat < 0) → OkI G n mX12_wayOf [vO 0, vI x4, vI 1] M3 (fun r_4 M4 => (0 ≤ r_4 ∧ r_4 < 16) ∧ ((0 ≤ x1 ∧ x1 < 16) ∧ ((¬ wr (M4 0 31 r_4.toNat + 1) = M4 0 31 x1.toNat → CW G K mX12_downs (n + 1) 73 [some (vO 0), some (vI x1), none, none, some (vI (wr (x4 + 1)))] [] M4 (qI Q)) ∧ (wr (M4 0 31 r_4.toNat + 1) = M4 0 31 x1.toNat → Q x4 M4))))))))))))) : CW G K mX12_downs (n + 1) 73 [some (vO 0), some (vI x1), none, none, some (vI x4)] [] M (qI Q) := by
  refine r_iload dX12_downs_73 rfl ?_
  refine r_aload_n dX12_downs_75 rfl ?_
  refine r_getA dX12_downs_76 fX12_48 rfl uX12_26 ?_
  refine r_iconst dX12_downs_79 (by decide) ?_
  refine s_iald dX12_downs_80 rfl tX12_26 aX12_26 (by decide) ?_
  refine r_icmp_ge (tgt := 152) dX12_downs_81 (by decide) (fun h_5 => ?_) (fun h_5 => ?_)
  · have T := T.1 h_5
    refine r_bipush dX12_downs_152 (by decide) (by decide) ?_
    exact r_ireturn dX12_downs_154 rfl ⟨_, rfl, T⟩
  · have T := T.2 h_5
    refine r_aload_n dX12_downs_84 rfl ?_
    refine r_iload dX12_downs_85 rfl ?_
    refine r_iconst dX12_downs_87 (by decide) ?_
    refine r_callVI (md' := mX12_wayOf) (as := [vI x4, vI 3]) dX12_downs_88 lX12_322 iX12_wayOf rfl rfl rfl (Nat.le_of_ble_eq_true rfl) T (fun r_1 M1 T => ?_)
    refine r_if_ne (tgt := 146) dX12_downs_91 (by decide) (fun h_4 => ?_) (fun h_4 => ?_)
    · have T := T.1 h_4
      refine r_iinc dX12_downs_146 rfl (by decide) rfl ?_
      refine r_goto (tgt := 73) dX12_downs_149 (by decide) ?_
      exact T
    · have T := T.2 h_4
      refine r_aload_n dX12_downs_94 rfl ?_
      refine r_iload dX12_downs_95 rfl ?_
      refine r_iconst dX12_downs_97 (by decide) ?_
      refine r_callVI (md' := mX12_wayOf) (as := [vI x4, vI 0]) dX12_downs_98 lX12_322 iX12_wayOf rfl rfl rfl (Nat.le_of_ble_eq_true rfl) T (fun r_2 M2 T => ?_)
      refine r_iload_n dX12_downs_101 rfl ?_
      refine r_icmp_ne (tgt := 146) dX12_downs_102 (by decide) (fun h_3 => ?_) (fun h_3 => ?_)
      · have T := T.1 h_3
        refine r_iinc dX12_downs_146 rfl (by decide) rfl ?_
        refine r_goto (tgt := 73) dX12_downs_149 (by decide) ?_
        exact T
      · have T := T.2 h_3
        refine r_aload_n dX12_downs_105 rfl ?_
        refine r_getA dX12_downs_106 fX12_64 rfl uX12_31 ?_
        refine r_aload_n dX12_downs_109 rfl ?_
        refine r_iload dX12_downs_110 rfl ?_
        refine r_iconst dX12_downs_112 (by decide) ?_
        refine r_callVI (md' := mX12_wayOf) (as := [vI x4, vI 1]) dX12_downs_113 lX12_322 iX12_wayOf rfl rfl rfl (Nat.le_of_ble_eq_true rfl) T (fun r_3 M3 T => ?_)
        refine s_iald dX12_downs_116 rfl tX12_31 aX12_31 T.1 ?_
        have T := T.2
        refine r_if_lt (tgt := 146) dX12_downs_117 (by decide) (fun h_2 => ?_) (fun h_2 => ?_)
        · have T := T.1 h_2
          refine r_iinc dX12_downs_146 rfl (by decide) rfl ?_
          refine r_goto (tgt := 73) dX12_downs_149 (by decide) ?_
          exact T
        · have T := T.2 h_2
          refine r_aload_n dX12_downs_120 rfl ?_
          refine r_getA dX12_downs_121 fX12_64 rfl uX12_31 ?_
          refine r_aload_n dX12_downs_124 rfl ?_
          refine r_iload dX12_downs_125 rfl ?_
          refine r_iconst dX12_downs_127 (by decide) ?_
          refine r_callVI (md' := mX12_wayOf) (as := [vI x4, vI 1]) dX12_downs_128 lX12_322 iX12_wayOf rfl rfl rfl (Nat.le_of_ble_eq_true rfl) T (fun r_4 M4 T => ?_)
          refine s_iald dX12_downs_131 rfl tX12_31 aX12_31 T.1 ?_
          have T := T.2
          refine r_iconst dX12_downs_132 (by decide) ?_
          refine r_iadd dX12_downs_133 ?_
          refine r_aload_n dX12_downs_134 rfl ?_
          refine r_getA dX12_downs_135 fX12_64 rfl uX12_31 ?_
          refine r_iload_n dX12_downs_138 rfl ?_
          refine s_iald dX12_downs_139 rfl tX12_31 aX12_31 T.1 ?_
          have T := T.2
          refine r_icmp_ne (tgt := 146) dX12_downs_140 (by decide) (fun h_1 => ?_) (fun h_1 => ?_)
          · have T := T.1 h_1
            refine r_iinc dX12_downs_146 rfl (by decide) rfl ?_
            refine r_goto (tgt := 73) dX12_downs_149 (by decide) ?_
            exact T
          · have T := T.2 h_1
            refine r_iload dX12_downs_143 rfl ?_
            exact r_ireturn dX12_downs_145 rfl ⟨_, rfl, T⟩
theorem eX12_downs {G : Gx} {n : Nat} {M : Mem} {Q : Int → Mem → Prop}  {x1 : Int} {x2 : Int} {x3 : Int} (h : ∀ K : Kx, CW G K mX12_downs n 0 [some (vO 0), some (vI x1), some (vI x2), some (vI x3), none] [] M (qI Q)) : OkI G n mX12_downs [vO 0, vI x1, vI x2, vI x3] M Q := Ok_of (by decide) (Nat.le_of_ble_eq_true rfl) rfl h
-- DownOnlyModel errand (IIII)I
set_option maxRecDepth 20000 in
set_option maxHeartbeats 1000000 in
theorem bX12_errand_0 {G : Gx} {K : Kx} {n : Nat} {M : Mem} {Q : Int → Mem → Prop}  {x1 : Int} {x2 : Int} {x3 : Int} {x4 : Int}  (T : (M 0 26 7 = 10 → Q (-1) M) ∧ (¬ (M 0 26 7 = 10) → OkI G n mX12_isRoom [vO 0, vI x1] M (fun r_1 M1 => (r_1 = 0 → Q (-1) M1) ∧ (¬ (r_1 = 0) → OkI G n mX12_isMinute [vI x2] M1 (fun r_2 M2 => (r_2 = 0 → Q (-1) M2) ∧ (¬ (r_2 = 0) → OkI G n mX12_in [vL x3, vL x2, vL 1439] M2 (fun r_3 M3 => (r_3 = 0 → Q (-1) M3) ∧ (¬ (r_3 = 0) → OkI G n mX12_in [vL x4, vL 0, vL 99] M3 (fun r_4 M4 => (¬ r_4 = 0 → (0 ≤ wr (212 + (wr (4 * (M4 0 26 7)))) ∧ wr (212 + (wr (4 * (M4 0 26 7)))) < 328) ∧ (∀ M5 : Mem, M5 = mset M4 0 26 (wr (212 + (wr (4 * (M4 0 26 7))))).toNat x1 → (0 ≤ wr (wr (212 + (wr (4 * (M4 0 26 7)))) + 1) ∧ wr (wr (212 + (wr (4 * (M4 0 26 7)))) + 1) < 328) ∧ (∀ M6 : Mem, M6 = mset M5 0 26 (wr (wr (212 + (wr (4 * (M4 0 26 7)))) + 1)).toNat x2 → (0 ≤ wr (wr (212 + (wr (4 * (M4 0 26 7)))) + 2) ∧ wr (wr (212 + (wr (4 * (M4 0 26 7)))) + 2) < 328) ∧ (∀ M7 : Mem, M7 = mset M6 0 26 (wr (wr (212 + (wr (4 * (M4 0 26 7)))) + 2)).toNat x3 → (0 ≤ wr (wr (212 + (wr (4 * (M4 0 26 7)))) + 3) ∧ wr (wr (212 + (wr (4 * (M4 0 26 7)))) + 3) < 328) ∧ (∀ M8 : Mem, M8 = mset M7 0 26 (wr (wr (212 + (wr (4 * (M4 0 26 7)))) + 3)).toNat x4 → ∀ M9 : Mem, M9 = mset M8 0 26 7 (wr (M8 0 26 7 + 1)) → Q (wr (M9 0 26 7 - 1)) M9))))) ∧ (r_4 = 0 → Q (-1) M4)))))))))) : CW G K mX12_errand (n + 1) 0 [some (vO 0), some (vI x1), some (vI x2), some (vI x3), some (vI x4), none] [] M (qI Q) := by
  refine r_aload_n dX12_errand_0 rfl ?_
  refine r_getA dX12_errand_1 fX12_48 rfl uX12_26 ?_
  refine r_bipush dX12_errand_4 (by decide) (by decide) ?_
  refine s_iald dX12_errand_6 rfl tX12_26 aX12_26 (by decide) ?_
  refine r_bipush dX12_errand_7 (by decide) (by decide) ?_
  refine r_icmp_eq (tgt := 53) dX12_errand_9 (by decide) (fun h_5 => ?_) (fun h_5 => ?_)
  · have T := T.1 h_5
    refine r_iconst dX12_errand_53 (by decide) ?_
    exact r_ireturn dX12_errand_54 rfl ⟨_, rfl, T⟩
  · have T := T.2 h_5
    refine r_aload_n dX12_errand_12 rfl ?_
    refine r_iload_n dX12_errand_13 rfl ?_
    refine r_callVI (md' := mX12_isRoom) (as := [vI x1]) dX12_errand_14 lX12_325 iX12_isRoom rfl rfl rfl (Nat.le_of_ble_eq_true rfl) T (fun r_1 M1 T => ?_)
    refine r_if_eq (tgt := 53) dX12_errand_17 (by decide) (fun h_4 => ?_) (fun h_4 => ?_)
    · have T := T.1 h_4
      refine r_iconst dX12_errand_53 (by decide) ?_
      exact r_ireturn dX12_errand_54 rfl ⟨_, rfl, T⟩
    · have T := T.2 h_4
      refine r_iload_n dX12_errand_20 rfl ?_
      refine r_callSI (md' := mX12_isMinute) (as := [vI x2]) dX12_errand_21 lX12_415 iX12_isMinute rfl rfl (Nat.le_of_ble_eq_true rfl) T (fun r_2 M2 T => ?_)
      refine r_if_eq (tgt := 53) dX12_errand_24 (by decide) (fun h_3 => ?_) (fun h_3 => ?_)
      · have T := T.1 h_3
        refine r_iconst dX12_errand_53 (by decide) ?_
        exact r_ireturn dX12_errand_54 rfl ⟨_, rfl, T⟩
      · have T := T.2 h_3
        refine r_iload_n dX12_errand_27 rfl ?_
        refine r_i2l dX12_errand_28 ?_
        refine r_iload_n dX12_errand_29 rfl ?_
        refine r_i2l dX12_errand_30 ?_
        refine r_ldc2 (z := 1439) dX12_errand_31 kX12_429 (by decide) (by decide) ?_
        refine r_callSI (md' := mX12_in) (as := [vL x3, vL x2, vL 1439]) dX12_errand_34 lX12_148 iX12_in rfl rfl (Nat.le_of_ble_eq_true rfl) T (fun r_3 M3 T => ?_)
        refine r_if_eq (tgt := 53) dX12_errand_37 (by decide) (fun h_2 => ?_) (fun h_2 => ?_)
        · have T := T.1 h_2
          refine r_iconst dX12_errand_53 (by decide) ?_
          exact r_ireturn dX12_errand_54 rfl ⟨_, rfl, T⟩
        · have T := T.2 h_2
          refine r_iload dX12_errand_40 rfl ?_
          refine r_i2l dX12_errand_42 ?_
          refine r_lconst (z := 0) dX12_errand_43 (by decide) (by decide) ?_
          refine r_ldc2 (z := 99) dX12_errand_44 kX12_431 (by decide) (by decide) ?_
          refine r_callSI (md' := mX12_in) (as := [vL x4, vL 0, vL 99]) dX12_errand_47 lX12_148 iX12_in rfl rfl (Nat.le_of_ble_eq_true rfl) T (fun r_4 M4 T => ?_)
          refine r_if_ne (tgt := 55) dX12_errand_50 (by decide) (fun h_1 => ?_) (fun h_1 => ?_)
          · have T := T.1 h_1
            refine r_sipush dX12_errand_55 (by decide) (by decide) ?_
            refine r_iconst dX12_errand_58 (by decide) ?_
            refine r_aload_n dX12_errand_59 rfl ?_
            refine r_getA dX12_errand_60 fX12_48 rfl uX12_26 ?_
            refine r_bipush dX12_errand_63 (by decide) (by decide) ?_
            refine s_iald dX12_errand_65 rfl tX12_26 aX12_26 (by decide) ?_
            refine r_imul dX12_errand_66 ?_
            refine r_iadd dX12_errand_67 ?_
            refine r_istore dX12_errand_68 (by decide) rfl ?_
            refine r_aload_n dX12_errand_70 rfl ?_
            refine r_getA dX12_errand_71 fX12_48 rfl uX12_26 ?_
            refine r_iload dX12_errand_74 rfl ?_
            refine r_iload_n dX12_errand_76 rfl ?_
            refine n_iast dX12_errand_77 rfl tX12_26 aX12_26 T.1 (fun M5 hM5 => ?_)
            have T := T.2 M5 hM5
            refine r_aload_n dX12_errand_78 rfl ?_
            refine r_getA dX12_errand_79 fX12_48 rfl uX12_26 ?_
            refine r_iload dX12_errand_82 rfl ?_
            refine r_iconst dX12_errand_84 (by decide) ?_
            refine r_iadd dX12_errand_85 ?_
            refine r_iload_n dX12_errand_86 rfl ?_
            refine n_iast dX12_errand_87 rfl tX12_26 aX12_26 T.1 (fun M6 hM6 => ?_)
            have T := T.2 M6 hM6
            refine r_aload_n dX12_errand_88 rfl ?_
            refine r_getA dX12_errand_89 fX12_48 rfl uX12_26 ?_
            refine r_iload dX12_errand_92 rfl ?_
            refine r_iconst dX12_errand_94 (by decide) ?_
            refine r_iadd dX12_errand_95 ?_
            refine r_iload_n dX12_errand_96 rfl ?_
            refine n_iast dX12_errand_97 rfl tX12_26 aX12_26 T.1 (fun M7 hM7 => ?_)
            have T := T.2 M7 hM7
            refine r_aload_n dX12_errand_98 rfl ?_
            refine r_getA dX12_errand_99 fX12_48 rfl uX12_26 ?_
            refine r_iload dX12_errand_102 rfl ?_
            refine r_iconst dX12_errand_104 (by decide) ?_
            refine r_iadd dX12_errand_105 ?_
            refine r_iload dX12_errand_106 rfl ?_
            refine n_iast dX12_errand_108 rfl tX12_26 aX12_26 T.1 (fun M8 hM8 => ?_)
            have T := T.2 M8 hM8
            refine r_aload_n dX12_errand_109 rfl ?_
            refine r_getA dX12_errand_110 fX12_48 rfl uX12_26 ?_
            refine r_bipush dX12_errand_113 (by decide) (by decide) ?_
            refine r_dup2 dX12_errand_115 rfl rfl ?_
            refine s_iald dX12_errand_116 rfl tX12_26 aX12_26 (by decide) ?_
            refine r_iconst dX12_errand_117 (by decide) ?_
            refine r_iadd dX12_errand_118 ?_
            refine n_iast dX12_errand_119 rfl tX12_26 aX12_26 (by decide) (fun M9 hM9 => ?_)
            have T := T M9 hM9
            refine r_aload_n dX12_errand_120 rfl ?_
            refine r_getA dX12_errand_121 fX12_48 rfl uX12_26 ?_
            refine r_bipush dX12_errand_124 (by decide) (by decide) ?_
            refine s_iald dX12_errand_126 rfl tX12_26 aX12_26 (by decide) ?_
            refine r_iconst dX12_errand_127 (by decide) ?_
            refine r_isub dX12_errand_128 ?_
            exact r_ireturn dX12_errand_129 rfl ⟨_, rfl, T⟩
          · have T := T.2 h_1
            refine r_iconst dX12_errand_53 (by decide) ?_
            exact r_ireturn dX12_errand_54 rfl ⟨_, rfl, T⟩
theorem eX12_errand {G : Gx} {n : Nat} {M : Mem} {Q : Int → Mem → Prop}  {x1 : Int} {x2 : Int} {x3 : Int} {x4 : Int} (h : ∀ K : Kx, CW G K mX12_errand n 0 [some (vO 0), some (vI x1), some (vI x2), some (vI x3), some (vI x4), none] [] M (qI Q)) : OkI G n mX12_errand [vO 0, vI x1, vI x2, vI x3, vI x4] M Q := Ok_of (by decide) (Nat.le_of_ble_eq_true rfl) rfl h
-- DownOnlyModel errandOf (II)I
set_option maxRecDepth 20000 in
set_option maxHeartbeats 1000000 in
theorem bX12_errandOf_0 {G : Gx} {K : Kx} {n : Nat} {M : Mem} {Q : Int → Mem → Prop}  {x1 : Int} {x2 : Int}  (T : (0 ≤ wr (wr (212 + (wr (4 * x1))) + x2) ∧ wr (wr (212 + (wr (4 * x1))) + x2) < 328) ∧ (Q (M 0 26 (wr (wr (212 + (wr (4 * x1))) + x2)).toNat) M)) : CW G K mX12_errandOf n 0 [some (vO 0), some (vI x1), some (vI x2)] [] M (qI Q) := by
  refine r_aload_n dX12_errandOf_0 rfl ?_
  refine r_getA dX12_errandOf_1 fX12_48 rfl uX12_26 ?_
  refine r_sipush dX12_errandOf_4 (by decide) (by decide) ?_
  refine r_iconst dX12_errandOf_7 (by decide) ?_
  refine r_iload_n dX12_errandOf_8 rfl ?_
  refine r_imul dX12_errandOf_9 ?_
  refine r_iadd dX12_errandOf_10 ?_
  refine r_iload_n dX12_errandOf_11 rfl ?_
  refine r_iadd dX12_errandOf_12 ?_
  refine s_iald dX12_errandOf_13 rfl tX12_26 aX12_26 T.1 ?_
  have T := T.2
  exact r_ireturn dX12_errandOf_14 rfl ⟨_, rfl, T⟩
theorem eX12_errandOf {G : Gx} {n : Nat} {M : Mem} {Q : Int → Mem → Prop}  {x1 : Int} {x2 : Int} (h : ∀ K : Kx, CW G K mX12_errandOf n 0 [some (vO 0), some (vI x1), some (vI x2)] [] M (qI Q)) : OkI G n mX12_errandOf [vO 0, vI x1, vI x2] M Q := Ok_of (by decide) (Nat.le_of_ble_eq_true rfl) rfl h
-- DownOnlyModel doesNext (I)V
set_option maxRecDepth 20000 in
set_option maxHeartbeats 1000000 in
theorem bX12_doesNext_0 {G : Gx} {K : Kx} {n : Nat} {M : Mem} {Q : Mem → Prop}  {x1 : Int}  (T : CW G K mX12_doesNext (n + 1) 2 [some (vO 0), some (vI x1), some (vI 0), none, none, none, none] [] M (qV Q)) : CW G K mX12_doesNext (n + 1) 0 [some (vO 0), some (vI x1), none, none, none, none, none] [] M (qV Q) := by
  refine r_iconst dX12_doesNext_0 (by decide) ?_
  refine r_istore_n dX12_doesNext_1 (by decide) rfl ?_
  exact T
set_option maxRecDepth 20000 in
set_option maxHeartbeats 1000000 in
theorem bX12_doesNext_2 {G : Gx} {K : Kx} {n : Nat} {M : Mem} {Q : Mem → Prop}  {x1 : Int} {x2 : Int}  (T : (M 0 26 7 ≤ x2 → Q M) ∧ (¬ (M 0 26 7 ≤ x2) → OkI G n mX12_isOf [vI x1, vI x2] M (fun r_1 M1 => (r_1 = 0 → CW G K mX12_doesNext (n + 1) 26 [some (vO 0), some (vI x1), some (vI x2), some (vI 0), none, none, none] [] M1 (qV Q)) ∧ (¬ (r_1 = 0) → CW G K mX12_doesNext (n + 1) 2 [some (vO 0), some (vI x1), some (vI (wr (x2 + 1))), none, none, none, none] [] M1 (qV Q))))) : CW G K mX12_doesNext (n + 1) 2 [some (vO 0), some (vI x1), some (vI x2), none, none, none, none] [] M (qV Q) := by
  refine r_iload_n dX12_doesNext_2 rfl ?_
  refine r_aload_n dX12_doesNext_3 rfl ?_
  refine r_getA dX12_doesNext_4 fX12_48 rfl uX12_26 ?_
  refine r_bipush dX12_doesNext_7 (by decide) (by decide) ?_
  refine s_iald dX12_doesNext_9 rfl tX12_26 aX12_26 (by decide) ?_
  refine r_icmp_ge (tgt := 132) dX12_doesNext_10 (by decide) (fun h_2 => ?_) (fun h_2 => ?_)
  · have T := T.1 h_2
    exact r_return dX12_doesNext_132 rfl ⟨rfl, T⟩
  · have T := T.2 h_2
    refine r_iload_n dX12_doesNext_13 rfl ?_
    refine r_iload_n dX12_doesNext_14 rfl ?_
    refine r_callSI (md' := mX12_isOf) (as := [vI x1, vI x2]) dX12_doesNext_15 lX12_433 iX12_isOf rfl rfl (Nat.le_of_ble_eq_true rfl) T (fun r_1 M1 T => ?_)
    refine r_if_eq (tgt := 24) dX12_doesNext_18 (by decide) (fun h_1 => ?_) (fun h_1 => ?_)
    · have T := T.1 h_1
      refine r_iconst dX12_doesNext_24 (by decide) ?_
      refine r_istore_n dX12_doesNext_25 (by decide) rfl ?_
      exact T
    · have T := T.2 h_1
      refine r_goto (tgt := 126) dX12_doesNext_21 (by decide) ?_
      refine r_iinc dX12_doesNext_126 rfl (by decide) rfl ?_
      refine r_goto (tgt := 2) dX12_doesNext_129 (by decide) ?_
      exact T
set_option maxRecDepth 20000 in
set_option maxHeartbeats 1000000 in
theorem bX12_doesNext_26 {G : Gx} {K : Kx} {n : Nat} {M : Mem} {Q : Mem → Prop}  {x1 : Int} {x2 : Int} {x3 : Int}  (T : (2 ≤ x3 → CW G K mX12_doesNext (n + 1) 2 [some (vO 0), some (vI x1), some (vI (wr (x2 + 1))), none, none, none, none] [] M (qV Q)) ∧ (¬ (2 ≤ x3) → OkI G n mX12_errandOf [vO 0, vI x2, vI 0] M (fun r_1 M1 => (0 ≤ wr (wr (2 * r_1) + x3) ∧ wr (wr (2 * r_1) + x3) < 32) ∧ ((1439 < M1 0 28 (wr (wr (2 * r_1) + x3)).toNat → CW G K mX12_doesNext (n + 1) 26 [some (vO 0), some (vI x1), some (vI x2), some (vI (wr (x3 + 1))), none, none, none] [] M1 (qV Q)) ∧ (¬ (1439 < M1 0 28 (wr (wr (2 * r_1) + x3)).toNat) → OkI G n mX12_errandOf [vO 0, vI x2, vI 2] M1 (fun r_2 M2 => (M1 0 28 (wr (wr (2 * r_1) + x3)).toNat ≤ r_2 → OkI G n mX12_errandOf [vO 0, vI x2, vI 1] M2 (fun r_3 M3 => OkI G n mX12_later [vI (M1 0 28 (wr (wr (2 * r_1) + x3)).toNat), vI r_3] M3 (fun r_4 M4 => (0 ≤ wr (wr (wr (20 * (bOr x1 (bShl 1 x2))) + (wr (2 * x2))) + x3) ∧ wr (wr (wr (20 * (bOr x1 (bShl 1 x2))) + (wr (2 * x2))) + x3) < 20480) ∧ ((M4 0 32 (wr (wr (wr (20 * (bOr x1 (bShl 1 x2))) + (wr (2 * x2))) + x3)).toNat ≤ r_4 → CW G K mX12_doesNext (n + 1) 26 [some (vO 0), some (vI x1), some (vI x2), some (vI (wr (x3 + 1))), none, none, none] [] M4 (qV Q)) ∧ (¬ (M4 0 32 (wr (wr (wr (20 * (bOr x1 (bShl 1 x2))) + (wr (2 * x2))) + x3)).toNat ≤ r_4) → (0 ≤ wr (wr (wr (20 * (bOr x1 (bShl 1 x2))) + (wr (2 * x2))) + x3) ∧ wr (wr (wr (20 * (bOr x1 (bShl 1 x2))) + (wr (2 * x2))) + x3) < 20480) ∧ (∀ M5 : Mem, M5 = mset M4 0 32 (wr (wr (wr (20 * (bOr x1 (bShl 1 x2))) + (wr (2 * x2))) + x3)).toNat r_4 → CW G K mX12_doesNext (n + 1) 26 [some (vO 0), some (vI x1), some (vI x2), some (vI (wr (x3 + 1))), none, none, none] [] M5 (qV Q))))))) ∧ (¬ (M1 0 28 (wr (wr (2 * r_1) + x3)).toNat ≤ r_2) → CW G K mX12_doesNext (n + 1) 26 [some (vO 0), some (vI x1), some (vI x2), some (vI (wr (x3 + 1))), none, none, none] [] M2 (qV Q)))))))) : CW G K mX12_doesNext (n + 1) 26 [some (vO 0), some (vI x1), some (vI x2), some (vI x3), none, none, none] [] M (qV Q) := by
  refine r_iload_n dX12_doesNext_26 rfl ?_
  refine r_iconst dX12_doesNext_27 (by decide) ?_
  refine r_icmp_ge (tgt := 126) dX12_doesNext_28 (by decide) (fun h_4 => ?_) (fun h_4 => ?_)
  · have T := T.1 h_4
    refine r_iinc dX12_doesNext_126 rfl (by decide) rfl ?_
    refine r_goto (tgt := 2) dX12_doesNext_129 (by decide) ?_
    exact CW_msk [true, true, true, false, false, false, false] rfl T
  · have T := T.2 h_4
    refine r_aload_n dX12_doesNext_31 rfl ?_
    refine r_getA dX12_doesNext_32 fX12_54 rfl uX12_28 ?_
    refine r_iconst dX12_doesNext_35 (by decide) ?_
    refine r_aload_n dX12_doesNext_36 rfl ?_
    refine r_iload_n dX12_doesNext_37 rfl ?_
    refine r_iconst dX12_doesNext_38 (by decide) ?_
    refine r_callVI (md' := mX12_errandOf) (as := [vI x2, vI 0]) dX12_doesNext_39 lX12_436 iX12_errandOf rfl rfl rfl (Nat.le_of_ble_eq_true rfl) T (fun r_1 M1 T => ?_)
    refine r_imul dX12_doesNext_42 ?_
    refine r_iload_n dX12_doesNext_43 rfl ?_
    refine r_iadd dX12_doesNext_44 ?_
    refine s_iald dX12_doesNext_45 rfl tX12_28 aX12_28 T.1 ?_
    have T := T.2
    refine r_istore dX12_doesNext_46 (by decide) rfl ?_
    refine r_iload dX12_doesNext_48 rfl ?_
    refine r_sipush dX12_doesNext_50 (by decide) (by decide) ?_
    refine r_icmp_gt (tgt := 120) dX12_doesNext_53 (by decide) (fun h_3 => ?_) (fun h_3 => ?_)
    · have T := T.1 h_3
      refine r_iinc dX12_doesNext_120 rfl (by decide) rfl ?_
      refine r_goto (tgt := 26) dX12_doesNext_123 (by decide) ?_
      exact CW_msk [true, true, true, true, false, false, false] rfl T
    · have T := T.2 h_3
      refine r_iload dX12_doesNext_56 rfl ?_
      refine r_aload_n dX12_doesNext_58 rfl ?_
      refine r_iload_n dX12_doesNext_59 rfl ?_
      refine r_iconst dX12_doesNext_60 (by decide) ?_
      refine r_callVI (md' := mX12_errandOf) (as := [vI x2, vI 2]) dX12_doesNext_61 lX12_436 iX12_errandOf rfl rfl rfl (Nat.le_of_ble_eq_true rfl) T (fun r_2 M2 T => ?_)
      refine r_icmp_le (tgt := 70) dX12_doesNext_64 (by decide) (fun h_2 => ?_) (fun h_2 => ?_)
      · have T := T.1 h_2
        refine r_bipush dX12_doesNext_70 (by decide) (by decide) ?_
        refine r_iload_n dX12_doesNext_72 rfl ?_
        refine r_iconst dX12_doesNext_73 (by decide) ?_
        refine r_iload_n dX12_doesNext_74 rfl ?_
        refine r_ishl dX12_doesNext_75 ?_
        refine r_ior dX12_doesNext_76 ?_
        refine r_imul dX12_doesNext_77 ?_
        refine r_iconst dX12_doesNext_78 (by decide) ?_
        refine r_iload_n dX12_doesNext_79 rfl ?_
        refine r_imul dX12_doesNext_80 ?_
        refine r_iadd dX12_doesNext_81 ?_
        refine r_iload_n dX12_doesNext_82 rfl ?_
        refine r_iadd dX12_doesNext_83 ?_
        refine r_istore dX12_doesNext_84 (by decide) rfl ?_
        refine r_iload dX12_doesNext_86 rfl ?_
        refine r_aload_n dX12_doesNext_88 rfl ?_
        refine r_iload_n dX12_doesNext_89 rfl ?_
        refine r_iconst dX12_doesNext_90 (by decide) ?_
        refine r_callVI (md' := mX12_errandOf) (as := [vI x2, vI 1]) dX12_doesNext_91 lX12_436 iX12_errandOf rfl rfl rfl (Nat.le_of_ble_eq_true rfl) T (fun r_3 M3 T => ?_)
        refine r_callSI (md' := mX12_later) (as := [vI (M1 0 28 (wr (wr (2 * r_1) + x3)).toNat), vI r_3]) dX12_doesNext_94 lX12_404 iX12_later rfl rfl (Nat.le_of_ble_eq_true rfl) T (fun r_4 M4 T => ?_)
        refine r_istore dX12_doesNext_97 (by decide) rfl ?_
        refine r_iload dX12_doesNext_99 rfl ?_
        refine r_aload_n dX12_doesNext_101 rfl ?_
        refine r_getA dX12_doesNext_102 fX12_67 rfl uX12_32 ?_
        refine r_iload dX12_doesNext_105 rfl ?_
        refine s_iald dX12_doesNext_107 rfl tX12_32 aX12_32 T.1 ?_
        have T := T.2
        refine r_icmp_ge (tgt := 120) dX12_doesNext_108 (by decide) (fun h_1 => ?_) (fun h_1 => ?_)
        · have T := T.1 h_1
          refine r_iinc dX12_doesNext_120 rfl (by decide) rfl ?_
          refine r_goto (tgt := 26) dX12_doesNext_123 (by decide) ?_
          exact CW_msk [true, true, true, true, false, false, false] rfl T
        · have T := T.2 h_1
          refine r_aload_n dX12_doesNext_111 rfl ?_
          refine r_getA dX12_doesNext_112 fX12_67 rfl uX12_32 ?_
          refine r_iload dX12_doesNext_115 rfl ?_
          refine r_iload dX12_doesNext_117 rfl ?_
          refine n_iast dX12_doesNext_119 rfl tX12_32 aX12_32 T.1 (fun M5 hM5 => ?_)
          have T := T.2 M5 hM5
          refine r_iinc dX12_doesNext_120 rfl (by decide) rfl ?_
          refine r_goto (tgt := 26) dX12_doesNext_123 (by decide) ?_
          exact CW_msk [true, true, true, true, false, false, false] rfl T
      · have T := T.2 h_2
        refine r_goto (tgt := 120) dX12_doesNext_67 (by decide) ?_
        refine r_iinc dX12_doesNext_120 rfl (by decide) rfl ?_
        refine r_goto (tgt := 26) dX12_doesNext_123 (by decide) ?_
        exact CW_msk [true, true, true, true, false, false, false] rfl T
theorem eX12_doesNext {G : Gx} {n : Nat} {M : Mem} {Q : Mem → Prop}  {x1 : Int} (h : ∀ K : Kx, CW G K mX12_doesNext n 0 [some (vO 0), some (vI x1), none, none, none, none, none] [] M (qV Q)) : OkV G n mX12_doesNext [vO 0, vI x1] M Q := Ok_of (by decide) (Nat.le_of_ble_eq_true rfl) rfl h
-- DownOnlyModel worthOf (I)I
set_option maxRecDepth 20000 in
set_option maxHeartbeats 1000000 in
theorem bX12_worthOf_0 {G : Gx} {K : Kx} {n : Nat} {M : Mem} {Q : Int → Mem → Prop}  {x1 : Int}  (T : CW G K mX12_worthOf (n + 1) 4 [some (vO 0), some (vI x1), some (vI 0), some (vI 0)] [] M (qI Q)) : CW G K mX12_worthOf (n + 1) 0 [some (vO 0), some (vI x1), none, none] [] M (qI Q) := by
  refine r_iconst dX12_worthOf_0 (by decide) ?_
  refine r_istore_n dX12_worthOf_1 (by decide) rfl ?_
  refine r_iconst dX12_worthOf_2 (by decide) ?_
  refine r_istore_n dX12_worthOf_3 (by decide) rfl ?_
  exact T
set_option maxRecDepth 20000 in
set_option maxHeartbeats 1000000 in
theorem bX12_worthOf_4 {G : Gx} {K : Kx} {n : Nat} {M : Mem} {Q : Int → Mem → Prop}  {x1 : Int} {x2 : Int} {x3 : Int}  (T : (M 0 26 7 ≤ x3 → Q x2 M) ∧ (¬ (M 0 26 7 ≤ x3) → OkI G n mX12_isOf [vI x1, vI x3] M (fun r_1 M1 => (r_1 = 0 → CW G K mX12_worthOf (n + 1) 4 [some (vO 0), some (vI x1), some (vI (wr (x2 + 0))), some (vI (wr (x3 + 1)))] [] M1 (qI Q)) ∧ (¬ (r_1 = 0) → OkI G n mX12_errandOf [vO 0, vI x3, vI 3] M1 (fun r_2 M2 => CW G K mX12_worthOf (n + 1) 4 [some (vO 0), some (vI x1), some (vI (wr (x2 + r_2))), some (vI (wr (x3 + 1)))] [] M2 (qI Q)))))) : CW G K mX12_worthOf (n + 1) 4 [some (vO 0), some (vI x1), some (vI x2), some (vI x3)] [] M (qI Q) := by
  refine r_iload_n dX12_worthOf_4 rfl ?_
  refine r_aload_n dX12_worthOf_5 rfl ?_
  refine r_getA dX12_worthOf_6 fX12_48 rfl uX12_26 ?_
  refine r_bipush dX12_worthOf_9 (by decide) (by decide) ?_
  refine s_iald dX12_worthOf_11 rfl tX12_26 aX12_26 (by decide) ?_
  refine r_icmp_ge (tgt := 42) dX12_worthOf_12 (by decide) (fun h_2 => ?_) (fun h_2 => ?_)
  · have T := T.1 h_2
    refine r_iload_n dX12_worthOf_42 rfl ?_
    exact r_ireturn dX12_worthOf_43 rfl ⟨_, rfl, T⟩
  · have T := T.2 h_2
    refine r_iload_n dX12_worthOf_15 rfl ?_
    refine r_iload_n dX12_worthOf_16 rfl ?_
    refine r_iload_n dX12_worthOf_17 rfl ?_
    refine r_callSI (md' := mX12_isOf) (as := [vI x1, vI x3]) dX12_worthOf_18 lX12_433 iX12_isOf rfl rfl (Nat.le_of_ble_eq_true rfl) T (fun r_1 M1 T => ?_)
    refine r_if_eq (tgt := 33) dX12_worthOf_21 (by decide) (fun h_1 => ?_) (fun h_1 => ?_)
    · have T := T.1 h_1
      refine r_iconst dX12_worthOf_33 (by decide) ?_
      refine r_iadd dX12_worthOf_34 ?_
      refine r_istore_n dX12_worthOf_35 (by decide) rfl ?_
      refine r_iinc dX12_worthOf_36 rfl (by decide) rfl ?_
      refine r_goto (tgt := 4) dX12_worthOf_39 (by decide) ?_
      exact T
    · have T := T.2 h_1
      refine r_aload_n dX12_worthOf_24 rfl ?_
      refine r_iload_n dX12_worthOf_25 rfl ?_
      refine r_iconst dX12_worthOf_26 (by decide) ?_
      refine r_callVI (md' := mX12_errandOf) (as := [vI x3, vI 3]) dX12_worthOf_27 lX12_436 iX12_errandOf rfl rfl rfl (Nat.le_of_ble_eq_true rfl) T (fun r_2 M2 T => ?_)
      refine r_goto (tgt := 34) dX12_worthOf_30 (by decide) ?_
      refine r_iadd dX12_worthOf_34 ?_
      refine r_istore_n dX12_worthOf_35 (by decide) rfl ?_
      refine r_iinc dX12_worthOf_36 rfl (by decide) rfl ?_
      refine r_goto (tgt := 4) dX12_worthOf_39 (by decide) ?_
      exact T
theorem eX12_worthOf {G : Gx} {n : Nat} {M : Mem} {Q : Int → Mem → Prop}  {x1 : Int} (h : ∀ K : Kx, CW G K mX12_worthOf n 0 [some (vO 0), some (vI x1), none, none] [] M (qI Q)) : OkI G n mX12_worthOf [vO 0, vI x1] M Q := Ok_of (by decide) (Nat.le_of_ble_eq_true rfl) rfl h
-- DownOnlyModel soonestDone (I)I
set_option maxRecDepth 20000 in
set_option maxHeartbeats 1000000 in
theorem bX12_soonestDone_0 {G : Gx} {K : Kx} {n : Nat} {M : Mem} {Q : Int → Mem → Prop}  {x1 : Int}  (T : CW G K mX12_soonestDone n 5 [some (vO 0), some (vI x1), some (vI 99999), some (vI 0)] [] M (qI Q)) : CW G K mX12_soonestDone n 0 [some (vO 0), some (vI x1), none, none] [] M (qI Q) := by
  refine r_ldc (z := 99999) dX12_soonestDone_0 kX12_188 (by decide) (by decide) ?_
  refine r_istore_n dX12_soonestDone_2 (by decide) rfl ?_
  refine r_iconst dX12_soonestDone_3 (by decide) ?_
  refine r_istore_n dX12_soonestDone_4 (by decide) rfl ?_
  exact T
set_option maxRecDepth 20000 in
set_option maxHeartbeats 1000000 in
theorem bX12_soonestDone_5 {G : Gx} {K : Kx} {n : Nat} {M : Mem} {Q : Int → Mem → Prop}  {x1 : Int} {x2 : Int} {x3 : Int}  (T : (20 ≤ x3 → Q x2 M) ∧ (¬ (20 ≤ x3) → (0 ≤ wr (wr (20 * x1) + x3) ∧ wr (wr (20 * x1) + x3) < 20480) ∧ ((x2 ≤ M 0 32 (wr (wr (20 * x1) + x3)).toNat → CW G K mX12_soonestDone n 5 [some (vO 0), some (vI x1), some (vI x2), some (vI (wr (x3 + 1)))] [] M (qI Q)) ∧ (¬ (x2 ≤ M 0 32 (wr (wr (20 * x1) + x3)).toNat) → (0 ≤ wr (wr (20 * x1) + x3) ∧ wr (wr (20 * x1) + x3) < 20480) ∧ (CW G K mX12_soonestDone n 5 [some (vO 0), some (vI x1), some (vI (M 0 32 (wr (wr (20 * x1) + x3)).toNat)), some (vI (wr (x3 + 1)))] [] M (qI Q)))))) : CW G K mX12_soonestDone n 5 [some (vO 0), some (vI x1), some (vI x2), some (vI x3)] [] M (qI Q) := by
  refine r_iload_n dX12_soonestDone_5 rfl ?_
  refine r_bipush dX12_soonestDone_6 (by decide) (by decide) ?_
  refine r_icmp_ge (tgt := 48) dX12_soonestDone_8 (by decide) (fun h_2 => ?_) (fun h_2 => ?_)
  · have T := T.1 h_2
    refine r_iload_n dX12_soonestDone_48 rfl ?_
    exact r_ireturn dX12_soonestDone_49 rfl ⟨_, rfl, T⟩
  · have T := T.2 h_2
    refine r_aload_n dX12_soonestDone_11 rfl ?_
    refine r_getA dX12_soonestDone_12 fX12_67 rfl uX12_32 ?_
    refine r_bipush dX12_soonestDone_15 (by decide) (by decide) ?_
    refine r_iload_n dX12_soonestDone_17 rfl ?_
    refine r_imul dX12_soonestDone_18 ?_
    refine r_iload_n dX12_soonestDone_19 rfl ?_
    refine r_iadd dX12_soonestDone_20 ?_
    refine s_iald dX12_soonestDone_21 rfl tX12_32 aX12_32 T.1 ?_
    have T := T.2
    refine r_iload_n dX12_soonestDone_22 rfl ?_
    refine r_icmp_ge (tgt := 40) dX12_soonestDone_23 (by decide) (fun h_1 => ?_) (fun h_1 => ?_)
    · have T := T.1 h_1
      refine r_iload_n dX12_soonestDone_40 rfl ?_
      refine r_istore_n dX12_soonestDone_41 (by decide) rfl ?_
      refine r_iinc dX12_soonestDone_42 rfl (by decide) rfl ?_
      refine r_goto (tgt := 5) dX12_soonestDone_45 (by decide) ?_
      exact T
    · have T := T.2 h_1
      refine r_aload_n dX12_soonestDone_26 rfl ?_
      refine r_getA dX12_soonestDone_27 fX12_67 rfl uX12_32 ?_
      refine r_bipush dX12_soonestDone_30 (by decide) (by decide) ?_
      refine r_iload_n dX12_soonestDone_32 rfl ?_
      refine r_imul dX12_soonestDone_33 ?_
      refine r_iload_n dX12_soonestDone_34 rfl ?_
      refine r_iadd dX12_soonestDone_35 ?_
      refine s_iald dX12_soonestDone_36 rfl tX12_32 aX12_32 T.1 ?_
      have T := T.2
      refine r_goto (tgt := 41) dX12_soonestDone_37 (by decide) ?_
      refine r_istore_n dX12_soonestDone_41 (by decide) rfl ?_
      refine r_iinc dX12_soonestDone_42 rfl (by decide) rfl ?_
      refine r_goto (tgt := 5) dX12_soonestDone_45 (by decide) ?_
      exact T
theorem eX12_soonestDone {G : Gx} {n : Nat} {M : Mem} {Q : Int → Mem → Prop}  {x1 : Int} (h : ∀ K : Kx, CW G K mX12_soonestDone n 0 [some (vO 0), some (vI x1), none, none] [] M (qI Q)) : OkI G n mX12_soonestDone [vO 0, vI x1] M Q := Ok_of (by decide) (Nat.le_of_ble_eq_true rfl) rfl h
-- DownOnlyModel best (IIZI)I
set_option maxRecDepth 20000 in
set_option maxHeartbeats 1000000 in
theorem bX12_best_0 {G : Gx} {K : Kx} {n : Nat} {M : Mem} {Q : Int → Mem → Prop}  {x1 : Int} {x2 : Int} {x3 : Int} {x4 : Int}  (T : OkI G n mX12_isRoom [vO 0, vI x1] M (fun r_1 M1 => (r_1 = 0 → Q (-1) M1) ∧ (¬ (r_1 = 0) → OkI G n mX12_isMinute [vI x2] M1 (fun r_2 M2 => (r_2 = 0 → Q (-1) M2) ∧ (¬ (r_2 = 0) → OkI G n mX12_in [vL x4, vL 0, vL 2] M2 (fun r_3 M3 => (¬ r_3 = 0 → CW G K mX12_best (n + 1) 33 [some (vO 0), some (vI x1), some (vI x2), some (vI x3), some (vI x4), some (vI 0), none, none, none] [] M3 (qI Q)) ∧ (r_3 = 0 → Q (-1) M3))))))) : CW G K mX12_best (n + 1) 0 [some (vO 0), some (vI x1), some (vI x2), some (vI x3), some (vI x4), none, none, none, none] [] M (qI Q) := by
  refine r_aload_n dX12_best_0 rfl ?_
  refine r_iload_n dX12_best_1 rfl ?_
  refine r_callVI (md' := mX12_isRoom) (as := [vI x1]) dX12_best_2 lX12_325 iX12_isRoom rfl rfl rfl (Nat.le_of_ble_eq_true rfl) T (fun r_1 M1 T => ?_)
  refine r_if_eq (tgt := 28) dX12_best_5 (by decide) (fun h_3 => ?_) (fun h_3 => ?_)
  · have T := T.1 h_3
    refine r_iconst dX12_best_28 (by decide) ?_
    exact r_ireturn dX12_best_29 rfl ⟨_, rfl, T⟩
  · have T := T.2 h_3
    refine r_iload_n dX12_best_8 rfl ?_
    refine r_callSI (md' := mX12_isMinute) (as := [vI x2]) dX12_best_9 lX12_415 iX12_isMinute rfl rfl (Nat.le_of_ble_eq_true rfl) T (fun r_2 M2 T => ?_)
    refine r_if_eq (tgt := 28) dX12_best_12 (by decide) (fun h_2 => ?_) (fun h_2 => ?_)
    · have T := T.1 h_2
      refine r_iconst dX12_best_28 (by decide) ?_
      exact r_ireturn dX12_best_29 rfl ⟨_, rfl, T⟩
    · have T := T.2 h_2
      refine r_iload dX12_best_15 rfl ?_
      refine r_i2l dX12_best_17 ?_
      refine r_lconst (z := 0) dX12_best_18 (by decide) (by decide) ?_
      refine r_ldc2 (z := 2) dX12_best_19 kX12_328 (by decide) (by decide) ?_
      refine r_callSI (md' := mX12_in) (as := [vL x4, vL 0, vL 2]) dX12_best_22 lX12_148 iX12_in rfl rfl (Nat.le_of_ble_eq_true rfl) T (fun r_3 M3 T => ?_)
      refine r_if_ne (tgt := 30) dX12_best_25 (by decide) (fun h_1 => ?_) (fun h_1 => ?_)
      · have T := T.1 h_1
        refine r_iconst dX12_best_30 (by decide) ?_
        refine r_istore dX12_best_31 (by decide) rfl ?_
        exact T
      · have T := T.2 h_1
        refine r_iconst dX12_best_28 (by decide) ?_
        exact r_ireturn dX12_best_29 rfl ⟨_, rfl, T⟩
set_option maxRecDepth 20000 in
set_option maxHeartbeats 1000000 in
theorem bX12_best_33 {G : Gx} {K : Kx} {n : Nat} {M : Mem} {Q : Int → Mem → Prop}  {x1 : Int} {x2 : Int} {x3 : Int} {x4 : Int} {x5 : Int}  (T : (20480 ≤ x5 → OkV G n mX12_spreads [vO 0, vI x1, vI x2, vI x3] M (fun M1 => OkV G n mX12_doesNext [vO 0, vI 0] M1 (fun M2 => CW G K mX12_best (n + 1) 77 [some (vO 0), none, none, none, some (vI x4), some (vI 0), some (vI x2), some (vI 1), none] [] M2 (qI Q)))) ∧ (¬ (20480 ≤ x5) → (0 ≤ x5 ∧ x5 < 20480) ∧ (∀ M3 : Mem, M3 = mset M 0 32 x5.toNat 99999 → CW G K mX12_best (n + 1) 33 [some (vO 0), some (vI x1), some (vI x2), some (vI x3), some (vI x4), some (vI (wr (x5 + 1))), none, none, none] [] M3 (qI Q)))) : CW G K mX12_best (n + 1) 33 [some (vO 0), some (vI x1), some (vI x2), some (vI x3), some (vI x4), some (vI x5), none, none, none] [] M (qI Q) := by
  refine r_iload dX12_best_33 rfl ?_
  refine r_sipush dX12_best_35 (by decide) (by decide) ?_
  refine r_icmp_ge (tgt := 56) dX12_best_38 (by decide) (fun h_1 => ?_) (fun h_1 => ?_)
  · have T := T.1 h_1
    refine r_aload_n dX12_best_56 rfl ?_
    refine r_iload_n dX12_best_57 rfl ?_
    refine r_iload_n dX12_best_58 rfl ?_
    refine r_iload_n dX12_best_59 rfl ?_
    refine r_callVV (md' := mX12_spreads) (as := [vI x1, vI x2, vI x3]) dX12_best_60 lX12_418 iX12_spreads rfl rfl rfl (Nat.le_of_ble_eq_true rfl) T (fun M1 T => ?_)
    refine r_aload_n dX12_best_63 rfl ?_
    refine r_iconst dX12_best_64 (by decide) ?_
    refine r_callVV (md' := mX12_doesNext) (as := [vI 0]) dX12_best_65 lX12_439 iX12_doesNext rfl rfl rfl (Nat.le_of_ble_eq_true rfl) T (fun M2 T => ?_)
    refine r_iconst dX12_best_68 (by decide) ?_
    refine r_istore dX12_best_69 (by decide) rfl ?_
    refine r_iload_n dX12_best_71 rfl ?_
    refine r_istore dX12_best_72 (by decide) rfl ?_
    refine r_iconst dX12_best_74 (by decide) ?_
    refine r_istore dX12_best_75 (by decide) rfl ?_
    exact CW_msk [true, false, false, false, true, true, true, true, false] rfl T
  · have T := T.2 h_1
    refine r_aload_n dX12_best_41 rfl ?_
    refine r_getA dX12_best_42 fX12_67 rfl uX12_32 ?_
    refine r_iload dX12_best_45 rfl ?_
    refine r_ldc (z := 99999) dX12_best_47 kX12_188 (by decide) (by decide) ?_
    refine n_iast dX12_best_49 rfl tX12_32 aX12_32 T.1 (fun M3 hM3 => ?_)
    have T := T.2 M3 hM3
    refine r_iinc dX12_best_50 rfl (by decide) rfl ?_
    refine r_goto (tgt := 33) dX12_best_53 (by decide) ?_
    exact T
set_option maxRecDepth 20000 in
set_option maxHeartbeats 1000000 in
theorem bX12_best_77 {G : Gx} {K : Kx} {n : Nat} {M : Mem} {Q : Int → Mem → Prop}  {x4 : Int} {x5 : Int} {x6 : Int} {x7 : Int}  (T : (bShl 1 (M 0 26 7) ≤ x7 → (¬ x4 = 0 → (¬ x4 = 1 → Q x6 M) ∧ (x4 = 1 → Q x5 M)) ∧ (x4 = 0 → OkI G n mX12_worthOf [vO 0, vI x5] M (fun r_1 M1 => Q r_1 M1))) ∧ (¬ (bShl 1 (M 0 26 7) ≤ x7) → CW G K mX12_best (n + 1) 94 [some (vO 0), none, none, none, some (vI x4), some (vI x5), some (vI x6), some (vI x7), some (vI 0)] [] M (qI Q))) : CW G K mX12_best (n + 1) 77 [some (vO 0), none, none, none, some (vI x4), some (vI x5), some (vI x6), some (vI x7), none] [] M (qI Q) := by
  refine r_iload dX12_best_77 rfl ?_
  refine r_iconst dX12_best_79 (by decide) ?_
  refine r_aload_n dX12_best_80 rfl ?_
  refine r_getA dX12_best_81 fX12_48 rfl uX12_26 ?_
  refine r_bipush dX12_best_84 (by decide) (by decide) ?_
  refine s_iald dX12_best_86 rfl tX12_26 aX12_26 (by decide) ?_
  refine r_ishl dX12_best_87 ?_
  refine r_icmp_ge (tgt := 241) dX12_best_88 (by decide) (fun h_3 => ?_) (fun h_3 => ?_)
  · have T := T.1 h_3
    refine r_iload dX12_best_241 rfl ?_
    refine r_if_ne (tgt := 255) dX12_best_243 (by decide) (fun h_2 => ?_) (fun h_2 => ?_)
    · have T := T.1 h_2
      refine r_iload dX12_best_255 rfl ?_
      refine r_iconst dX12_best_257 (by decide) ?_
      refine r_icmp_ne (tgt := 266) dX12_best_258 (by decide) (fun h_1 => ?_) (fun h_1 => ?_)
      · have T := T.1 h_1
        refine r_iload dX12_best_266 rfl ?_
        exact r_ireturn dX12_best_268 rfl ⟨_, rfl, T⟩
      · have T := T.2 h_1
        refine r_iload dX12_best_261 rfl ?_
        refine r_goto (tgt := 268) dX12_best_263 (by decide) ?_
        exact r_ireturn dX12_best_268 rfl ⟨_, rfl, T⟩
    · have T := T.2 h_2
      refine r_aload_n dX12_best_246 rfl ?_
      refine r_iload dX12_best_247 rfl ?_
      refine r_callVI (md' := mX12_worthOf) (as := [vI x5]) dX12_best_249 lX12_445 iX12_worthOf rfl rfl rfl (Nat.le_of_ble_eq_true rfl) T (fun r_1 M1 T => ?_)
      refine r_goto (tgt := 268) dX12_best_252 (by decide) ?_
      exact r_ireturn dX12_best_268 rfl ⟨_, rfl, T⟩
  · have T := T.2 h_3
    refine r_iconst dX12_best_91 (by decide) ?_
    refine r_istore dX12_best_92 (by decide) rfl ?_
    exact T
set_option maxRecDepth 20000 in
set_option maxHeartbeats 1000000 in
theorem bX12_best_94 {G : Gx} {K : Kx} {n : Nat} {M : Mem} {Q : Int → Mem → Prop}  {x4 : Int} {x5 : Int} {x6 : Int} {x7 : Int} {x8 : Int}  (T : (20 ≤ x8 → OkI G n mX12_soonestDone [vO 0, vI x7] M (fun r_1 M1 => (r_1 = 99999 → CW G K mX12_best (n + 1) 77 [some (vO 0), none, none, none, some (vI x4), some (vI x5), some (vI x6), some (vI (wr (x7 + 1))), none] [] M1 (qI Q)) ∧ (¬ (r_1 = 99999) → OkI G n mX12_worthOf [vO 0, vI x7] M1 (fun r_2 M2 => OkI G n mX12_worthOf [vO 0, vI x5] M2 (fun r_3 M3 => (r_2 < r_3 → CW G K mX12_best (n + 1) 77 [some (vO 0), none, none, none, some (vI x4), some (vI x5), some (vI x6), some (vI (wr (x7 + 1))), none] [] M3 (qI Q)) ∧ (¬ (r_2 < r_3) → OkI G n mX12_worthOf [vO 0, vI x7] M3 (fun r_4 M4 => OkI G n mX12_worthOf [vO 0, vI x5] M4 (fun r_5 M5 => (¬ r_4 = r_5 → CW G K mX12_best (n + 1) 77 [some (vO 0), none, none, none, some (vI x4), some (vI x7), some (vI r_1), some (vI (wr (x7 + 1))), none] [] M5 (qI Q)) ∧ (r_4 = r_5 → (r_1 < x6 → CW G K mX12_best (n + 1) 77 [some (vO 0), none, none, none, some (vI x4), some (vI x7), some (vI r_1), some (vI (wr (x7 + 1))), none] [] M5 (qI Q)) ∧ (¬ (r_1 < x6) → CW G K mX12_best (n + 1) 77 [some (vO 0), none, none, none, some (vI x4), some (vI x5), some (vI x6), some (vI (wr (x7 + 1))), none] [] M5 (qI Q))))))))))) ∧ (¬ (20 ≤ x8) → (0 ≤ wr (wr (20 * x7) + x8) ∧ wr (wr (20 * x7) + x8) < 20480) ∧ ((¬ M 0 32 (wr (wr (20 * x7) + x8)).toNat = 99999 → OkI G n mX12_errandOf [vO 0, vI (wr (Int.tdiv x8 2)), vI 0] M (fun r_6 M6 => (0 ≤ wr (wr (20 * x7) + x8) ∧ wr (wr (20 * x7) + x8) < 20480) ∧ ((¬ wr (Int.tmod x8 2) = 0 → OkV G n mX12_spreads [vO 0, vI r_6, vI (M6 0 32 (wr (wr (20 * x7) + x8)).toNat), vI 0] M6 (fun M7 => OkV G n mX12_doesNext [vO 0, vI x7] M7 (fun M8 => CW G K mX12_best (n + 1) 94 [some (vO 0), none, none, none, some (vI x4), some (vI x5), some (vI x6), some (vI x7), some (vI (wr (x8 + 1)))] [] M8 (qI Q)))) ∧ (wr (Int.tmod x8 2) = 0 → OkV G n mX12_spreads [vO 0, vI r_6, vI (M6 0 32 (wr (wr (20 * x7) + x8)).toNat), vI 1] M6 (fun M9 => OkV G n mX12_doesNext [vO 0, vI x7] M9 (fun M10 => CW G K mX12_best (n + 1) 94 [some (vO 0), none, none, none, some (vI x4), some (vI x5), some (vI x6), some (vI x7), some (vI (wr (x8 + 1)))] [] M10 (qI Q))))))) ∧ (M 0 32 (wr (wr (20 * x7) + x8)).toNat = 99999 → CW G K mX12_best (n + 1) 94 [some (vO 0), none, none, none, some (vI x4), some (vI x5), some (vI x6), some (vI x7), some (vI (wr (x8 + 1)))] [] M (qI Q))))) : CW G K mX12_best (n + 1) 94 [some (vO 0), none, none, none, some (vI x4), some (vI x5), some (vI x6), some (vI x7), some (vI x8)] [] M (qI Q) := by
  refine r_iload dX12_best_94 rfl ?_
  refine r_bipush dX12_best_96 (by decide) (by decide) ?_
  refine r_icmp_ge (tgt := 172) dX12_best_98 (by decide) (fun h_7 => ?_) (fun h_7 => ?_)
  · have T := T.1 h_7
    refine r_aload_n dX12_best_172 rfl ?_
    refine r_iload dX12_best_173 rfl ?_
    refine r_callVI (md' := mX12_soonestDone) (as := [vI x7]) dX12_best_175 lX12_442 iX12_soonestDone rfl rfl rfl (Nat.le_of_ble_eq_true rfl) T (fun r_1 M1 T => ?_)
    refine r_istore dX12_best_178 (by decide) rfl ?_
    refine r_iload dX12_best_180 rfl ?_
    refine r_ldc (z := 99999) dX12_best_182 kX12_188 (by decide) (by decide) ?_
    refine r_icmp_eq (tgt := 235) dX12_best_184 (by decide) (fun h_4 => ?_) (fun h_4 => ?_)
    · have T := T.1 h_4
      refine r_iinc dX12_best_235 rfl (by decide) rfl ?_
      refine r_goto (tgt := 77) dX12_best_238 (by decide) ?_
      exact CW_msk [true, false, false, false, true, true, true, true, false] rfl T
    · have T := T.2 h_4
      refine r_aload_n dX12_best_187 rfl ?_
      refine r_iload dX12_best_188 rfl ?_
      refine r_callVI (md' := mX12_worthOf) (as := [vI x7]) dX12_best_190 lX12_445 iX12_worthOf rfl rfl rfl (Nat.le_of_ble_eq_true rfl) T (fun r_2 M2 T => ?_)
      refine r_aload_n dX12_best_193 rfl ?_
      refine r_iload dX12_best_194 rfl ?_
      refine r_callVI (md' := mX12_worthOf) (as := [vI x5]) dX12_best_196 lX12_445 iX12_worthOf rfl rfl rfl (Nat.le_of_ble_eq_true rfl) T (fun r_3 M3 T => ?_)
      refine r_icmp_lt (tgt := 235) dX12_best_199 (by decide) (fun h_3 => ?_) (fun h_3 => ?_)
      · have T := T.1 h_3
        refine r_iinc dX12_best_235 rfl (by decide) rfl ?_
        refine r_goto (tgt := 77) dX12_best_238 (by decide) ?_
        exact CW_msk [true, false, false, false, true, true, true, true, false] rfl T
      · have T := T.2 h_3
        refine r_aload_n dX12_best_202 rfl ?_
        refine r_iload dX12_best_203 rfl ?_
        refine r_callVI (md' := mX12_worthOf) (as := [vI x7]) dX12_best_205 lX12_445 iX12_worthOf rfl rfl rfl (Nat.le_of_ble_eq_true rfl) T (fun r_4 M4 T => ?_)
        refine r_aload_n dX12_best_208 rfl ?_
        refine r_iload dX12_best_209 rfl ?_
        refine r_callVI (md' := mX12_worthOf) (as := [vI x5]) dX12_best_211 lX12_445 iX12_worthOf rfl rfl rfl (Nat.le_of_ble_eq_true rfl) T (fun r_5 M5 T => ?_)
        refine r_icmp_ne (tgt := 227) dX12_best_214 (by decide) (fun h_2 => ?_) (fun h_2 => ?_)
        · have T := T.1 h_2
          refine r_iload dX12_best_227 rfl ?_
          refine r_istore dX12_best_229 (by decide) rfl ?_
          refine r_iload dX12_best_231 rfl ?_
          refine r_istore dX12_best_233 (by decide) rfl ?_
          refine r_iinc dX12_best_235 rfl (by decide) rfl ?_
          refine r_goto (tgt := 77) dX12_best_238 (by decide) ?_
          exact CW_msk [true, false, false, false, true, true, true, true, false] rfl T
        · have T := T.2 h_2
          refine r_iload dX12_best_217 rfl ?_
          refine r_iload dX12_best_219 rfl ?_
          refine r_icmp_lt (tgt := 227) dX12_best_221 (by decide) (fun h_1 => ?_) (fun h_1 => ?_)
          · have T := T.1 h_1
            refine r_iload dX12_best_227 rfl ?_
            refine r_istore dX12_best_229 (by decide) rfl ?_
            refine r_iload dX12_best_231 rfl ?_
            refine r_istore dX12_best_233 (by decide) rfl ?_
            refine r_iinc dX12_best_235 rfl (by decide) rfl ?_
            refine r_goto (tgt := 77) dX12_best_238 (by decide) ?_
            exact CW_msk [true, false, false, false, true, true, true, true, false] rfl T
          · have T := T.2 h_1
            refine r_goto (tgt := 235) dX12_best_224 (by decide) ?_
            refine r_iinc dX12_best_235 rfl (by decide) rfl ?_
            refine r_goto (tgt := 77) dX12_best_238 (by decide) ?_
            exact CW_msk [true, false, false, false, true, true, true, true, false] rfl T
  · have T := T.2 h_7
    refine r_aload_n dX12_best_101 rfl ?_
    refine r_getA dX12_best_102 fX12_67 rfl uX12_32 ?_
    refine r_bipush dX12_best_105 (by decide) (by decide) ?_
    refine r_iload dX12_best_107 rfl ?_
    refine r_imul dX12_best_109 ?_
    refine r_iload dX12_best_110 rfl ?_
    refine r_iadd dX12_best_112 ?_
    refine s_iald dX12_best_113 rfl tX12_32 aX12_32 T.1 ?_
    have T := T.2
    refine r_ldc (z := 99999) dX12_best_114 kX12_188 (by decide) (by decide) ?_
    refine r_icmp_ne (tgt := 122) dX12_best_116 (by decide) (fun h_6 => ?_) (fun h_6 => ?_)
    · have T := T.1 h_6
      refine r_aload_n dX12_best_122 rfl ?_
      refine r_aload_n dX12_best_123 rfl ?_
      refine r_iload dX12_best_124 rfl ?_
      refine r_iconst dX12_best_126 (by decide) ?_
      refine r_idiv dX12_best_127 (by decide) ?_
      refine r_iconst dX12_best_128 (by decide) ?_
      refine r_callVI (md' := mX12_errandOf) (as := [vI (wr (Int.tdiv x8 2)), vI 0]) dX12_best_129 lX12_436 iX12_errandOf rfl rfl rfl (Nat.le_of_ble_eq_true rfl) T (fun r_6 M6 T => ?_)
      refine r_aload_n dX12_best_132 rfl ?_
      refine r_getA dX12_best_133 fX12_67 rfl uX12_32 ?_
      refine r_bipush dX12_best_136 (by decide) (by decide) ?_
      refine r_iload dX12_best_138 rfl ?_
      refine r_imul dX12_best_140 ?_
      refine r_iload dX12_best_141 rfl ?_
      refine r_iadd dX12_best_143 ?_
      refine s_iald dX12_best_144 rfl tX12_32 aX12_32 T.1 ?_
      have T := T.2
      refine r_iload dX12_best_145 rfl ?_
      refine r_iconst dX12_best_147 (by decide) ?_
      refine r_irem dX12_best_148 (by decide) ?_
      refine r_if_ne (tgt := 156) dX12_best_149 (by decide) (fun h_5 => ?_) (fun h_5 => ?_)
      · have T := T.1 h_5
        refine r_iconst dX12_best_156 (by decide) ?_
        refine r_callVV (md' := mX12_spreads) (as := [vI r_6, vI (M6 0 32 (wr (wr (20 * x7) + x8)).toNat), vI 0]) dX12_best_157 lX12_418 iX12_spreads rfl rfl rfl (Nat.le_of_ble_eq_true rfl) T (fun M7 T => ?_)
        refine r_aload_n dX12_best_160 rfl ?_
        refine r_iload dX12_best_161 rfl ?_
        refine r_callVV (md' := mX12_doesNext) (as := [vI x7]) dX12_best_163 lX12_439 iX12_doesNext rfl rfl rfl (Nat.le_of_ble_eq_true rfl) T (fun M8 T => ?_)
        refine r_iinc dX12_best_166 rfl (by decide) rfl ?_
        refine r_goto (tgt := 94) dX12_best_169 (by decide) ?_
        exact T
      · have T := T.2 h_5
        refine r_iconst dX12_best_152 (by decide) ?_
        refine r_goto (tgt := 157) dX12_best_153 (by decide) ?_
        refine r_callVV (md' := mX12_spreads) (as := [vI r_6, vI (M6 0 32 (wr (wr (20 * x7) + x8)).toNat), vI 1]) dX12_best_157 lX12_418 iX12_spreads rfl rfl rfl (Nat.le_of_ble_eq_true rfl) T (fun M9 T => ?_)
        refine r_aload_n dX12_best_160 rfl ?_
        refine r_iload dX12_best_161 rfl ?_
        refine r_callVV (md' := mX12_doesNext) (as := [vI x7]) dX12_best_163 lX12_439 iX12_doesNext rfl rfl rfl (Nat.le_of_ble_eq_true rfl) T (fun M10 T => ?_)
        refine r_iinc dX12_best_166 rfl (by decide) rfl ?_
        refine r_goto (tgt := 94) dX12_best_169 (by decide) ?_
        exact T
    · have T := T.2 h_6
      refine r_goto (tgt := 166) dX12_best_119 (by decide) ?_
      refine r_iinc dX12_best_166 rfl (by decide) rfl ?_
      refine r_goto (tgt := 94) dX12_best_169 (by decide) ?_
      exact T
theorem eX12_best {G : Gx} {n : Nat} {M : Mem} {Q : Int → Mem → Prop}  {x1 : Int} {x2 : Int} {x3 : Int} {x4 : Int} (h : ∀ K : Kx, CW G K mX12_best n 0 [some (vO 0), some (vI x1), some (vI x2), some (vI x3), some (vI x4), none, none, none, none] [] M (qI Q)) : OkI G n mX12_best [vO 0, vI x1, vI x2, vI x3, vI x4] M Q := Ok_of (by decide) (Nat.le_of_ble_eq_true rfl) rfl h
-- DownOnlyModel meeting (IIIIZI)I
set_option maxRecDepth 20000 in
set_option maxHeartbeats 1000000 in
theorem bX12_meeting_0 {G : Gx} {K : Kx} {n : Nat} {M : Mem} {Q : Int → Mem → Prop}  {x1 : Int} {x2 : Int} {x3 : Int} {x4 : Int} {x5 : Int} {x6 : Int}  (T : OkI G n mX12_isRoom [vO 0, vI x1] M (fun r_1 M1 => (r_1 = 0 → Q (-1) M1) ∧ (¬ (r_1 = 0) → OkI G n mX12_isMinute [vI x2] M1 (fun r_2 M2 => (r_2 = 0 → Q (-1) M2) ∧ (¬ (r_2 = 0) → OkI G n mX12_isRoom [vO 0, vI x3] M2 (fun r_3 M3 => (r_3 = 0 → Q (-1) M3) ∧ (¬ (r_3 = 0) → OkI G n mX12_isMinute [vI x4] M3 (fun r_4 M4 => (r_4 = 0 → Q (-1) M4) ∧ (¬ (r_4 = 0) → OkI G n mX12_in [vL x6, vL 0, vL 2] M4 (fun r_5 M5 => (¬ r_5 = 0 → OkV G n mX12_spreads [vO 0, vI x1, vI x2, vI x5] M5 (fun M6 => CW G K mX12_meeting (n + 1) 57 [some (vO 0), none, none, some (vI x3), some (vI x4), some (vI x5), some (vI x6), some (vI 0), none, none] [] M6 (qI Q))) ∧ (r_5 = 0 → Q (-1) M5))))))))))) : CW G K mX12_meeting (n + 1) 0 [some (vO 0), some (vI x1), some (vI x2), some (vI x3), some (vI x4), some (vI x5), some (vI x6), none, none, none] [] M (qI Q) := by
  refine r_aload_n dX12_meeting_0 rfl ?_
  refine r_iload_n dX12_meeting_1 rfl ?_
  refine r_callVI (md' := mX12_isRoom) (as := [vI x1]) dX12_meeting_2 lX12_325 iX12_isRoom rfl rfl rfl (Nat.le_of_ble_eq_true rfl) T (fun r_1 M1 T => ?_)
  refine r_if_eq (tgt := 44) dX12_meeting_5 (by decide) (fun h_5 => ?_) (fun h_5 => ?_)
  · have T := T.1 h_5
    refine r_iconst dX12_meeting_44 (by decide) ?_
    exact r_ireturn dX12_meeting_45 rfl ⟨_, rfl, T⟩
  · have T := T.2 h_5
    refine r_iload_n dX12_meeting_8 rfl ?_
    refine r_callSI (md' := mX12_isMinute) (as := [vI x2]) dX12_meeting_9 lX12_415 iX12_isMinute rfl rfl (Nat.le_of_ble_eq_true rfl) T (fun r_2 M2 T => ?_)
    refine r_if_eq (tgt := 44) dX12_meeting_12 (by decide) (fun h_4 => ?_) (fun h_4 => ?_)
    · have T := T.1 h_4
      refine r_iconst dX12_meeting_44 (by decide) ?_
      exact r_ireturn dX12_meeting_45 rfl ⟨_, rfl, T⟩
    · have T := T.2 h_4
      refine r_aload_n dX12_meeting_15 rfl ?_
      refine r_iload_n dX12_meeting_16 rfl ?_
      refine r_callVI (md' := mX12_isRoom) (as := [vI x3]) dX12_meeting_17 lX12_325 iX12_isRoom rfl rfl rfl (Nat.le_of_ble_eq_true rfl) T (fun r_3 M3 T => ?_)
      refine r_if_eq (tgt := 44) dX12_meeting_20 (by decide) (fun h_3 => ?_) (fun h_3 => ?_)
      · have T := T.1 h_3
        refine r_iconst dX12_meeting_44 (by decide) ?_
        exact r_ireturn dX12_meeting_45 rfl ⟨_, rfl, T⟩
      · have T := T.2 h_3
        refine r_iload dX12_meeting_23 rfl ?_
        refine r_callSI (md' := mX12_isMinute) (as := [vI x4]) dX12_meeting_25 lX12_415 iX12_isMinute rfl rfl (Nat.le_of_ble_eq_true rfl) T (fun r_4 M4 T => ?_)
        refine r_if_eq (tgt := 44) dX12_meeting_28 (by decide) (fun h_2 => ?_) (fun h_2 => ?_)
        · have T := T.1 h_2
          refine r_iconst dX12_meeting_44 (by decide) ?_
          exact r_ireturn dX12_meeting_45 rfl ⟨_, rfl, T⟩
        · have T := T.2 h_2
          refine r_iload dX12_meeting_31 rfl ?_
          refine r_i2l dX12_meeting_33 ?_
          refine r_lconst (z := 0) dX12_meeting_34 (by decide) (by decide) ?_
          refine r_ldc2 (z := 2) dX12_meeting_35 kX12_328 (by decide) (by decide) ?_
          refine r_callSI (md' := mX12_in) (as := [vL x6, vL 0, vL 2]) dX12_meeting_38 lX12_148 iX12_in rfl rfl (Nat.le_of_ble_eq_true rfl) T (fun r_5 M5 T => ?_)
          refine r_if_ne (tgt := 46) dX12_meeting_41 (by decide) (fun h_1 => ?_) (fun h_1 => ?_)
          · have T := T.1 h_1
            refine r_aload_n dX12_meeting_46 rfl ?_
            refine r_iload_n dX12_meeting_47 rfl ?_
            refine r_iload_n dX12_meeting_48 rfl ?_
            refine r_iload dX12_meeting_49 rfl ?_
            refine r_callVV (md' := mX12_spreads) (as := [vI x1, vI x2, vI x5]) dX12_meeting_51 lX12_418 iX12_spreads rfl rfl rfl (Nat.le_of_ble_eq_true rfl) T (fun M6 T => ?_)
            refine r_iconst dX12_meeting_54 (by decide) ?_
            refine r_istore dX12_meeting_55 (by decide) rfl ?_
            exact CW_msk [true, false, false, true, true, true, true, true, false, false] rfl T
          · have T := T.2 h_1
            refine r_iconst dX12_meeting_44 (by decide) ?_
            exact r_ireturn dX12_meeting_45 rfl ⟨_, rfl, T⟩
set_option maxRecDepth 20000 in
set_option maxHeartbeats 1000000 in
theorem bX12_meeting_57 {G : Gx} {K : Kx} {n : Nat} {M : Mem} {Q : Int → Mem → Prop}  {x3 : Int} {x4 : Int} {x5 : Int} {x6 : Int} {x7 : Int}  (T : (M 0 26 0 ≤ x7 → OkV G n mX12_spreads [vO 0, vI x3, vI x4, vI x5] M (fun M1 => CW G K mX12_meeting (n + 1) 105 [some (vO 0), none, none, none, none, none, some (vI x6), some (vI 0), some (vI (-1)), some (vI 0)] [] M1 (qI Q))) ∧ (¬ (M 0 26 0 ≤ x7) → OkI G n mX12_soonestTo [vO 0, vI x7] M (fun r_1 M2 => (0 ≤ x7 ∧ x7 < 16) ∧ (∀ M3 : Mem, M3 = mset M2 0 33 x7.toNat r_1 → CW G K mX12_meeting (n + 1) 57 [some (vO 0), none, none, some (vI x3), some (vI x4), some (vI x5), some (vI x6), some (vI (wr (x7 + 1))), none, none] [] M3 (qI Q))))) : CW G K mX12_meeting (n + 1) 57 [some (vO 0), none, none, some (vI x3), some (vI x4), some (vI x5), some (vI x6), some (vI x7), none, none] [] M (qI Q) := by
  refine r_iload dX12_meeting_57 rfl ?_
  refine r_aload_n dX12_meeting_59 rfl ?_
  refine r_getA dX12_meeting_60 fX12_48 rfl uX12_26 ?_
  refine r_iconst dX12_meeting_63 (by decide) ?_
  refine s_iald dX12_meeting_64 rfl tX12_26 aX12_26 (by decide) ?_
  refine r_icmp_ge (tgt := 87) dX12_meeting_65 (by decide) (fun h_1 => ?_) (fun h_1 => ?_)
  · have T := T.1 h_1
    refine r_aload_n dX12_meeting_87 rfl ?_
    refine r_iload_n dX12_meeting_88 rfl ?_
    refine r_iload dX12_meeting_89 rfl ?_
    refine r_iload dX12_meeting_91 rfl ?_
    refine r_callVV (md' := mX12_spreads) (as := [vI x3, vI x4, vI x5]) dX12_meeting_93 lX12_418 iX12_spreads rfl rfl rfl (Nat.le_of_ble_eq_true rfl) T (fun M1 T => ?_)
    refine r_iconst dX12_meeting_96 (by decide) ?_
    refine r_istore dX12_meeting_97 (by decide) rfl ?_
    refine r_iconst dX12_meeting_99 (by decide) ?_
    refine r_istore dX12_meeting_100 (by decide) rfl ?_
    refine r_iconst dX12_meeting_102 (by decide) ?_
    refine r_istore dX12_meeting_103 (by decide) rfl ?_
    exact CW_msk [true, false, false, false, false, false, true, true, true, true] rfl T
  · have T := T.2 h_1
    refine r_aload_n dX12_meeting_68 rfl ?_
    refine r_getA dX12_meeting_69 fX12_70 rfl uX12_33 ?_
    refine r_iload dX12_meeting_72 rfl ?_
    refine r_aload_n dX12_meeting_74 rfl ?_
    refine r_iload dX12_meeting_75 rfl ?_
    refine r_callVI (md' := mX12_soonestTo) (as := [vI x7]) dX12_meeting_77 lX12_422 iX12_soonestTo rfl rfl rfl (Nat.le_of_ble_eq_true rfl) T (fun r_1 M2 T => ?_)
    refine n_iast dX12_meeting_80 rfl tX12_33 aX12_33 T.1 (fun M3 hM3 => ?_)
    have T := T.2 M3 hM3
    refine r_iinc dX12_meeting_81 rfl (by decide) rfl ?_
    refine r_goto (tgt := 57) dX12_meeting_84 (by decide) ?_
    exact T
set_option maxRecDepth 20000 in
set_option maxHeartbeats 1000000 in
theorem bX12_meeting_105 {G : Gx} {K : Kx} {n : Nat} {M : Mem} {Q : Int → Mem → Prop}  {x6 : Int} {x7 : Int} {x8 : Int} {x9 : Int}  (T : (M 0 26 0 ≤ x9 → (¬ x6 = 2 → (0 ≤ x8 → (¬ x6 = 0 → Q x8 M) ∧ (x6 = 0 → (0 ≤ x8 ∧ x8 < 16) ∧ (Q (M 0 33 x8.toNat) M))) ∧ (¬ (0 ≤ x8) → Q (-2) M)) ∧ (x6 = 2 → Q x7 M)) ∧ (¬ (M 0 26 0 ≤ x9) → (0 ≤ x9 ∧ x9 < 16) ∧ (OkI G n mX12_soonestTo [vO 0, vI x9] M (fun r_1 M1 => OkI G n mX12_later [vI (M 0 33 x9.toNat), vI r_1] M1 (fun r_2 M2 => (0 ≤ x9 ∧ x9 < 16) ∧ (∀ M3 : Mem, M3 = mset M2 0 33 x9.toNat r_2 → (0 ≤ x9 ∧ x9 < 16) ∧ ((¬ M3 0 33 x9.toNat = 99999 → (x8 < 0 → CW G K mX12_meeting (n + 1) 105 [some (vO 0), none, none, none, none, none, some (vI x6), some (vI (wr (x7 + 1))), some (vI x9), some (vI (wr (x9 + 1)))] [] M3 (qI Q)) ∧ (¬ (x8 < 0) → (0 ≤ x9 ∧ x9 < 16) ∧ ((0 ≤ x8 ∧ x8 < 16) ∧ ((M3 0 33 x8.toNat ≤ M3 0 33 x9.toNat → CW G K mX12_meeting (n + 1) 105 [some (vO 0), none, none, none, none, none, some (vI x6), some (vI (wr (x7 + 1))), some (vI x8), some (vI (wr (x9 + 1)))] [] M3 (qI Q)) ∧ (¬ (M3 0 33 x8.toNat ≤ M3 0 33 x9.toNat) → CW G K mX12_meeting (n + 1) 105 [some (vO 0), none, none, none, none, none, some (vI x6), some (vI (wr (x7 + 1))), some (vI x9), some (vI (wr (x9 + 1)))] [] M3 (qI Q)))))) ∧ (M3 0 33 x9.toNat = 99999 → CW G K mX12_meeting (n + 1) 105 [some (vO 0), none, none, none, none, none, some (vI x6), some (vI x7), some (vI x8), some (vI (wr (x9 + 1)))] [] M3 (qI Q))))))))) : CW G K mX12_meeting (n + 1) 105 [some (vO 0), none, none, none, none, none, some (vI x6), some (vI x7), some (vI x8), some (vI x9)] [] M (qI Q) := by
  refine r_iload dX12_meeting_105 rfl ?_
  refine r_aload_n dX12_meeting_107 rfl ?_
  refine r_getA dX12_meeting_108 fX12_48 rfl uX12_26 ?_
  refine r_iconst dX12_meeting_111 (by decide) ?_
  refine s_iald dX12_meeting_112 rfl tX12_26 aX12_26 (by decide) ?_
  refine r_icmp_ge (tgt := 189) dX12_meeting_113 (by decide) (fun h_7 => ?_) (fun h_7 => ?_)
  · have T := T.1 h_7
    refine r_iload dX12_meeting_189 rfl ?_
    refine r_iconst dX12_meeting_191 (by decide) ?_
    refine r_icmp_ne (tgt := 198) dX12_meeting_192 (by decide) (fun h_3 => ?_) (fun h_3 => ?_)
    · have T := T.1 h_3
      refine r_iload dX12_meeting_198 rfl ?_
      refine r_if_ge (tgt := 208) dX12_meeting_200 (by decide) (fun h_2 => ?_) (fun h_2 => ?_)
      · have T := T.1 h_2
        refine r_iload dX12_meeting_208 rfl ?_
        refine r_if_ne (tgt := 223) dX12_meeting_210 (by decide) (fun h_1 => ?_) (fun h_1 => ?_)
        · have T := T.1 h_1
          refine r_iload dX12_meeting_223 rfl ?_
          exact r_ireturn dX12_meeting_225 rfl ⟨_, rfl, T⟩
        · have T := T.2 h_1
          refine r_aload_n dX12_meeting_213 rfl ?_
          refine r_getA dX12_meeting_214 fX12_70 rfl uX12_33 ?_
          refine r_iload dX12_meeting_217 rfl ?_
          refine s_iald dX12_meeting_219 rfl tX12_33 aX12_33 T.1 ?_
          have T := T.2
          refine r_goto (tgt := 225) dX12_meeting_220 (by decide) ?_
          exact r_ireturn dX12_meeting_225 rfl ⟨_, rfl, T⟩
      · have T := T.2 h_2
        refine r_bipush dX12_meeting_203 (by decide) (by decide) ?_
        refine r_goto (tgt := 225) dX12_meeting_205 (by decide) ?_
        exact r_ireturn dX12_meeting_225 rfl ⟨_, rfl, T⟩
    · have T := T.2 h_3
      refine r_iload dX12_meeting_195 rfl ?_
      exact r_ireturn dX12_meeting_197 rfl ⟨_, rfl, T⟩
  · have T := T.2 h_7
    refine r_aload_n dX12_meeting_116 rfl ?_
    refine r_getA dX12_meeting_117 fX12_70 rfl uX12_33 ?_
    refine r_iload dX12_meeting_120 rfl ?_
    refine r_aload_n dX12_meeting_122 rfl ?_
    refine r_getA dX12_meeting_123 fX12_70 rfl uX12_33 ?_
    refine r_iload dX12_meeting_126 rfl ?_
    refine s_iald dX12_meeting_128 rfl tX12_33 aX12_33 T.1 ?_
    have T := T.2
    refine r_aload_n dX12_meeting_129 rfl ?_
    refine r_iload dX12_meeting_130 rfl ?_
    refine r_callVI (md' := mX12_soonestTo) (as := [vI x9]) dX12_meeting_132 lX12_422 iX12_soonestTo rfl rfl rfl (Nat.le_of_ble_eq_true rfl) T (fun r_1 M1 T => ?_)
    refine r_callSI (md' := mX12_later) (as := [vI (M 0 33 x9.toNat), vI r_1]) dX12_meeting_135 lX12_404 iX12_later rfl rfl (Nat.le_of_ble_eq_true rfl) T (fun r_2 M2 T => ?_)
    refine n_iast dX12_meeting_138 rfl tX12_33 aX12_33 T.1 (fun M3 hM3 => ?_)
    have T := T.2 M3 hM3
    refine r_aload_n dX12_meeting_139 rfl ?_
    refine r_getA dX12_meeting_140 fX12_70 rfl uX12_33 ?_
    refine r_iload dX12_meeting_143 rfl ?_
    refine s_iald dX12_meeting_145 rfl tX12_33 aX12_33 T.1 ?_
    have T := T.2
    refine r_ldc (z := 99999) dX12_meeting_146 kX12_188 (by decide) (by decide) ?_
    refine r_icmp_ne (tgt := 154) dX12_meeting_148 (by decide) (fun h_6 => ?_) (fun h_6 => ?_)
    · have T := T.1 h_6
      refine r_iinc dX12_meeting_154 rfl (by decide) rfl ?_
      refine r_iload dX12_meeting_157 rfl ?_
      refine r_if_lt (tgt := 179) dX12_meeting_159 (by decide) (fun h_5 => ?_) (fun h_5 => ?_)
      · have T := T.1 h_5
        refine r_iload dX12_meeting_179 rfl ?_
        refine r_istore dX12_meeting_181 (by decide) rfl ?_
        refine r_iinc dX12_meeting_183 rfl (by decide) rfl ?_
        refine r_goto (tgt := 105) dX12_meeting_186 (by decide) ?_
        exact T
      · have T := T.2 h_5
        refine r_aload_n dX12_meeting_162 rfl ?_
        refine r_getA dX12_meeting_163 fX12_70 rfl uX12_33 ?_
        refine r_iload dX12_meeting_166 rfl ?_
        refine s_iald dX12_meeting_168 rfl tX12_33 aX12_33 T.1 ?_
        have T := T.2
        refine r_aload_n dX12_meeting_169 rfl ?_
        refine r_getA dX12_meeting_170 fX12_70 rfl uX12_33 ?_
        refine r_iload dX12_meeting_173 rfl ?_
        refine s_iald dX12_meeting_175 rfl tX12_33 aX12_33 T.1 ?_
        have T := T.2
        refine r_icmp_ge (tgt := 183) dX12_meeting_176 (by decide) (fun h_4 => ?_) (fun h_4 => ?_)
        · have T := T.1 h_4
          refine r_iinc dX12_meeting_183 rfl (by decide) rfl ?_
          refine r_goto (tgt := 105) dX12_meeting_186 (by decide) ?_
          exact T
        · have T := T.2 h_4
          refine r_iload dX12_meeting_179 rfl ?_
          refine r_istore dX12_meeting_181 (by decide) rfl ?_
          refine r_iinc dX12_meeting_183 rfl (by decide) rfl ?_
          refine r_goto (tgt := 105) dX12_meeting_186 (by decide) ?_
          exact T
    · have T := T.2 h_6
      refine r_goto (tgt := 183) dX12_meeting_151 (by decide) ?_
      refine r_iinc dX12_meeting_183 rfl (by decide) rfl ?_
      refine r_goto (tgt := 105) dX12_meeting_186 (by decide) ?_
      exact T
theorem eX12_meeting {G : Gx} {n : Nat} {M : Mem} {Q : Int → Mem → Prop}  {x1 : Int} {x2 : Int} {x3 : Int} {x4 : Int} {x5 : Int} {x6 : Int} (h : ∀ K : Kx, CW G K mX12_meeting n 0 [some (vO 0), some (vI x1), some (vI x2), some (vI x3), some (vI x4), some (vI x5), some (vI x6), none, none, none] [] M (qI Q)) : OkI G n mX12_meeting [vO 0, vI x1, vI x2, vI x3, vI x4, vI x5, vI x6] M Q := Ok_of (by decide) (Nat.le_of_ble_eq_true rfl) rfl h
-- DownOnlyModel wayBy (IIII)I
set_option maxRecDepth 20000 in
set_option maxHeartbeats 1000000 in
theorem bX12_wayBy_0 {G : Gx} {K : Kx} {n : Nat} {M : Mem} {Q : Int → Mem → Prop}  {x1 : Int} {x2 : Int} {x3 : Int} {x4 : Int}  (T : CW G K mX12_wayBy (n + 1) 3 [some (vO 0), some (vI x1), some (vI x2), some (vI x3), some (vI x4), some (vI 0), none, none] [] M (qI Q)) : CW G K mX12_wayBy (n + 1) 0 [some (vO 0), some (vI x1), some (vI x2), some (vI x3), some (vI x4), none, none, none] [] M (qI Q) := by
  refine r_iconst dX12_wayBy_0 (by decide) ?_
  refine r_istore dX12_wayBy_1 (by decide) rfl ?_
  exact T
set_option maxRecDepth 20000 in
set_option maxHeartbeats 1000000 in
theorem bX12_wayBy_3 {G : Gx} {K : Kx} {n : Nat} {M : Mem} {Q : Int → Mem → Prop}  {x1 : Int} {x2 : Int} {x3 : Int} {x4 : Int} {x5 : Int}  (T : (M 0 26 1 ≤ x5 → Q (-1) M) ∧ (¬ (M 0 26 1 ≤ x5) → OkI G n mX12_endOf [vO 0, vI x5, vI x1] M (fun r_1 M1 => (r_1 < 0 → CW G K mX12_wayBy (n + 1) 3 [some (vO 0), some (vI x1), some (vI x2), some (vI x3), some (vI x4), some (vI (wr (x5 + 1))), none, none] [] M1 (qI Q)) ∧ (¬ (r_1 < 0) → OkI G n mX12_opens_ [vO 0, vI x5, vI x2] M1 (fun r_2 M2 => (r_2 ≤ 1439 → OkI G n mX12_opens_ [vO 0, vI x5, vI x2] M2 (fun r_3 M3 => OkI G n mX12_wayOf [vO 0, vI x5, vI 2] M3 (fun r_4 M4 => (wr (r_3 + r_4) ≤ x4 → OkV G n mX12_spreads [vO 0, vI r_1, vI (wr (r_3 + r_4)), vI 0] M4 (fun M5 => OkI G n mX12_soonestTo [vO 0, vI x3] M5 (fun r_5 M6 => (¬ r_5 = x4 → CW G K mX12_wayBy (n + 1) 3 [some (vO 0), some (vI x1), some (vI x2), some (vI x3), some (vI x4), some (vI (wr (x5 + 1))), none, none] [] M6 (qI Q)) ∧ (r_5 = x4 → Q x5 M6)))) ∧ (¬ (wr (r_3 + r_4) ≤ x4) → CW G K mX12_wayBy (n + 1) 3 [some (vO 0), some (vI x1), some (vI x2), some (vI x3), some (vI x4), some (vI (wr (x5 + 1))), none, none] [] M4 (qI Q))))) ∧ (¬ (r_2 ≤ 1439) → CW G K mX12_wayBy (n + 1) 3 [some (vO 0), some (vI x1), some (vI x2), some (vI x3), some (vI x4), some (vI (wr (x5 + 1))), none, none] [] M2 (qI Q))))))) : CW G K mX12_wayBy (n + 1) 3 [some (vO 0), some (vI x1), some (vI x2), some (vI x3), some (vI x4), some (vI x5), none, none] [] M (qI Q) := by
  refine r_iload dX12_wayBy_3 rfl ?_
  refine r_aload_n dX12_wayBy_5 rfl ?_
  refine r_getA dX12_wayBy_6 fX12_48 rfl uX12_26 ?_
  refine r_iconst dX12_wayBy_9 (by decide) ?_
  refine s_iald dX12_wayBy_10 rfl tX12_26 aX12_26 (by decide) ?_
  refine r_icmp_ge (tgt := 99) dX12_wayBy_11 (by decide) (fun h_5 => ?_) (fun h_5 => ?_)
  · have T := T.1 h_5
    refine r_iconst dX12_wayBy_99 (by decide) ?_
    exact r_ireturn dX12_wayBy_100 rfl ⟨_, rfl, T⟩
  · have T := T.2 h_5
    refine r_aload_n dX12_wayBy_14 rfl ?_
    refine r_iload dX12_wayBy_15 rfl ?_
    refine r_iload_n dX12_wayBy_17 rfl ?_
    refine r_callVI (md' := mX12_endOf) (as := [vI x5, vI x1]) dX12_wayBy_18 lX12_349 iX12_endOf rfl rfl rfl (Nat.le_of_ble_eq_true rfl) T (fun r_1 M1 T => ?_)
    refine r_istore dX12_wayBy_21 (by decide) rfl ?_
    refine r_iload dX12_wayBy_23 rfl ?_
    refine r_if_lt (tgt := 93) dX12_wayBy_25 (by decide) (fun h_4 => ?_) (fun h_4 => ?_)
    · have T := T.1 h_4
      refine r_iinc dX12_wayBy_93 rfl (by decide) rfl ?_
      refine r_goto (tgt := 3) dX12_wayBy_96 (by decide) ?_
      exact CW_msk [true, true, true, true, true, true, false, false] rfl T
    · have T := T.2 h_4
      refine r_aload_n dX12_wayBy_28 rfl ?_
      refine r_iload dX12_wayBy_29 rfl ?_
      refine r_iload_n dX12_wayBy_31 rfl ?_
      refine r_callVI (md' := mX12_opens_) (as := [vI x5, vI x2]) dX12_wayBy_32 lX12_410 iX12_opens_ rfl rfl rfl (Nat.le_of_ble_eq_true rfl) T (fun r_2 M2 T => ?_)
      refine r_sipush dX12_wayBy_35 (by decide) (by decide) ?_
      refine r_icmp_le (tgt := 44) dX12_wayBy_38 (by decide) (fun h_3 => ?_) (fun h_3 => ?_)
      · have T := T.1 h_3
        refine r_aload_n dX12_wayBy_44 rfl ?_
        refine r_iload dX12_wayBy_45 rfl ?_
        refine r_iload_n dX12_wayBy_47 rfl ?_
        refine r_callVI (md' := mX12_opens_) (as := [vI x5, vI x2]) dX12_wayBy_48 lX12_410 iX12_opens_ rfl rfl rfl (Nat.le_of_ble_eq_true rfl) T (fun r_3 M3 T => ?_)
        refine r_aload_n dX12_wayBy_51 rfl ?_
        refine r_iload dX12_wayBy_52 rfl ?_
        refine r_iconst dX12_wayBy_54 (by decide) ?_
        refine r_callVI (md' := mX12_wayOf) (as := [vI x5, vI 2]) dX12_wayBy_55 lX12_322 iX12_wayOf rfl rfl rfl (Nat.le_of_ble_eq_true rfl) T (fun r_4 M4 T => ?_)
        refine r_iadd dX12_wayBy_58 ?_
        refine r_istore dX12_wayBy_59 (by decide) rfl ?_
        refine r_iload dX12_wayBy_61 rfl ?_
        refine r_iload dX12_wayBy_63 rfl ?_
        refine r_icmp_le (tgt := 71) dX12_wayBy_65 (by decide) (fun h_2 => ?_) (fun h_2 => ?_)
        · have T := T.1 h_2
          refine r_aload_n dX12_wayBy_71 rfl ?_
          refine r_iload dX12_wayBy_72 rfl ?_
          refine r_iload dX12_wayBy_74 rfl ?_
          refine r_iconst dX12_wayBy_76 (by decide) ?_
          refine r_callVV (md' := mX12_spreads) (as := [vI r_1, vI (wr (r_3 + r_4)), vI 0]) dX12_wayBy_77 lX12_418 iX12_spreads rfl rfl rfl (Nat.le_of_ble_eq_true rfl) T (fun M5 T => ?_)
          refine r_aload_n dX12_wayBy_80 rfl ?_
          refine r_iload_n dX12_wayBy_81 rfl ?_
          refine r_callVI (md' := mX12_soonestTo) (as := [vI x3]) dX12_wayBy_82 lX12_422 iX12_soonestTo rfl rfl rfl (Nat.le_of_ble_eq_true rfl) T (fun r_5 M6 T => ?_)
          refine r_iload dX12_wayBy_85 rfl ?_
          refine r_icmp_ne (tgt := 93) dX12_wayBy_87 (by decide) (fun h_1 => ?_) (fun h_1 => ?_)
          · have T := T.1 h_1
            refine r_iinc dX12_wayBy_93 rfl (by decide) rfl ?_
            refine r_goto (tgt := 3) dX12_wayBy_96 (by decide) ?_
            exact CW_msk [true, true, true, true, true, true, false, false] rfl T
          · have T := T.2 h_1
            refine r_iload dX12_wayBy_90 rfl ?_
            exact r_ireturn dX12_wayBy_92 rfl ⟨_, rfl, T⟩
        · have T := T.2 h_2
          refine r_goto (tgt := 93) dX12_wayBy_68 (by decide) ?_
          refine r_iinc dX12_wayBy_93 rfl (by decide) rfl ?_
          refine r_goto (tgt := 3) dX12_wayBy_96 (by decide) ?_
          exact CW_msk [true, true, true, true, true, true, false, false] rfl T
      · have T := T.2 h_3
        refine r_goto (tgt := 93) dX12_wayBy_41 (by decide) ?_
        refine r_iinc dX12_wayBy_93 rfl (by decide) rfl ?_
        refine r_goto (tgt := 3) dX12_wayBy_96 (by decide) ?_
        exact CW_msk [true, true, true, true, true, true, false, false] rfl T
theorem eX12_wayBy {G : Gx} {n : Nat} {M : Mem} {Q : Int → Mem → Prop}  {x1 : Int} {x2 : Int} {x3 : Int} {x4 : Int} (h : ∀ K : Kx, CW G K mX12_wayBy n 0 [some (vO 0), some (vI x1), some (vI x2), some (vI x3), some (vI x4), none, none, none] [] M (qI Q)) : OkI G n mX12_wayBy [vO 0, vI x1, vI x2, vI x3, vI x4] M Q := Ok_of (by decide) (Nat.le_of_ble_eq_true rfl) rfl h
-- DownOnlyModel travels (III)I
set_option maxRecDepth 20000 in
set_option maxHeartbeats 1000000 in
theorem bX12_travels_0 {G : Gx} {K : Kx} {n : Nat} {M : Mem} {Q : Int → Mem → Prop}  {x1 : Int} {x2 : Int} {x3 : Int}  (T : OkV G n mX12_spreads [vO 0, vI x1, vI x2, vI 0] M (fun M1 => OkI G n mX12_soonestTo [vO 0, vI x3] M1 (fun r_1 M2 => ∀ M3 : Mem, M3 = mset M2 0 39 0 0 → CW G K mX12_travels (n + 1) 25 [some (vO 0), none, none, some (vI x3), some (vI r_1), some (vI x1), some (vI x2), none] [] M3 (qI Q)))) : CW G K mX12_travels (n + 1) 0 [some (vO 0), some (vI x1), some (vI x2), some (vI x3), none, none, none, none] [] M (qI Q) := by
  refine r_aload_n dX12_travels_0 rfl ?_
  refine r_iload_n dX12_travels_1 rfl ?_
  refine r_iload_n dX12_travels_2 rfl ?_
  refine r_iconst dX12_travels_3 (by decide) ?_
  refine r_callVV (md' := mX12_spreads) (as := [vI x1, vI x2, vI 0]) dX12_travels_4 lX12_418 iX12_spreads rfl rfl rfl (Nat.le_of_ble_eq_true rfl) T (fun M1 T => ?_)
  refine r_aload_n dX12_travels_7 rfl ?_
  refine r_iload_n dX12_travels_8 rfl ?_
  refine r_callVI (md' := mX12_soonestTo) (as := [vI x3]) dX12_travels_9 lX12_422 iX12_soonestTo rfl rfl rfl (Nat.le_of_ble_eq_true rfl) T (fun r_1 M2 T => ?_)
  refine r_istore dX12_travels_12 (by decide) rfl ?_
  refine r_iload_n dX12_travels_14 rfl ?_
  refine r_istore dX12_travels_15 (by decide) rfl ?_
  refine r_iload_n dX12_travels_17 rfl ?_
  refine r_istore dX12_travels_18 (by decide) rfl ?_
  refine r_aload_n dX12_travels_20 rfl ?_
  refine r_iconst dX12_travels_21 (by decide) ?_
  refine n_put dX12_travels_22 pX12_448 rfl tX12_39 (fun M3 hM3 => ?_)
  have T := T M3 hM3
  exact CW_msk [true, false, false, true, true, true, true, false] rfl T
set_option maxRecDepth 20000 in
set_option maxHeartbeats 1000000 in
theorem bX12_travels_25 {G : Gx} {K : Kx} {n : Nat} {M : Mem} {Q : Int → Mem → Prop}  {x3 : Int} {x4 : Int} {x5 : Int} {x6 : Int}  (T : (99999 ≤ x4 → Q x4 M) ∧ (¬ (99999 ≤ x4) → (x5 = x3 → Q x4 M) ∧ (¬ (x5 = x3) → OkI G n mX12_wayBy [vO 0, vI x5, vI x6, vI x3, vI x4] M (fun r_1 M1 => (0 ≤ M1 0 39 0 ∧ M1 0 39 0 < 1440) ∧ (∀ M2 : Mem, M2 = mset M1 0 34 (M1 0 39 0).toNat r_1 → (0 ≤ M2 0 39 0 ∧ M2 0 39 0 < 1440) ∧ (∀ M3 : Mem, M3 = mset M2 0 36 (M2 0 39 0).toNat x5 → OkI G n mX12_opens_ [vO 0, vI r_1, vI x6] M3 (fun r_2 M4 => (0 ≤ M3 0 39 0 ∧ M3 0 39 0 < 1440) ∧ (∀ M5 : Mem, M5 = mset M4 0 35 (M3 0 39 0).toNat r_2 → OkI G n mX12_endOf [vO 0, vI r_1, vI x5] M5 (fun r_3 M6 => (0 ≤ M6 0 39 0 ∧ M6 0 39 0 < 1440) ∧ (OkI G n mX12_wayOf [vO 0, vI r_1, vI 2] M6 (fun r_4 M7 => (0 ≤ M7 0 39 0 ∧ M7 0 39 0 < 1440) ∧ (∀ M8 : Mem, M8 = mset M7 0 37 (M7 0 39 0).toNat r_3 → (0 ≤ M8 0 39 0 ∧ M8 0 39 0 < 1440) ∧ (∀ M9 : Mem, M9 = mset M8 0 38 (M8 0 39 0).toNat (wr (M6 0 35 (M6 0 39 0).toNat + r_4)) → ∀ M10 : Mem, M10 = mset M9 0 39 0 (wr (M9 0 39 0 + 1)) → CW G K mX12_travels (n + 1) 25 [some (vO 0), none, none, some (vI x3), some (vI x4), some (vI r_3), some (vI (wr (M6 0 35 (M6 0 39 0).toNat + r_4))), none] [] M10 (qI Q)))))))))))))) : CW G K mX12_travels (n + 1) 25 [some (vO 0), none, none, some (vI x3), some (vI x4), some (vI x5), some (vI x6), none] [] M (qI Q) := by
  refine r_iload dX12_travels_25 rfl ?_
  refine r_ldc (z := 99999) dX12_travels_27 kX12_188 (by decide) (by decide) ?_
  refine r_icmp_ge (tgt := 154) dX12_travels_29 (by decide) (fun h_2 => ?_) (fun h_2 => ?_)
  · have T := T.1 h_2
    refine r_iload dX12_travels_154 rfl ?_
    exact r_ireturn dX12_travels_156 rfl ⟨_, rfl, T⟩
  · have T := T.2 h_2
    refine r_iload dX12_travels_32 rfl ?_
    refine r_iload_n dX12_travels_34 rfl ?_
    refine r_icmp_eq (tgt := 154) dX12_travels_35 (by decide) (fun h_1 => ?_) (fun h_1 => ?_)
    · have T := T.1 h_1
      refine r_iload dX12_travels_154 rfl ?_
      exact r_ireturn dX12_travels_156 rfl ⟨_, rfl, T⟩
    · have T := T.2 h_1
      refine r_aload_n dX12_travels_38 rfl ?_
      refine r_iload dX12_travels_39 rfl ?_
      refine r_iload dX12_travels_41 rfl ?_
      refine r_iload_n dX12_travels_43 rfl ?_
      refine r_iload dX12_travels_44 rfl ?_
      refine r_callVI (md' := mX12_wayBy) (as := [vI x5, vI x6, vI x3, vI x4]) dX12_travels_46 lX12_451 iX12_wayBy rfl rfl rfl (Nat.le_of_ble_eq_true rfl) T (fun r_1 M1 T => ?_)
      refine r_istore dX12_travels_49 (by decide) rfl ?_
      refine r_aload_n dX12_travels_51 rfl ?_
      refine r_getA dX12_travels_52 fX12_73 rfl uX12_34 ?_
      refine r_aload_n dX12_travels_55 rfl ?_
      refine r_getI dX12_travels_56 fX12_448 rfl tX12_39 ?_
      refine r_iload dX12_travels_59 rfl ?_
      refine n_iast dX12_travels_61 rfl tX12_34 aX12_34 T.1 (fun M2 hM2 => ?_)
      have T := T.2 M2 hM2
      refine r_aload_n dX12_travels_62 rfl ?_
      refine r_getA dX12_travels_63 fX12_79 rfl uX12_36 ?_
      refine r_aload_n dX12_travels_66 rfl ?_
      refine r_getI dX12_travels_67 fX12_448 rfl tX12_39 ?_
      refine r_iload dX12_travels_70 rfl ?_
      refine n_iast dX12_travels_72 rfl tX12_36 aX12_36 T.1 (fun M3 hM3 => ?_)
      have T := T.2 M3 hM3
      refine r_aload_n dX12_travels_73 rfl ?_
      refine r_getA dX12_travels_74 fX12_76 rfl uX12_35 ?_
      refine r_aload_n dX12_travels_77 rfl ?_
      refine r_getI dX12_travels_78 fX12_448 rfl tX12_39 ?_
      refine r_aload_n dX12_travels_81 rfl ?_
      refine r_iload dX12_travels_82 rfl ?_
      refine r_iload dX12_travels_84 rfl ?_
      refine r_callVI (md' := mX12_opens_) (as := [vI r_1, vI x6]) dX12_travels_86 lX12_410 iX12_opens_ rfl rfl rfl (Nat.le_of_ble_eq_true rfl) T (fun r_2 M4 T => ?_)
      refine n_iast dX12_travels_89 rfl tX12_35 aX12_35 T.1 (fun M5 hM5 => ?_)
      have T := T.2 M5 hM5
      refine r_aload_n dX12_travels_90 rfl ?_
      refine r_iload dX12_travels_91 rfl ?_
      refine r_iload dX12_travels_93 rfl ?_
      refine r_callVI (md' := mX12_endOf) (as := [vI r_1, vI x5]) dX12_travels_95 lX12_349 iX12_endOf rfl rfl rfl (Nat.le_of_ble_eq_true rfl) T (fun r_3 M6 T => ?_)
      refine r_istore dX12_travels_98 (by decide) rfl ?_
      refine r_aload_n dX12_travels_100 rfl ?_
      refine r_getA dX12_travels_101 fX12_76 rfl uX12_35 ?_
      refine r_aload_n dX12_travels_104 rfl ?_
      refine r_getI dX12_travels_105 fX12_448 rfl tX12_39 ?_
      refine s_iald dX12_travels_108 rfl tX12_35 aX12_35 T.1 ?_
      have T := T.2
      refine r_aload_n dX12_travels_109 rfl ?_
      refine r_iload dX12_travels_110 rfl ?_
      refine r_iconst dX12_travels_112 (by decide) ?_
      refine r_callVI (md' := mX12_wayOf) (as := [vI r_1, vI 2]) dX12_travels_113 lX12_322 iX12_wayOf rfl rfl rfl (Nat.le_of_ble_eq_true rfl) T (fun r_4 M7 T => ?_)
      refine r_iadd dX12_travels_116 ?_
      refine r_istore dX12_travels_117 (by decide) rfl ?_
      refine r_aload_n dX12_travels_119 rfl ?_
      refine r_getA dX12_travels_120 fX12_82 rfl uX12_37 ?_
      refine r_aload_n dX12_travels_123 rfl ?_
      refine r_getI dX12_travels_124 fX12_448 rfl tX12_39 ?_
      refine r_iload dX12_travels_127 rfl ?_
      refine n_iast dX12_travels_129 rfl tX12_37 aX12_37 T.1 (fun M8 hM8 => ?_)
      have T := T.2 M8 hM8
      refine r_aload_n dX12_travels_130 rfl ?_
      refine r_getA dX12_travels_131 fX12_85 rfl uX12_38 ?_
      refine r_aload_n dX12_travels_134 rfl ?_
      refine r_getI dX12_travels_135 fX12_448 rfl tX12_39 ?_
      refine r_iload dX12_travels_138 rfl ?_
      refine n_iast dX12_travels_140 rfl tX12_38 aX12_38 T.1 (fun M9 hM9 => ?_)
      have T := T.2 M9 hM9
      refine r_aload_n dX12_travels_141 rfl ?_
      refine r_dup dX12_travels_142 rfl ?_
      refine r_getI dX12_travels_143 fX12_448 rfl tX12_39 ?_
      refine r_iconst dX12_travels_146 (by decide) ?_
      refine r_iadd dX12_travels_147 ?_
      refine n_put dX12_travels_148 pX12_448 rfl tX12_39 (fun M10 hM10 => ?_)
      have T := T M10 hM10
      refine r_goto (tgt := 25) dX12_travels_151 (by decide) ?_
      exact CW_msk [true, false, false, true, true, true, true, false] rfl T
theorem eX12_travels {G : Gx} {n : Nat} {M : Mem} {Q : Int → Mem → Prop}  {x1 : Int} {x2 : Int} {x3 : Int} (h : ∀ K : Kx, CW G K mX12_travels n 0 [some (vO 0), some (vI x1), some (vI x2), some (vI x3), none, none, none, none] [] M (qI Q)) : OkI G n mX12_travels [vO 0, vI x1, vI x2, vI x3] M Q := Ok_of (by decide) (Nat.le_of_ble_eq_true rfl) rfl h
-- DownOnlyModel trip (III)I
set_option maxRecDepth 20000 in
set_option maxHeartbeats 1000000 in
theorem bX12_trip_0 {G : Gx} {K : Kx} {n : Nat} {M : Mem} {Q : Int → Mem → Prop}  {x1 : Int} {x2 : Int} {x3 : Int}  (T : (¬ x1 = (-1) → (M 0 26 8 = 12 → Q (-2) M) ∧ (¬ (M 0 26 8 = 12) → OkI G n mX12_isRoom [vO 0, vI x1] M (fun r_1 M1 => (r_1 = 0 → Q (-2) M1) ∧ (¬ (r_1 = 0) → OkI G n mX12_isMinute [vI x2] M1 (fun r_2 M2 => (r_2 = 0 → Q (-2) M2) ∧ (¬ (r_2 = 0) → OkI G n mX12_isRoom [vO 0, vI x3] M2 (fun r_3 M3 => (r_3 = 0 → Q (-2) M3) ∧ (¬ (r_3 = 0) → OkI G n mX12_travels [vO 0, vI x1, vI x2, vI x3] M3 (fun r_4 M4 => (¬ r_4 = 99999 → (0 ≤ wr (252 + (wr (3 * (M4 0 26 8)))) ∧ wr (252 + (wr (3 * (M4 0 26 8)))) < 328) ∧ (∀ M5 : Mem, M5 = mset M4 0 26 (wr (252 + (wr (3 * (M4 0 26 8))))).toNat x1 → (0 ≤ wr (wr (252 + (wr (3 * (M4 0 26 8)))) + 1) ∧ wr (wr (252 + (wr (3 * (M4 0 26 8)))) + 1) < 328) ∧ (∀ M6 : Mem, M6 = mset M5 0 26 (wr (wr (252 + (wr (3 * (M4 0 26 8)))) + 1)).toNat x2 → (0 ≤ wr (wr (252 + (wr (3 * (M4 0 26 8)))) + 2) ∧ wr (wr (252 + (wr (3 * (M4 0 26 8)))) + 2) < 328) ∧ (∀ M7 : Mem, M7 = mset M6 0 26 (wr (wr (252 + (wr (3 * (M4 0 26 8)))) + 2)).toNat x3 → ∀ M8 : Mem, M8 = mset M7 0 26 8 (wr (M7 0 26 8 + 1)) → Q (M8 0 26 8) M8)))) ∧ (r_4 = 99999 → Q (-2) M4)))))))))) ∧ (x1 = (-1) → ∀ M9 : Mem, M9 = mset M 0 26 8 0 → Q 0 M9)) : CW G K mX12_trip (n + 1) 0 [some (vO 0), some (vI x1), some (vI x2), some (vI x3), none] [] M (qI Q) := by
  refine r_iload_n dX12_trip_0 rfl ?_
  refine r_iconst dX12_trip_1 (by decide) ?_
  refine r_icmp_ne (tgt := 15) dX12_trip_2 (by decide) (fun h_6 => ?_) (fun h_6 => ?_)
  · have T := T.1 h_6
    refine r_aload_n dX12_trip_15 rfl ?_
    refine r_getA dX12_trip_16 fX12_48 rfl uX12_26 ?_
    refine r_bipush dX12_trip_19 (by decide) (by decide) ?_
    refine s_iald dX12_trip_21 rfl tX12_26 aX12_26 (by decide) ?_
    refine r_bipush dX12_trip_22 (by decide) (by decide) ?_
    refine r_icmp_eq (tgt := 62) dX12_trip_24 (by decide) (fun h_5 => ?_) (fun h_5 => ?_)
    · have T := T.1 h_5
      refine r_bipush dX12_trip_62 (by decide) (by decide) ?_
      exact r_ireturn dX12_trip_64 rfl ⟨_, rfl, T⟩
    · have T := T.2 h_5
      refine r_aload_n dX12_trip_27 rfl ?_
      refine r_iload_n dX12_trip_28 rfl ?_
      refine r_callVI (md' := mX12_isRoom) (as := [vI x1]) dX12_trip_29 lX12_325 iX12_isRoom rfl rfl rfl (Nat.le_of_ble_eq_true rfl) T (fun r_1 M1 T => ?_)
      refine r_if_eq (tgt := 62) dX12_trip_32 (by decide) (fun h_4 => ?_) (fun h_4 => ?_)
      · have T := T.1 h_4
        refine r_bipush dX12_trip_62 (by decide) (by decide) ?_
        exact r_ireturn dX12_trip_64 rfl ⟨_, rfl, T⟩
      · have T := T.2 h_4
        refine r_iload_n dX12_trip_35 rfl ?_
        refine r_callSI (md' := mX12_isMinute) (as := [vI x2]) dX12_trip_36 lX12_415 iX12_isMinute rfl rfl (Nat.le_of_ble_eq_true rfl) T (fun r_2 M2 T => ?_)
        refine r_if_eq (tgt := 62) dX12_trip_39 (by decide) (fun h_3 => ?_) (fun h_3 => ?_)
        · have T := T.1 h_3
          refine r_bipush dX12_trip_62 (by decide) (by decide) ?_
          exact r_ireturn dX12_trip_64 rfl ⟨_, rfl, T⟩
        · have T := T.2 h_3
          refine r_aload_n dX12_trip_42 rfl ?_
          refine r_iload_n dX12_trip_43 rfl ?_
          refine r_callVI (md' := mX12_isRoom) (as := [vI x3]) dX12_trip_44 lX12_325 iX12_isRoom rfl rfl rfl (Nat.le_of_ble_eq_true rfl) T (fun r_3 M3 T => ?_)
          refine r_if_eq (tgt := 62) dX12_trip_47 (by decide) (fun h_2 => ?_) (fun h_2 => ?_)
          · have T := T.1 h_2
            refine r_bipush dX12_trip_62 (by decide) (by decide) ?_
            exact r_ireturn dX12_trip_64 rfl ⟨_, rfl, T⟩
          · have T := T.2 h_2
            refine r_aload_n dX12_trip_50 rfl ?_
            refine r_iload_n dX12_trip_51 rfl ?_
            refine r_iload_n dX12_trip_52 rfl ?_
            refine r_iload_n dX12_trip_53 rfl ?_
            refine r_callVI (md' := mX12_travels) (as := [vI x1, vI x2, vI x3]) dX12_trip_54 lX12_455 iX12_travels rfl rfl rfl (Nat.le_of_ble_eq_true rfl) T (fun r_4 M4 T => ?_)
            refine r_ldc (z := 99999) dX12_trip_57 kX12_188 (by decide) (by decide) ?_
            refine r_icmp_ne (tgt := 65) dX12_trip_59 (by decide) (fun h_1 => ?_) (fun h_1 => ?_)
            · have T := T.1 h_1
              refine r_sipush dX12_trip_65 (by decide) (by decide) ?_
              refine r_iconst dX12_trip_68 (by decide) ?_
              refine r_aload_n dX12_trip_69 rfl ?_
              refine r_getA dX12_trip_70 fX12_48 rfl uX12_26 ?_
              refine r_bipush dX12_trip_73 (by decide) (by decide) ?_
              refine s_iald dX12_trip_75 rfl tX12_26 aX12_26 (by decide) ?_
              refine r_imul dX12_trip_76 ?_
              refine r_iadd dX12_trip_77 ?_
              refine r_istore dX12_trip_78 (by decide) rfl ?_
              refine r_aload_n dX12_trip_80 rfl ?_
              refine r_getA dX12_trip_81 fX12_48 rfl uX12_26 ?_
              refine r_iload dX12_trip_84 rfl ?_
              refine r_iload_n dX12_trip_86 rfl ?_
              refine n_iast dX12_trip_87 rfl tX12_26 aX12_26 T.1 (fun M5 hM5 => ?_)
              have T := T.2 M5 hM5
              refine r_aload_n dX12_trip_88 rfl ?_
              refine r_getA dX12_trip_89 fX12_48 rfl uX12_26 ?_
              refine r_iload dX12_trip_92 rfl ?_
              refine r_iconst dX12_trip_94 (by decide) ?_
              refine r_iadd dX12_trip_95 ?_
              refine r_iload_n dX12_trip_96 rfl ?_
              refine n_iast dX12_trip_97 rfl tX12_26 aX12_26 T.1 (fun M6 hM6 => ?_)
              have T := T.2 M6 hM6
              refine r_aload_n dX12_trip_98 rfl ?_
              refine r_getA dX12_trip_99 fX12_48 rfl uX12_26 ?_
              refine r_iload dX12_trip_102 rfl ?_
              refine r_iconst dX12_trip_104 (by decide) ?_
              refine r_iadd dX12_trip_105 ?_
              refine r_iload_n dX12_trip_106 rfl ?_
              refine n_iast dX12_trip_107 rfl tX12_26 aX12_26 T.1 (fun M7 hM7 => ?_)
              have T := T.2 M7 hM7
              refine r_aload_n dX12_trip_108 rfl ?_
              refine r_getA dX12_trip_109 fX12_48 rfl uX12_26 ?_
              refine r_bipush dX12_trip_112 (by decide) (by decide) ?_
              refine r_dup2 dX12_trip_114 rfl rfl ?_
              refine s_iald dX12_trip_115 rfl tX12_26 aX12_26 (by decide) ?_
              refine r_iconst dX12_trip_116 (by decide) ?_
              refine r_iadd dX12_trip_117 ?_
              refine n_iast dX12_trip_118 rfl tX12_26 aX12_26 (by decide) (fun M8 hM8 => ?_)
              have T := T M8 hM8
              refine r_aload_n dX12_trip_119 rfl ?_
              refine r_getA dX12_trip_120 fX12_48 rfl uX12_26 ?_
              refine r_bipush dX12_trip_123 (by decide) (by decide) ?_
              refine s_iald dX12_trip_125 rfl tX12_26 aX12_26 (by decide) ?_
              exact r_ireturn dX12_trip_126 rfl ⟨_, rfl, T⟩
            · have T := T.2 h_1
              refine r_bipush dX12_trip_62 (by decide) (by decide) ?_
              exact r_ireturn dX12_trip_64 rfl ⟨_, rfl, T⟩
  · have T := T.2 h_6
    refine r_aload_n dX12_trip_5 rfl ?_
    refine r_getA dX12_trip_6 fX12_48 rfl uX12_26 ?_
    refine r_bipush dX12_trip_9 (by decide) (by decide) ?_
    refine r_iconst dX12_trip_11 (by decide) ?_
    refine n_iast dX12_trip_12 rfl tX12_26 aX12_26 (by decide) (fun M9 hM9 => ?_)
    have T := T M9 hM9
    refine r_iconst dX12_trip_13 (by decide) ?_
    exact r_ireturn dX12_trip_14 rfl ⟨_, rfl, T⟩
theorem eX12_trip {G : Gx} {n : Nat} {M : Mem} {Q : Int → Mem → Prop}  {x1 : Int} {x2 : Int} {x3 : Int} (h : ∀ K : Kx, CW G K mX12_trip n 0 [some (vO 0), some (vI x1), some (vI x2), some (vI x3), none] [] M (qI Q)) : OkI G n mX12_trip [vO 0, vI x1, vI x2, vI x3] M Q := Ok_of (by decide) (Nat.le_of_ble_eq_true rfl) rfl h
-- DownOnlyModel goesTrip (I)I
set_option maxRecDepth 20000 in
set_option maxHeartbeats 1000000 in
theorem bX12_goesTrip_0 {G : Gx} {K : Kx} {n : Nat} {M : Mem} {Q : Int → Mem → Prop}  {x1 : Int}  (T : (0 ≤ wr (252 + (wr (3 * x1))) ∧ wr (252 + (wr (3 * x1))) < 328) ∧ ((0 ≤ wr (wr (252 + (wr (3 * x1))) + 1) ∧ wr (wr (252 + (wr (3 * x1))) + 1) < 328) ∧ ((0 ≤ wr (wr (252 + (wr (3 * x1))) + 2) ∧ wr (wr (252 + (wr (3 * x1))) + 2) < 328) ∧ (OkI G n mX12_travels [vO 0, vI (M 0 26 (wr (252 + (wr (3 * x1)))).toNat), vI (M 0 26 (wr (wr (252 + (wr (3 * x1))) + 1)).toNat), vI (M 0 26 (wr (wr (252 + (wr (3 * x1))) + 2)).toNat)] M (fun r_1 M1 => Q r_1 M1))))) : CW G K mX12_goesTrip (n + 1) 0 [some (vO 0), some (vI x1)] [] M (qI Q) := by
  refine r_aload_n dX12_goesTrip_0 rfl ?_
  refine r_aload_n dX12_goesTrip_1 rfl ?_
  refine r_getA dX12_goesTrip_2 fX12_48 rfl uX12_26 ?_
  refine r_sipush dX12_goesTrip_5 (by decide) (by decide) ?_
  refine r_iconst dX12_goesTrip_8 (by decide) ?_
  refine r_iload_n dX12_goesTrip_9 rfl ?_
  refine r_imul dX12_goesTrip_10 ?_
  refine r_iadd dX12_goesTrip_11 ?_
  refine s_iald dX12_goesTrip_12 rfl tX12_26 aX12_26 T.1 ?_
  have T := T.2
  refine r_aload_n dX12_goesTrip_13 rfl ?_
  refine r_getA dX12_goesTrip_14 fX12_48 rfl uX12_26 ?_
  refine r_sipush dX12_goesTrip_17 (by decide) (by decide) ?_
  refine r_iconst dX12_goesTrip_20 (by decide) ?_
  refine r_iload_n dX12_goesTrip_21 rfl ?_
  refine r_imul dX12_goesTrip_22 ?_
  refine r_iadd dX12_goesTrip_23 ?_
  refine r_iconst dX12_goesTrip_24 (by decide) ?_
  refine r_iadd dX12_goesTrip_25 ?_
  refine s_iald dX12_goesTrip_26 rfl tX12_26 aX12_26 T.1 ?_
  have T := T.2
  refine r_aload_n dX12_goesTrip_27 rfl ?_
  refine r_getA dX12_goesTrip_28 fX12_48 rfl uX12_26 ?_
  refine r_sipush dX12_goesTrip_31 (by decide) (by decide) ?_
  refine r_iconst dX12_goesTrip_34 (by decide) ?_
  refine r_iload_n dX12_goesTrip_35 rfl ?_
  refine r_imul dX12_goesTrip_36 ?_
  refine r_iadd dX12_goesTrip_37 ?_
  refine r_iconst dX12_goesTrip_38 (by decide) ?_
  refine r_iadd dX12_goesTrip_39 ?_
  refine s_iald dX12_goesTrip_40 rfl tX12_26 aX12_26 T.1 ?_
  have T := T.2
  refine r_callVI (md' := mX12_travels) (as := [vI (M 0 26 (wr (252 + (wr (3 * x1)))).toNat), vI (M 0 26 (wr (wr (252 + (wr (3 * x1))) + 1)).toNat), vI (M 0 26 (wr (wr (252 + (wr (3 * x1))) + 2)).toNat)]) dX12_goesTrip_41 lX12_455 iX12_travels rfl rfl rfl (Nat.le_of_ble_eq_true rfl) T (fun r_1 M1 T => ?_)
  exact r_ireturn dX12_goesTrip_44 rfl ⟨_, rfl, T⟩
theorem eX12_goesTrip {G : Gx} {n : Nat} {M : Mem} {Q : Int → Mem → Prop}  {x1 : Int} (h : ∀ K : Kx, CW G K mX12_goesTrip n 0 [some (vO 0), some (vI x1)] [] M (qI Q)) : OkI G n mX12_goesTrip [vO 0, vI x1] M Q := Ok_of (by decide) (Nat.le_of_ble_eq_true rfl) rfl h
-- DownOnlyModel trips (II)I
set_option maxRecDepth 20000 in
set_option maxHeartbeats 1000000 in
theorem bX12_trips_0 {G : Gx} {K : Kx} {n : Nat} {M : Mem} {Q : Int → Mem → Prop}  {x1 : Int} {x2 : Int}  (T : OkI G n mX12_in [vL x1, vL 0, vL (wr (M 0 26 8 - 1))] M (fun r_1 M1 => (r_1 = 0 → Q (-1) M1) ∧ (¬ (r_1 = 0) → ((-1) ≤ x2 → OkI G n mX12_goesTrip [vO 0, vI x1] M1 (fun r_2 M2 => (0 ≤ x2 → (M2 0 39 0 ≤ x2 → Q (-2) M2) ∧ (¬ (M2 0 39 0 ≤ x2) → (0 ≤ x2 ∧ x2 < 1440) ∧ (Q (M2 0 34 x2.toNat) M2))) ∧ (¬ (0 ≤ x2) → Q r_2 M2))) ∧ (¬ ((-1) ≤ x2) → Q (-1) M1)))) : CW G K mX12_trips (n + 1) 0 [some (vO 0), some (vI x1), some (vI x2), none] [] M (qI Q) := by
  refine r_iload_n dX12_trips_0 rfl ?_
  refine r_i2l dX12_trips_1 ?_
  refine r_lconst (z := 0) dX12_trips_2 (by decide) (by decide) ?_
  refine r_aload_n dX12_trips_3 rfl ?_
  refine r_getA dX12_trips_4 fX12_48 rfl uX12_26 ?_
  refine r_bipush dX12_trips_7 (by decide) (by decide) ?_
  refine s_iald dX12_trips_9 rfl tX12_26 aX12_26 (by decide) ?_
  refine r_iconst dX12_trips_10 (by decide) ?_
  refine r_isub dX12_trips_11 ?_
  refine r_i2l dX12_trips_12 ?_
  refine r_callSI (md' := mX12_in) (as := [vL x1, vL 0, vL (wr (M 0 26 8 - 1))]) dX12_trips_13 lX12_148 iX12_in rfl rfl (Nat.le_of_ble_eq_true rfl) T (fun r_1 M1 T => ?_)
  refine r_if_eq (tgt := 24) dX12_trips_16 (by decide) (fun h_4 => ?_) (fun h_4 => ?_)
  · have T := T.1 h_4
    refine r_iconst dX12_trips_24 (by decide) ?_
    exact r_ireturn dX12_trips_25 rfl ⟨_, rfl, T⟩
  · have T := T.2 h_4
    refine r_iload_n dX12_trips_19 rfl ?_
    refine r_iconst dX12_trips_20 (by decide) ?_
    refine r_icmp_ge (tgt := 26) dX12_trips_21 (by decide) (fun h_3 => ?_) (fun h_3 => ?_)
    · have T := T.1 h_3
      refine r_aload_n dX12_trips_26 rfl ?_
      refine r_iload_n dX12_trips_27 rfl ?_
      refine r_callVI (md' := mX12_goesTrip) (as := [vI x1]) dX12_trips_28 lX12_459 iX12_goesTrip rfl rfl rfl (Nat.le_of_ble_eq_true rfl) T (fun r_2 M2 T => ?_)
      refine r_istore_n dX12_trips_31 (by decide) rfl ?_
      refine r_iload_n dX12_trips_32 rfl ?_
      refine r_if_ge (tgt := 40) dX12_trips_33 (by decide) (fun h_2 => ?_) (fun h_2 => ?_)
      · have T := T.1 h_2
        refine r_iload_n dX12_trips_40 rfl ?_
        refine r_aload_n dX12_trips_41 rfl ?_
        refine r_getI dX12_trips_42 fX12_448 rfl tX12_39 ?_
        refine r_icmp_ge (tgt := 57) dX12_trips_45 (by decide) (fun h_1 => ?_) (fun h_1 => ?_)
        · have T := T.1 h_1
          refine r_bipush dX12_trips_57 (by decide) (by decide) ?_
          exact r_ireturn dX12_trips_59 rfl ⟨_, rfl, T⟩
        · have T := T.2 h_1
          refine r_aload_n dX12_trips_48 rfl ?_
          refine r_getA dX12_trips_49 fX12_73 rfl uX12_34 ?_
          refine r_iload_n dX12_trips_52 rfl ?_
          refine s_iald dX12_trips_53 rfl tX12_34 aX12_34 T.1 ?_
          have T := T.2
          refine r_goto (tgt := 59) dX12_trips_54 (by decide) ?_
          exact r_ireturn dX12_trips_59 rfl ⟨_, rfl, T⟩
      · have T := T.2 h_2
        refine r_iload_n dX12_trips_36 rfl ?_
        refine r_goto (tgt := 59) dX12_trips_37 (by decide) ?_
        exact r_ireturn dX12_trips_59 rfl ⟨_, rfl, T⟩
    · have T := T.2 h_3
      refine r_iconst dX12_trips_24 (by decide) ?_
      exact r_ireturn dX12_trips_25 rfl ⟨_, rfl, T⟩
theorem eX12_trips {G : Gx} {n : Nat} {M : Mem} {Q : Int → Mem → Prop}  {x1 : Int} {x2 : Int} (h : ∀ K : Kx, CW G K mX12_trips n 0 [some (vO 0), some (vI x1), some (vI x2), none] [] M (qI Q)) : OkI G n mX12_trips [vO 0, vI x1, vI x2] M Q := Ok_of (by decide) (Nat.le_of_ble_eq_true rfl) rfl h
-- DownOnlyModel carries (I)Z
set_option maxRecDepth 20000 in
set_option maxHeartbeats 1000000 in
theorem bX12_carries_0 {G : Gx} {K : Kx} {n : Nat} {M : Mem} {Q : Int → Mem → Prop}  {x1 : Int}  (T : OkI G n mX12_goesTrip [vO 0, vI x1] M (fun r_1 M1 => CW G K mX12_carries (n + 1) 13 [some (vO 0), none, some (vI 0), some (vI 0), some (vI 0)] [] M1 (qI Q))) : CW G K mX12_carries (n + 1) 0 [some (vO 0), some (vI x1), none, none, none] [] M (qI Q) := by
  refine r_aload_n dX12_carries_0 rfl ?_
  refine r_iload_n dX12_carries_1 rfl ?_
  refine r_callVI (md' := mX12_goesTrip) (as := [vI x1]) dX12_carries_2 lX12_459 iX12_goesTrip rfl rfl rfl (Nat.le_of_ble_eq_true rfl) T (fun r_1 M1 T => ?_)
  refine r_pop dX12_carries_5 rfl ?_
  refine r_iconst dX12_carries_6 (by decide) ?_
  refine r_istore_n dX12_carries_7 (by decide) rfl ?_
  refine r_iconst dX12_carries_8 (by decide) ?_
  refine r_istore_n dX12_carries_9 (by decide) rfl ?_
  refine r_iconst dX12_carries_10 (by decide) ?_
  refine r_istore dX12_carries_11 (by decide) rfl ?_
  exact CW_msk [true, false, true, true, true] rfl T
set_option maxRecDepth 20000 in
set_option maxHeartbeats 1000000 in
theorem bX12_carries_13 {G : Gx} {K : Kx} {n : Nat} {M : Mem} {Q : Int → Mem → Prop}  {x2 : Int} {x3 : Int} {x4 : Int}  (T : (M 0 39 0 ≤ x4 → (x3 = 0 ∨ x3 = 1) ∧ Q x3 M) ∧ (¬ (M 0 39 0 ≤ x4) → (0 ≤ x4 ∧ x4 < 1440) ∧ ((0 ≤ M 0 36 x4.toNat ∧ M 0 36 x4.toNat < 16) ∧ ((0 ≤ x4 ∧ x4 < 1440) ∧ ((M 0 35 x4.toNat < M 0 40 (M 0 36 x4.toNat).toNat → CW G K mX12_carries (n + 1) 50 [some (vO 0), none, none, some (vI x3), some (vI x4)] [vI 0, vI x2] M (qI Q)) ∧ (¬ (M 0 35 x4.toNat < M 0 40 (M 0 36 x4.toNat).toNat) → CW G K mX12_carries (n + 1) 50 [some (vO 0), none, none, some (vI x3), some (vI x4)] [vI 1, vI x2] M (qI Q))))))) : CW G K mX12_carries (n + 1) 13 [some (vO 0), none, some (vI x2), some (vI x3), some (vI x4)] [] M (qI Q) := by
  refine r_iload dX12_carries_13 rfl ?_
  refine r_aload_n dX12_carries_15 rfl ?_
  refine r_getI dX12_carries_16 fX12_448 rfl tX12_39 ?_
  refine r_icmp_ge (tgt := 108) dX12_carries_19 (by decide) (fun h_2 => ?_) (fun h_2 => ?_)
  · have T := T.1 h_2
    refine r_iload_n dX12_carries_108 rfl ?_
    exact r_zreturn dX12_carries_109 rfl T.1 ⟨_, rfl, T.2⟩
  · have T := T.2 h_2
    refine r_iload_n dX12_carries_22 rfl ?_
    refine r_aload_n dX12_carries_23 rfl ?_
    refine r_getA dX12_carries_24 fX12_88 rfl uX12_40 ?_
    refine r_aload_n dX12_carries_27 rfl ?_
    refine r_getA dX12_carries_28 fX12_79 rfl uX12_36 ?_
    refine r_iload dX12_carries_31 rfl ?_
    refine s_iald dX12_carries_33 rfl tX12_36 aX12_36 T.1 ?_
    have T := T.2
    refine s_iald dX12_carries_34 rfl tX12_40 aX12_40 T.1 ?_
    have T := T.2
    refine r_aload_n dX12_carries_35 rfl ?_
    refine r_getA dX12_carries_36 fX12_76 rfl uX12_35 ?_
    refine r_iload dX12_carries_39 rfl ?_
    refine s_iald dX12_carries_41 rfl tX12_35 aX12_35 T.1 ?_
    have T := T.2
    refine r_icmp_gt (tgt := 49) dX12_carries_42 (by decide) (fun h_1 => ?_) (fun h_1 => ?_)
    · have T := T.1 h_1
      refine r_iconst dX12_carries_49 (by decide) ?_
      exact CW_msk [true, false, false, true, true] rfl T
    · have T := T.2 h_1
      refine r_iconst dX12_carries_45 (by decide) ?_
      refine r_goto (tgt := 50) dX12_carries_46 (by decide) ?_
      exact CW_msk [true, false, false, true, true] rfl T
set_option maxRecDepth 20000 in
set_option maxHeartbeats 1000000 in
theorem bX12_carries_50 {G : Gx} {K : Kx} {n : Nat} {M : Mem} {Q : Int → Mem → Prop}  {x3 : Int} {x4 : Int} {z0 : Int} {z1 : Int}  (T : (bOr z1 z0 = 0 → CW G K mX12_carries (n + 1) 13 [some (vO 0), none, some (vI (bOr z1 z0)), some (vI x3), some (vI (wr (x4 + 1)))] [] M (qI Q)) ∧ (¬ (bOr z1 z0 = 0) → (0 ≤ x4 ∧ x4 < 1440) ∧ ((0 ≤ x4 ∧ x4 < 1440) ∧ ((0 ≤ M 0 37 x4.toNat ∧ M 0 37 x4.toNat < 16) ∧ ((M 0 38 x4.toNat < M 0 40 (M 0 37 x4.toNat).toNat → (0 ≤ x4 ∧ x4 < 1440) ∧ ((0 ≤ x4 ∧ x4 < 1440) ∧ ((0 ≤ M 0 37 x4.toNat ∧ M 0 37 x4.toNat < 16) ∧ (∀ M1 : Mem, M1 = mset M 0 40 (M 0 37 x4.toNat).toNat (M 0 38 x4.toNat) → CW G K mX12_carries (n + 1) 13 [some (vO 0), none, some (vI (bOr z1 z0)), some (vI 1), some (vI (wr (x4 + 1)))] [] M1 (qI Q))))) ∧ (¬ (M 0 38 x4.toNat < M 0 40 (M 0 37 x4.toNat).toNat) → CW G K mX12_carries (n + 1) 13 [some (vO 0), none, some (vI (bOr z1 z0)), some (vI x3), some (vI (wr (x4 + 1)))] [] M (qI Q))))))) : CW G K mX12_carries (n + 1) 50 [some (vO 0), none, none, some (vI x3), some (vI x4)] [vI z0, vI z1] M (qI Q) := by
  refine r_ior dX12_carries_50 ?_
  refine r_istore_n dX12_carries_51 (by decide) rfl ?_
  refine r_iload_n dX12_carries_52 rfl ?_
  refine r_if_eq (tgt := 102) dX12_carries_53 (by decide) (fun h_2 => ?_) (fun h_2 => ?_)
  · have T := T.1 h_2
    refine r_iinc dX12_carries_102 rfl (by decide) rfl ?_
    refine r_goto (tgt := 13) dX12_carries_105 (by decide) ?_
    exact T
  · have T := T.2 h_2
    refine r_aload_n dX12_carries_56 rfl ?_
    refine r_getA dX12_carries_57 fX12_85 rfl uX12_38 ?_
    refine r_iload dX12_carries_60 rfl ?_
    refine s_iald dX12_carries_62 rfl tX12_38 aX12_38 T.1 ?_
    have T := T.2
    refine r_aload_n dX12_carries_63 rfl ?_
    refine r_getA dX12_carries_64 fX12_88 rfl uX12_40 ?_
    refine r_aload_n dX12_carries_67 rfl ?_
    refine r_getA dX12_carries_68 fX12_82 rfl uX12_37 ?_
    refine r_iload dX12_carries_71 rfl ?_
    refine s_iald dX12_carries_73 rfl tX12_37 aX12_37 T.1 ?_
    have T := T.2
    refine s_iald dX12_carries_74 rfl tX12_40 aX12_40 T.1 ?_
    have T := T.2
    refine r_icmp_lt (tgt := 81) dX12_carries_75 (by decide) (fun h_1 => ?_) (fun h_1 => ?_)
    · have T := T.1 h_1
      refine r_aload_n dX12_carries_81 rfl ?_
      refine r_getA dX12_carries_82 fX12_88 rfl uX12_40 ?_
      refine r_aload_n dX12_carries_85 rfl ?_
      refine r_getA dX12_carries_86 fX12_82 rfl uX12_37 ?_
      refine r_iload dX12_carries_89 rfl ?_
      refine s_iald dX12_carries_91 rfl tX12_37 aX12_37 T.1 ?_
      have T := T.2
      refine r_aload_n dX12_carries_92 rfl ?_
      refine r_getA dX12_carries_93 fX12_85 rfl uX12_38 ?_
      refine r_iload dX12_carries_96 rfl ?_
      refine s_iald dX12_carries_98 rfl tX12_38 aX12_38 T.1 ?_
      have T := T.2
      refine n_iast dX12_carries_99 rfl tX12_40 aX12_40 T.1 (fun M1 hM1 => ?_)
      have T := T.2 M1 hM1
      refine r_iconst dX12_carries_100 (by decide) ?_
      refine r_istore_n dX12_carries_101 (by decide) rfl ?_
      refine r_iinc dX12_carries_102 rfl (by decide) rfl ?_
      refine r_goto (tgt := 13) dX12_carries_105 (by decide) ?_
      exact T
    · have T := T.2 h_1
      refine r_goto (tgt := 102) dX12_carries_78 (by decide) ?_
      refine r_iinc dX12_carries_102 rfl (by decide) rfl ?_
      refine r_goto (tgt := 13) dX12_carries_105 (by decide) ?_
      exact T
theorem eX12_carries {G : Gx} {n : Nat} {M : Mem} {Q : Int → Mem → Prop}  {x1 : Int} (h : ∀ K : Kx, CW G K mX12_carries n 0 [some (vO 0), some (vI x1), none, none, none] [] M (qI Q)) : OkI G n mX12_carries [vO 0, vI x1] M Q := Ok_of (by decide) (Nat.le_of_ble_eq_true rfl) rfl h
-- DownOnlyModel brought (III)I
set_option maxRecDepth 20000 in
set_option maxHeartbeats 1000000 in
theorem bX12_brought_0 {G : Gx} {K : Kx} {n : Nat} {M : Mem} {Q : Int → Mem → Prop}  {x1 : Int} {x2 : Int} {x3 : Int}  (T : OkI G n mX12_isRoom [vO 0, vI x1] M (fun r_1 M1 => (r_1 = 0 → Q (-1) M1) ∧ (¬ (r_1 = 0) → OkI G n mX12_isMinute [vI x2] M1 (fun r_2 M2 => (r_2 = 0 → Q (-1) M2) ∧ (¬ (r_2 = 0) → OkI G n mX12_isRoom [vO 0, vI x3] M2 (fun r_3 M3 => (¬ r_3 = 0 → CW G K mX12_brought (n + 1) 28 [some (vO 0), some (vI x1), some (vI x2), some (vI x3), some (vI 0), none] [] M3 (qI Q)) ∧ (r_3 = 0 → Q (-1) M3))))))) : CW G K mX12_brought (n + 1) 0 [some (vO 0), some (vI x1), some (vI x2), some (vI x3), none, none] [] M (qI Q) := by
  refine r_aload_n dX12_brought_0 rfl ?_
  refine r_iload_n dX12_brought_1 rfl ?_
  refine r_callVI (md' := mX12_isRoom) (as := [vI x1]) dX12_brought_2 lX12_325 iX12_isRoom rfl rfl rfl (Nat.le_of_ble_eq_true rfl) T (fun r_1 M1 T => ?_)
  refine r_if_eq (tgt := 23) dX12_brought_5 (by decide) (fun h_3 => ?_) (fun h_3 => ?_)
  · have T := T.1 h_3
    refine r_iconst dX12_brought_23 (by decide) ?_
    exact r_ireturn dX12_brought_24 rfl ⟨_, rfl, T⟩
  · have T := T.2 h_3
    refine r_iload_n dX12_brought_8 rfl ?_
    refine r_callSI (md' := mX12_isMinute) (as := [vI x2]) dX12_brought_9 lX12_415 iX12_isMinute rfl rfl (Nat.le_of_ble_eq_true rfl) T (fun r_2 M2 T => ?_)
    refine r_if_eq (tgt := 23) dX12_brought_12 (by decide) (fun h_2 => ?_) (fun h_2 => ?_)
    · have T := T.1 h_2
      refine r_iconst dX12_brought_23 (by decide) ?_
      exact r_ireturn dX12_brought_24 rfl ⟨_, rfl, T⟩
    · have T := T.2 h_2
      refine r_aload_n dX12_brought_15 rfl ?_
      refine r_iload_n dX12_brought_16 rfl ?_
      refine r_callVI (md' := mX12_isRoom) (as := [vI x3]) dX12_brought_17 lX12_325 iX12_isRoom rfl rfl rfl (Nat.le_of_ble_eq_true rfl) T (fun r_3 M3 T => ?_)
      refine r_if_ne (tgt := 25) dX12_brought_20 (by decide) (fun h_1 => ?_) (fun h_1 => ?_)
      · have T := T.1 h_1
        refine r_iconst dX12_brought_25 (by decide) ?_
        refine r_istore dX12_brought_26 (by decide) rfl ?_
        exact T
      · have T := T.2 h_1
        refine r_iconst dX12_brought_23 (by decide) ?_
        exact r_ireturn dX12_brought_24 rfl ⟨_, rfl, T⟩
set_option maxRecDepth 20000 in
set_option maxHeartbeats 1000000 in
theorem bX12_brought_28 {G : Gx} {K : Kx} {n : Nat} {M : Mem} {Q : Int → Mem → Prop}  {x1 : Int} {x2 : Int} {x3 : Int} {x4 : Int}  (T : (16 ≤ x4 → CW G K mX12_brought (n + 1) 63 [some (vO 0), none, none, some (vI x3), some (vI 1), none] [] M (qI Q)) ∧ (¬ (16 ≤ x4) → (¬ x4 = x1 → (0 ≤ x4 ∧ x4 < 16) ∧ (∀ M1 : Mem, M1 = mset M 0 40 x4.toNat 99999 → CW G K mX12_brought (n + 1) 28 [some (vO 0), some (vI x1), some (vI x2), some (vI x3), some (vI (wr (x4 + 1))), none] [] M1 (qI Q))) ∧ (x4 = x1 → (0 ≤ x4 ∧ x4 < 16) ∧ (∀ M2 : Mem, M2 = mset M 0 40 x4.toNat x2 → CW G K mX12_brought (n + 1) 28 [some (vO 0), some (vI x1), some (vI x2), some (vI x3), some (vI (wr (x4 + 1))), none] [] M2 (qI Q))))) : CW G K mX12_brought (n + 1) 28 [some (vO 0), some (vI x1), some (vI x2), some (vI x3), some (vI x4), none] [] M (qI Q) := by
  refine r_iload dX12_brought_28 rfl ?_
  refine r_bipush dX12_brought_30 (by decide) (by decide) ?_
  refine r_icmp_ge (tgt := 60) dX12_brought_32 (by decide) (fun h_2 => ?_) (fun h_2 => ?_)
  · have T := T.1 h_2
    refine r_iconst dX12_brought_60 (by decide) ?_
    refine r_istore dX12_brought_61 (by decide) rfl ?_
    exact CW_msk [true, false, false, true, true, false] rfl T
  · have T := T.2 h_2
    refine r_aload_n dX12_brought_35 rfl ?_
    refine r_getA dX12_brought_36 fX12_88 rfl uX12_40 ?_
    refine r_iload dX12_brought_39 rfl ?_
    refine r_iload dX12_brought_41 rfl ?_
    refine r_iload_n dX12_brought_43 rfl ?_
    refine r_icmp_ne (tgt := 51) dX12_brought_44 (by decide) (fun h_1 => ?_) (fun h_1 => ?_)
    · have T := T.1 h_1
      refine r_ldc (z := 99999) dX12_brought_51 kX12_188 (by decide) (by decide) ?_
      refine n_iast dX12_brought_53 rfl tX12_40 aX12_40 T.1 (fun M1 hM1 => ?_)
      have T := T.2 M1 hM1
      refine r_iinc dX12_brought_54 rfl (by decide) rfl ?_
      refine r_goto (tgt := 28) dX12_brought_57 (by decide) ?_
      exact T
    · have T := T.2 h_1
      refine r_iload_n dX12_brought_47 rfl ?_
      refine r_goto (tgt := 53) dX12_brought_48 (by decide) ?_
      refine n_iast dX12_brought_53 rfl tX12_40 aX12_40 T.1 (fun M2 hM2 => ?_)
      have T := T.2 M2 hM2
      refine r_iinc dX12_brought_54 rfl (by decide) rfl ?_
      refine r_goto (tgt := 28) dX12_brought_57 (by decide) ?_
      exact T
set_option maxRecDepth 20000 in
set_option maxHeartbeats 1000000 in
theorem bX12_brought_63 {G : Gx} {K : Kx} {n : Nat} {M : Mem} {Q : Int → Mem → Prop}  {x3 : Int} {x4 : Int}  (T : (x4 = 0 → (0 ≤ x3 ∧ x3 < 16) ∧ ((¬ M 0 40 x3.toNat = 99999 → (0 ≤ x3 ∧ x3 < 16) ∧ (Q (M 0 40 x3.toNat) M)) ∧ (M 0 40 x3.toNat = 99999 → Q (-2) M))) ∧ (¬ (x4 = 0) → CW G K mX12_brought (n + 1) 74 [some (vO 0), none, none, some (vI x3), some (vI 0), some (vI 0)] [] M (qI Q))) : CW G K mX12_brought (n + 1) 63 [some (vO 0), none, none, some (vI x3), some (vI x4), none] [] M (qI Q) := by
  refine r_iload dX12_brought_63 rfl ?_
  refine r_if_eq (tgt := 106) dX12_brought_65 (by decide) (fun h_2 => ?_) (fun h_2 => ?_)
  · have T := T.1 h_2
    refine r_aload_n dX12_brought_106 rfl ?_
    refine r_getA dX12_brought_107 fX12_88 rfl uX12_40 ?_
    refine r_iload_n dX12_brought_110 rfl ?_
    refine s_iald dX12_brought_111 rfl tX12_40 aX12_40 T.1 ?_
    have T := T.2
    refine r_ldc (z := 99999) dX12_brought_112 kX12_188 (by decide) (by decide) ?_
    refine r_icmp_ne (tgt := 122) dX12_brought_114 (by decide) (fun h_1 => ?_) (fun h_1 => ?_)
    · have T := T.1 h_1
      refine r_aload_n dX12_brought_122 rfl ?_
      refine r_getA dX12_brought_123 fX12_88 rfl uX12_40 ?_
      refine r_iload_n dX12_brought_126 rfl ?_
      refine s_iald dX12_brought_127 rfl tX12_40 aX12_40 T.1 ?_
      have T := T.2
      exact r_ireturn dX12_brought_128 rfl ⟨_, rfl, T⟩
    · have T := T.2 h_1
      refine r_bipush dX12_brought_117 (by decide) (by decide) ?_
      refine r_goto (tgt := 128) dX12_brought_119 (by decide) ?_
      exact r_ireturn dX12_brought_128 rfl ⟨_, rfl, T⟩
  · have T := T.2 h_2
    refine r_iconst dX12_brought_68 (by decide) ?_
    refine r_istore dX12_brought_69 (by decide) rfl ?_
    refine r_iconst dX12_brought_71 (by decide) ?_
    refine r_istore dX12_brought_72 (by decide) rfl ?_
    exact T
set_option maxRecDepth 20000 in
set_option maxHeartbeats 1000000 in
theorem bX12_brought_74 {G : Gx} {K : Kx} {n : Nat} {M : Mem} {Q : Int → Mem → Prop}  {x3 : Int} {x4 : Int} {x5 : Int}  (T : (M 0 26 8 ≤ x5 → CW G K mX12_brought (n + 1) 63 [some (vO 0), none, none, some (vI x3), some (vI x4), none] [] M (qI Q)) ∧ (¬ (M 0 26 8 ≤ x5) → OkI G n mX12_carries [vO 0, vI x5] M (fun r_1 M1 => CW G K mX12_brought (n + 1) 74 [some (vO 0), none, none, some (vI x3), some (vI (bOr x4 r_1)), some (vI (wr (x5 + 1)))] [] M1 (qI Q)))) : CW G K mX12_brought (n + 1) 74 [some (vO 0), none, none, some (vI x3), some (vI x4), some (vI x5)] [] M (qI Q) := by
  refine r_iload dX12_brought_74 rfl ?_
  refine r_aload_n dX12_brought_76 rfl ?_
  refine r_getA dX12_brought_77 fX12_48 rfl uX12_26 ?_
  refine r_bipush dX12_brought_80 (by decide) (by decide) ?_
  refine s_iald dX12_brought_82 rfl tX12_26 aX12_26 (by decide) ?_
  refine r_icmp_ge (tgt := 103) dX12_brought_83 (by decide) (fun h_1 => ?_) (fun h_1 => ?_)
  · have T := T.1 h_1
    refine r_goto (tgt := 63) dX12_brought_103 (by decide) ?_
    exact CW_msk [true, false, false, true, true, false] rfl T
  · have T := T.2 h_1
    refine r_iload dX12_brought_86 rfl ?_
    refine r_aload_n dX12_brought_88 rfl ?_
    refine r_iload dX12_brought_89 rfl ?_
    refine r_callVI (md' := mX12_carries) (as := [vI x5]) dX12_brought_91 lX12_462 iX12_carries rfl rfl rfl (Nat.le_of_ble_eq_true rfl) T (fun r_1 M1 T => ?_)
    refine r_ior dX12_brought_94 ?_
    refine r_istore dX12_brought_95 (by decide) rfl ?_
    refine r_iinc dX12_brought_97 rfl (by decide) rfl ?_
    refine r_goto (tgt := 74) dX12_brought_100 (by decide) ?_
    exact T
theorem eX12_brought {G : Gx} {n : Nat} {M : Mem} {Q : Int → Mem → Prop}  {x1 : Int} {x2 : Int} {x3 : Int} (h : ∀ K : Kx, CW G K mX12_brought n 0 [some (vO 0), some (vI x1), some (vI x2), some (vI x3), none, none] [] M (qI Q)) : OkI G n mX12_brought [vO 0, vI x1, vI x2, vI x3] M Q := Ok_of (by decide) (Nat.le_of_ble_eq_true rfl) rfl h
