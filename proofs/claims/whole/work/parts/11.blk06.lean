-- DownOnlyModel makes (I)Z
set_option maxRecDepth 20000 in
set_option maxHeartbeats 1000000 in
theorem bX12_makes_0 {G : Gx} {K : Kx} {n : Nat} {M : Mem} {Q : Int → Mem → Prop}  {x1 : Int}  (T : (¬ M 0 18 0 = 60 → ∀ M1 : Mem, M1 = mset M 0 18 0 (wr (M 0 18 0 + 1)) → Q 1 M1) ∧ (M 0 18 0 = 60 → OkI G n mX12_fails [vO 0, vI 3, vI x1] M (fun r_1 M2 => (r_1 = 0 ∨ r_1 = 1) ∧ Q r_1 M2))) : CW G K mX12_makes (n + 1) 0 [some (vO 0), some (vI x1)] [] M (qI Q) := by
  refine r_aload_n dX12_makes_0 rfl ?_
  refine r_getI dX12_makes_1 fX12_171 rfl tX12_18 ?_
  refine r_bipush dX12_makes_4 (by decide) (by decide) ?_
  refine r_icmp_ne (tgt := 16) dX12_makes_6 (by decide) (fun h_1 => ?_) (fun h_1 => ?_)
  · have T := T.1 h_1
    refine r_aload_n dX12_makes_16 rfl ?_
    refine r_dup dX12_makes_17 rfl ?_
    refine r_getI dX12_makes_18 fX12_171 rfl tX12_18 ?_
    refine r_iconst dX12_makes_21 (by decide) ?_
    refine r_iadd dX12_makes_22 ?_
    refine n_put dX12_makes_23 pX12_171 rfl tX12_18 (fun M1 hM1 => ?_)
    have T := T M1 hM1
    refine r_iconst dX12_makes_26 (by decide) ?_
    exact r_zreturn dX12_makes_27 rfl (by decide) ⟨_, rfl, T⟩
  · have T := T.2 h_1
    refine r_aload_n dX12_makes_9 rfl ?_
    refine r_iconst dX12_makes_10 (by decide) ?_
    refine r_iload_n dX12_makes_11 rfl ?_
    refine r_callVI (md' := mX12_fails) (as := [vI 3, vI x1]) dX12_makes_12 lX12_141 iX12_fails rfl rfl rfl (Nat.le_of_ble_eq_true rfl) T (fun r_1 M2 T => ?_)
    exact r_zreturn dX12_makes_15 rfl T.1 ⟨_, rfl, T.2⟩
theorem eX12_makes {G : Gx} {n : Nat} {M : Mem} {Q : Int → Mem → Prop}  {x1 : Int} (h : ∀ K : Kx, CW G K mX12_makes n 0 [some (vO 0), some (vI x1)] [] M (qI Q)) : OkI G n mX12_makes [vO 0, vI x1] M Q := Ok_of (by decide) (Nat.le_of_ble_eq_true rfl) rfl h
-- DownOnlyModel opens (I)Z
set_option maxRecDepth 20000 in
set_option maxHeartbeats 1000000 in
theorem bX12_opens_0 {G : Gx} {K : Kx} {n : Nat} {M : Mem} {Q : Int → Mem → Prop}  {x1 : Int}  (T : (¬ M 0 19 0 = 10 → ∀ M1 : Mem, M1 = mset M 0 19 0 (wr (M 0 19 0 + 1)) → (0 ≤ M1 0 22 0 ∧ M1 0 22 0 < 400) ∧ (∀ M2 : Mem, M2 = mset M1 0 21 (M1 0 22 0).toNat x1 → ∀ M3 : Mem, M3 = mset M2 0 22 0 (wr (M2 0 22 0 + 1)) → Q 1 M3)) ∧ (M 0 19 0 = 10 → OkI G n mX12_fails [vO 0, vI 2, vI (M 0 14 0)] M (fun r_1 M4 => (r_1 = 0 ∨ r_1 = 1) ∧ Q r_1 M4))) : CW G K mX12_opens (n + 1) 0 [some (vO 0), some (vI x1)] [] M (qI Q) := by
  refine r_aload_n dX12_opens_0 rfl ?_
  refine r_getI dX12_opens_1 fX12_174 rfl tX12_19 ?_
  refine r_bipush dX12_opens_4 (by decide) (by decide) ?_
  refine r_icmp_ne (tgt := 19) dX12_opens_6 (by decide) (fun h_1 => ?_) (fun h_1 => ?_)
  · have T := T.1 h_1
    refine r_aload_n dX12_opens_19 rfl ?_
    refine r_dup dX12_opens_20 rfl ?_
    refine r_getI dX12_opens_21 fX12_174 rfl tX12_19 ?_
    refine r_iconst dX12_opens_24 (by decide) ?_
    refine r_iadd dX12_opens_25 ?_
    refine n_put dX12_opens_26 pX12_174 rfl tX12_19 (fun M1 hM1 => ?_)
    have T := T M1 hM1
    refine r_aload_n dX12_opens_29 rfl ?_
    refine r_getA dX12_opens_30 fX12_38 rfl uX12_21 ?_
    refine r_aload_n dX12_opens_33 rfl ?_
    refine r_getI dX12_opens_34 fX12_177 rfl tX12_22 ?_
    refine r_iload_n dX12_opens_37 rfl ?_
    refine n_iast dX12_opens_38 rfl tX12_21 aX12_21 T.1 (fun M2 hM2 => ?_)
    have T := T.2 M2 hM2
    refine r_aload_n dX12_opens_39 rfl ?_
    refine r_dup dX12_opens_40 rfl ?_
    refine r_getI dX12_opens_41 fX12_177 rfl tX12_22 ?_
    refine r_iconst dX12_opens_44 (by decide) ?_
    refine r_iadd dX12_opens_45 ?_
    refine n_put dX12_opens_46 pX12_177 rfl tX12_22 (fun M3 hM3 => ?_)
    have T := T M3 hM3
    refine r_iconst dX12_opens_49 (by decide) ?_
    exact r_zreturn dX12_opens_50 rfl (by decide) ⟨_, rfl, T⟩
  · have T := T.2 h_1
    refine r_aload_n dX12_opens_9 rfl ?_
    refine r_iconst dX12_opens_10 (by decide) ?_
    refine r_aload_n dX12_opens_11 rfl ?_
    refine r_getI dX12_opens_12 fX12_120 rfl tX12_14 ?_
    refine r_callVI (md' := mX12_fails) (as := [vI 2, vI (M 0 14 0)]) dX12_opens_15 lX12_141 iX12_fails rfl rfl rfl (Nat.le_of_ble_eq_true rfl) T (fun r_1 M4 T => ?_)
    exact r_zreturn dX12_opens_18 rfl T.1 ⟨_, rfl, T.2⟩
theorem eX12_opens {G : Gx} {n : Nat} {M : Mem} {Q : Int → Mem → Prop}  {x1 : Int} (h : ∀ K : Kx, CW G K mX12_opens n 0 [some (vO 0), some (vI x1)] [] M (qI Q)) : OkI G n mX12_opens [vO 0, vI x1] M Q := Ok_of (by decide) (Nat.le_of_ble_eq_true rfl) rfl h
-- DownOnlyModel strength (I)I
set_option maxRecDepth 20000 in
set_option maxHeartbeats 1000000 in
theorem bX12_strength_0 {G : Gx} {K : Kx} {n : Nat} {M : Mem} {Q : Int → Mem → Prop}  {x0 : Int}  (T : (¬ x0 = 13 → (¬ x0 = 12 → (¬ x0 = 11 → Q 0 M) ∧ (x0 = 11 → Q 3 M)) ∧ (x0 = 12 → Q 2 M)) ∧ (x0 = 13 → Q 1 M)) : CW G K mX12_strength n 0 [some (vI x0)] [] M (qI Q) := by
  refine r_iload_n dX12_strength_0 rfl ?_
  refine r_bipush dX12_strength_1 (by decide) (by decide) ?_
  refine r_icmp_ne (tgt := 10) dX12_strength_3 (by decide) (fun h_3 => ?_) (fun h_3 => ?_)
  · have T := T.1 h_3
    refine r_iload_n dX12_strength_10 rfl ?_
    refine r_bipush dX12_strength_11 (by decide) (by decide) ?_
    refine r_icmp_ne (tgt := 20) dX12_strength_13 (by decide) (fun h_2 => ?_) (fun h_2 => ?_)
    · have T := T.1 h_2
      refine r_iload_n dX12_strength_20 rfl ?_
      refine r_bipush dX12_strength_21 (by decide) (by decide) ?_
      refine r_icmp_ne (tgt := 30) dX12_strength_23 (by decide) (fun h_1 => ?_) (fun h_1 => ?_)
      · have T := T.1 h_1
        refine r_iconst dX12_strength_30 (by decide) ?_
        exact r_ireturn dX12_strength_31 rfl ⟨_, rfl, T⟩
      · have T := T.2 h_1
        refine r_iconst dX12_strength_26 (by decide) ?_
        refine r_goto (tgt := 31) dX12_strength_27 (by decide) ?_
        exact r_ireturn dX12_strength_31 rfl ⟨_, rfl, T⟩
    · have T := T.2 h_2
      refine r_iconst dX12_strength_16 (by decide) ?_
      refine r_goto (tgt := 31) dX12_strength_17 (by decide) ?_
      exact r_ireturn dX12_strength_31 rfl ⟨_, rfl, T⟩
  · have T := T.2 h_3
    refine r_iconst dX12_strength_6 (by decide) ?_
    refine r_goto (tgt := 31) dX12_strength_7 (by decide) ?_
    exact r_ireturn dX12_strength_31 rfl ⟨_, rfl, T⟩
theorem eX12_strength {G : Gx} {n : Nat} {M : Mem} {Q : Int → Mem → Prop}  {x0 : Int} (h : ∀ K : Kx, CW G K mX12_strength n 0 [some (vI x0)] [] M (qI Q)) : OkI G n mX12_strength [vI x0] M Q := Ok_of (by decide) (Nat.le_of_ble_eq_true rfl) rfl h
-- DownOnlyModel settles (I)V
set_option maxRecDepth 20000 in
set_option maxHeartbeats 1000000 in
theorem bX12_settles_0 {G : Gx} {K : Kx} {n : Nat} {M : Mem} {Q : Mem → Prop}  {x1 : Int}  (T : (M 0 22 0 ≤ 0 → Q M) ∧ (¬ (M 0 22 0 ≤ 0) → (0 ≤ wr (M 0 22 0 - 1) ∧ wr (M 0 22 0 - 1) < 400) ∧ (OkI G n mX12_strength [vI (M 0 21 (wr (M 0 22 0 - 1)).toNat)] M (fun r_1 M1 => (r_1 < x1 → Q M1) ∧ (¬ (r_1 < x1) → ∀ M2 : Mem, M2 = mset M1 0 22 0 (wr (M1 0 22 0 - 1)) → (0 ≤ M2 0 22 0 ∧ M2 0 22 0 < 400) ∧ (OkV G n mX12_puts [vO 0, vI (M2 0 21 (M2 0 22 0).toNat), vI 0] M2 (fun M3 => (0 ≤ M3 0 22 0 ∧ M3 0 22 0 < 400) ∧ ((¬ M3 0 21 (M3 0 22 0).toNat = 11 → CW G K mX12_settles (n + 1) 0 [some (vO 0), some (vI x1)] [] M3 (qV Q)) ∧ (M3 0 21 (M3 0 22 0).toNat = 11 → ∀ M4 : Mem, M4 = mset M3 0 19 0 (wr (M3 0 19 0 - 1)) → CW G K mX12_settles (n + 1) 0 [some (vO 0), some (vI x1)] [] M4 (qV Q)))))))))) : CW G K mX12_settles (n + 1) 0 [some (vO 0), some (vI x1)] [] M (qV Q) := by
  refine r_aload_n dX12_settles_0 rfl ?_
  refine r_getI dX12_settles_1 fX12_177 rfl tX12_22 ?_
  refine r_if_le (tgt := 76) dX12_settles_4 (by decide) (fun h_3 => ?_) (fun h_3 => ?_)
  · have T := T.1 h_3
    exact r_return dX12_settles_76 rfl ⟨rfl, T⟩
  · have T := T.2 h_3
    refine r_aload_n dX12_settles_7 rfl ?_
    refine r_getA dX12_settles_8 fX12_38 rfl uX12_21 ?_
    refine r_aload_n dX12_settles_11 rfl ?_
    refine r_getI dX12_settles_12 fX12_177 rfl tX12_22 ?_
    refine r_iconst dX12_settles_15 (by decide) ?_
    refine r_isub dX12_settles_16 ?_
    refine s_iald dX12_settles_17 rfl tX12_21 aX12_21 T.1 ?_
    have T := T.2
    refine r_callSI (md' := mX12_strength) (as := [vI (M 0 21 (wr (M 0 22 0 - 1)).toNat)]) dX12_settles_18 lX12_180 iX12_strength rfl rfl (Nat.le_of_ble_eq_true rfl) T (fun r_1 M1 T => ?_)
    refine r_iload_n dX12_settles_21 rfl ?_
    refine r_icmp_lt (tgt := 76) dX12_settles_22 (by decide) (fun h_2 => ?_) (fun h_2 => ?_)
    · have T := T.1 h_2
      exact r_return dX12_settles_76 rfl ⟨rfl, T⟩
    · have T := T.2 h_2
      refine r_aload_n dX12_settles_25 rfl ?_
      refine r_dup dX12_settles_26 rfl ?_
      refine r_getI dX12_settles_27 fX12_177 rfl tX12_22 ?_
      refine r_iconst dX12_settles_30 (by decide) ?_
      refine r_isub dX12_settles_31 ?_
      refine n_put dX12_settles_32 pX12_177 rfl tX12_22 (fun M2 hM2 => ?_)
      have T := T M2 hM2
      refine r_aload_n dX12_settles_35 rfl ?_
      refine r_aload_n dX12_settles_36 rfl ?_
      refine r_getA dX12_settles_37 fX12_38 rfl uX12_21 ?_
      refine r_aload_n dX12_settles_40 rfl ?_
      refine r_getI dX12_settles_41 fX12_177 rfl tX12_22 ?_
      refine s_iald dX12_settles_44 rfl tX12_21 aX12_21 T.1 ?_
      have T := T.2
      refine r_iconst dX12_settles_45 (by decide) ?_
      refine r_callVV (md' := mX12_puts) (as := [vI (M2 0 21 (M2 0 22 0).toNat), vI 0]) dX12_settles_46 lX12_184 iX12_puts rfl rfl rfl (Nat.le_of_ble_eq_true rfl) T (fun M3 T => ?_)
      refine r_aload_n dX12_settles_49 rfl ?_
      refine r_getA dX12_settles_50 fX12_38 rfl uX12_21 ?_
      refine r_aload_n dX12_settles_53 rfl ?_
      refine r_getI dX12_settles_54 fX12_177 rfl tX12_22 ?_
      refine s_iald dX12_settles_57 rfl tX12_21 aX12_21 T.1 ?_
      have T := T.2
      refine r_bipush dX12_settles_58 (by decide) (by decide) ?_
      refine r_icmp_ne (tgt := 0) dX12_settles_60 (by decide) (fun h_1 => ?_) (fun h_1 => ?_)
      · have T := T.1 h_1
        exact T
      · have T := T.2 h_1
        refine r_aload_n dX12_settles_63 rfl ?_
        refine r_dup dX12_settles_64 rfl ?_
        refine r_getI dX12_settles_65 fX12_174 rfl tX12_19 ?_
        refine r_iconst dX12_settles_68 (by decide) ?_
        refine r_isub dX12_settles_69 ?_
        refine n_put dX12_settles_70 pX12_174 rfl tX12_19 (fun M4 hM4 => ?_)
        have T := T M4 hM4
        refine r_goto (tgt := 0) dX12_settles_73 (by decide) ?_
        exact T
theorem eX12_settles {G : Gx} {n : Nat} {M : Mem} {Q : Mem → Prop}  {x1 : Int} (h : ∀ K : Kx, CW G K mX12_settles n 0 [some (vO 0), some (vI x1)] [] M (qV Q)) : OkV G n mX12_settles [vO 0, vI x1] M Q := Ok_of (by decide) (Nat.le_of_ble_eq_true rfl) rfl h
-- DownOnlyModel value ()Z
set_option maxRecDepth 20000 in
set_option maxHeartbeats 1000000 in
theorem bX12_value_0 {G : Gx} {K : Kx} {n : Nat} {M : Mem} {Q : Int → Mem → Prop}    (T : OkI G n mX12_see [vO 0] M (fun r_1 M1 => OkI G n mX12_isDigit [vO 0, vI (M1 0 14 0)] M1 (fun r_2 M2 => (r_2 = 0 → OkI G n mX12_wordHere [vO 0] M2 (fun r_3 M3 => (0 ≤ r_3 → OkI G n mX12_makes [vO 0, vI (M1 0 14 0)] M3 (fun r_4 M4 => (¬ r_4 = 0 → OkV G n mX12_passWord [vO 0] M4 (fun M5 => OkV G n mX12_puts [vO 0, vI 1, vI r_3] M5 (fun M6 => Q 1 M6))) ∧ (r_4 = 0 → Q 0 M4))) ∧ (¬ (0 ≤ r_3) → OkI G n mX12_fails [vO 0, vI 0, vI (M1 0 14 0)] M3 (fun r_5 M7 => (r_5 = 0 ∨ r_5 = 1) ∧ Q r_5 M7)))) ∧ (¬ (r_2 = 0) → OkI G n mX12_numberHere [vO 0, vI 0, vI 99999] M2 (fun r_6 M8 => (r_6 = 0 → Q 0 M8) ∧ (¬ (r_6 = 0) → OkI G n mX12_makes [vO 0, vI (M1 0 14 0)] M8 (fun r_7 M9 => (¬ r_7 = 0 → OkV G n mX12_puts [vO 0, vI 0, vI (M9 0 16 0)] M9 (fun M10 => Q 1 M10)) ∧ (r_7 = 0 → Q 0 M9)))))))) : CW G K mX12_value (n + 1) 0 [some (vO 0), none, none] [] M (qI Q) := by
  refine r_aload_n dX12_value_0 rfl ?_
  refine r_callVI (md' := mX12_see) (as := []) dX12_value_1 lX12_123 iX12_see rfl rfl rfl (Nat.le_of_ble_eq_true rfl) T (fun r_1 M1 T => ?_)
  refine r_pop dX12_value_4 rfl ?_
  refine r_aload_n dX12_value_5 rfl ?_
  refine r_getI dX12_value_6 fX12_120 rfl tX12_14 ?_
  refine r_istore_n dX12_value_9 (by decide) rfl ?_
  refine r_aload_n dX12_value_10 rfl ?_
  refine r_aload_n dX12_value_11 rfl ?_
  refine r_getI dX12_value_12 fX12_120 rfl tX12_14 ?_
  refine r_callVI (md' := mX12_isDigit) (as := [vI (M1 0 14 0)]) dX12_value_15 lX12_138 iX12_isDigit rfl rfl rfl (Nat.le_of_ble_eq_true rfl) T (fun r_2 M2 T => ?_)
  refine r_if_eq (tgt := 52) dX12_value_18 (by decide) (fun h_5 => ?_) (fun h_5 => ?_)
  · have T := T.1 h_5
    refine r_aload_n dX12_value_52 rfl ?_
    refine r_callVI (md' := mX12_wordHere) (as := []) dX12_value_53 lX12_195 iX12_wordHere rfl rfl rfl (Nat.le_of_ble_eq_true rfl) T (fun r_3 M3 T => ?_)
    refine r_istore_n dX12_value_56 (by decide) rfl ?_
    refine r_iload_n dX12_value_57 rfl ?_
    refine r_if_ge (tgt := 68) dX12_value_58 (by decide) (fun h_2 => ?_) (fun h_2 => ?_)
    · have T := T.1 h_2
      refine r_aload_n dX12_value_68 rfl ?_
      refine r_iload_n dX12_value_69 rfl ?_
      refine r_callVI (md' := mX12_makes) (as := [vI (M1 0 14 0)]) dX12_value_70 lX12_192 iX12_makes rfl rfl rfl (Nat.le_of_ble_eq_true rfl) T (fun r_4 M4 T => ?_)
      refine r_if_ne (tgt := 78) dX12_value_73 (by decide) (fun h_1 => ?_) (fun h_1 => ?_)
      · have T := T.1 h_1
        refine r_aload_n dX12_value_78 rfl ?_
        refine r_callVV (md' := mX12_passWord) (as := []) dX12_value_79 lX12_135 iX12_passWord rfl rfl rfl (Nat.le_of_ble_eq_true rfl) T (fun M5 T => ?_)
        refine r_aload_n dX12_value_82 rfl ?_
        refine r_iconst dX12_value_83 (by decide) ?_
        refine r_iload_n dX12_value_84 rfl ?_
        refine r_callVV (md' := mX12_puts) (as := [vI 1, vI r_3]) dX12_value_85 lX12_184 iX12_puts rfl rfl rfl (Nat.le_of_ble_eq_true rfl) T (fun M6 T => ?_)
        refine r_iconst dX12_value_88 (by decide) ?_
        exact r_zreturn dX12_value_89 rfl (by decide) ⟨_, rfl, T⟩
      · have T := T.2 h_1
        refine r_iconst dX12_value_76 (by decide) ?_
        exact r_zreturn dX12_value_77 rfl (by decide) ⟨_, rfl, T⟩
    · have T := T.2 h_2
      refine r_aload_n dX12_value_61 rfl ?_
      refine r_iconst dX12_value_62 (by decide) ?_
      refine r_iload_n dX12_value_63 rfl ?_
      refine r_callVI (md' := mX12_fails) (as := [vI 0, vI (M1 0 14 0)]) dX12_value_64 lX12_141 iX12_fails rfl rfl rfl (Nat.le_of_ble_eq_true rfl) T (fun r_5 M7 T => ?_)
      exact r_zreturn dX12_value_67 rfl T.1 ⟨_, rfl, T.2⟩
  · have T := T.2 h_5
    refine r_aload_n dX12_value_21 rfl ?_
    refine r_iconst dX12_value_22 (by decide) ?_
    refine r_ldc (z := 99999) dX12_value_23 kX12_188 (by decide) (by decide) ?_
    refine r_callVI (md' := mX12_numberHere) (as := [vI 0, vI 99999]) dX12_value_25 lX12_189 iX12_numberHere rfl rfl rfl (Nat.le_of_ble_eq_true rfl) T (fun r_6 M8 T => ?_)
    refine r_if_eq (tgt := 39) dX12_value_28 (by decide) (fun h_4 => ?_) (fun h_4 => ?_)
    · have T := T.1 h_4
      refine r_iconst dX12_value_39 (by decide) ?_
      exact r_zreturn dX12_value_40 rfl (by decide) ⟨_, rfl, T⟩
    · have T := T.2 h_4
      refine r_aload_n dX12_value_31 rfl ?_
      refine r_iload_n dX12_value_32 rfl ?_
      refine r_callVI (md' := mX12_makes) (as := [vI (M1 0 14 0)]) dX12_value_33 lX12_192 iX12_makes rfl rfl rfl (Nat.le_of_ble_eq_true rfl) T (fun r_7 M9 T => ?_)
      refine r_if_ne (tgt := 41) dX12_value_36 (by decide) (fun h_3 => ?_) (fun h_3 => ?_)
      · have T := T.1 h_3
        refine r_aload_n dX12_value_41 rfl ?_
        refine r_iconst dX12_value_42 (by decide) ?_
        refine r_aload_n dX12_value_43 rfl ?_
        refine r_getI dX12_value_44 fX12_145 rfl tX12_16 ?_
        refine r_callVV (md' := mX12_puts) (as := [vI 0, vI (M9 0 16 0)]) dX12_value_47 lX12_184 iX12_puts rfl rfl rfl (Nat.le_of_ble_eq_true rfl) T (fun M10 T => ?_)
        refine r_iconst dX12_value_50 (by decide) ?_
        exact r_zreturn dX12_value_51 rfl (by decide) ⟨_, rfl, T⟩
      · have T := T.2 h_3
        refine r_iconst dX12_value_39 (by decide) ?_
        exact r_zreturn dX12_value_40 rfl (by decide) ⟨_, rfl, T⟩
theorem eX12_value {G : Gx} {n : Nat} {M : Mem} {Q : Int → Mem → Prop}   (h : ∀ K : Kx, CW G K mX12_value n 0 [some (vO 0), none, none] [] M (qI Q)) : OkI G n mX12_value [vO 0] M Q := Ok_of (by decide) (Nat.le_of_ble_eq_true rfl) rfl h
-- DownOnlyModel term ()Z
set_option maxRecDepth 20000 in
set_option maxHeartbeats 1000000 in
theorem bX12_term_0 {G : Gx} {K : Kx} {n : Nat} {M : Mem} {Q : Int → Mem → Prop}    (T : OkI G n mX12_value [vO 0] M (fun r_1 M1 => (¬ r_1 = 0 → CW G K mX12_term (n + 1) 9 [some (vO 0), none] [] M1 (qI Q)) ∧ (r_1 = 0 → Q 0 M1))) : CW G K mX12_term (n + 1) 0 [some (vO 0), none] [] M (qI Q) := by
  refine r_aload_n dX12_term_0 rfl ?_
  refine r_callVI (md' := mX12_value) (as := []) dX12_term_1 lX12_198 iX12_value rfl rfl rfl (Nat.le_of_ble_eq_true rfl) T (fun r_1 M1 T => ?_)
  refine r_if_ne (tgt := 9) dX12_term_4 (by decide) (fun h_1 => ?_) (fun h_1 => ?_)
  · have T := T.1 h_1
    exact T
  · have T := T.2 h_1
    refine r_iconst dX12_term_7 (by decide) ?_
    exact r_zreturn dX12_term_8 rfl (by decide) ⟨_, rfl, T⟩
set_option maxRecDepth 20000 in
set_option maxHeartbeats 1000000 in
theorem bX12_term_9 {G : Gx} {K : Kx} {n : Nat} {M : Mem} {Q : Int → Mem → Prop}    (T : OkI G n mX12_see [vO 0] M (fun r_1 M1 => (r_1 = 42 → (0 ≤ M1 0 14 0 ∧ M1 0 14 0 < 400) ∧ ((¬ M1 0 0 (M1 0 14 0).toNat = 42 → CW G K mX12_term (n + 1) 46 [some (vO 0), none] [vI 5] M1 (qI Q)) ∧ (M1 0 0 (M1 0 14 0).toNat = 42 → CW G K mX12_term (n + 1) 46 [some (vO 0), none] [vI 4] M1 (qI Q)))) ∧ (¬ (r_1 = 42) → OkI G n mX12_see [vO 0] M1 (fun r_2 M2 => (¬ r_2 = 47 → Q 1 M2) ∧ (r_2 = 47 → (0 ≤ M2 0 14 0 ∧ M2 0 14 0 < 400) ∧ ((¬ M2 0 0 (M2 0 14 0).toNat = 42 → CW G K mX12_term (n + 1) 46 [some (vO 0), none] [vI 5] M2 (qI Q)) ∧ (M2 0 0 (M2 0 14 0).toNat = 42 → CW G K mX12_term (n + 1) 46 [some (vO 0), none] [vI 4] M2 (qI Q)))))))) : CW G K mX12_term (n + 1) 9 [some (vO 0), none] [] M (qI Q) := by
  refine r_aload_n dX12_term_9 rfl ?_
  refine r_callVI (md' := mX12_see) (as := []) dX12_term_10 lX12_123 iX12_see rfl rfl rfl (Nat.le_of_ble_eq_true rfl) T (fun r_1 M1 T => ?_)
  refine r_bipush dX12_term_13 (by decide) (by decide) ?_
  refine r_icmp_eq (tgt := 27) dX12_term_15 (by decide) (fun h_4 => ?_) (fun h_4 => ?_)
  · have T := T.1 h_4
    refine r_aload_n dX12_term_27 rfl ?_
    refine r_getA dX12_term_28 fX12_7 rfl uX12_0 ?_
    refine r_aload_n dX12_term_31 rfl ?_
    refine r_getI dX12_term_32 fX12_120 rfl tX12_14 ?_
    refine s_bald dX12_term_35 rfl (Or.inl tX12_0) aX12_0 T.1 ?_
    have T := T.2
    refine r_bipush dX12_term_36 (by decide) (by decide) ?_
    refine r_icmp_ne (tgt := 45) dX12_term_38 (by decide) (fun h_1 => ?_) (fun h_1 => ?_)
    · have T := T.1 h_1
      refine r_iconst dX12_term_45 (by decide) ?_
      exact T
    · have T := T.2 h_1
      refine r_iconst dX12_term_41 (by decide) ?_
      refine r_goto (tgt := 46) dX12_term_42 (by decide) ?_
      exact T
  · have T := T.2 h_4
    refine r_aload_n dX12_term_18 rfl ?_
    refine r_callVI (md' := mX12_see) (as := []) dX12_term_19 lX12_123 iX12_see rfl rfl rfl (Nat.le_of_ble_eq_true rfl) T (fun r_2 M2 T => ?_)
    refine r_bipush dX12_term_22 (by decide) (by decide) ?_
    refine r_icmp_ne (tgt := 75) dX12_term_24 (by decide) (fun h_3 => ?_) (fun h_3 => ?_)
    · have T := T.1 h_3
      refine r_iconst dX12_term_75 (by decide) ?_
      exact r_zreturn dX12_term_76 rfl (by decide) ⟨_, rfl, T⟩
    · have T := T.2 h_3
      refine r_aload_n dX12_term_27 rfl ?_
      refine r_getA dX12_term_28 fX12_7 rfl uX12_0 ?_
      refine r_aload_n dX12_term_31 rfl ?_
      refine r_getI dX12_term_32 fX12_120 rfl tX12_14 ?_
      refine s_bald dX12_term_35 rfl (Or.inl tX12_0) aX12_0 T.1 ?_
      have T := T.2
      refine r_bipush dX12_term_36 (by decide) (by decide) ?_
      refine r_icmp_ne (tgt := 45) dX12_term_38 (by decide) (fun h_2 => ?_) (fun h_2 => ?_)
      · have T := T.1 h_2
        refine r_iconst dX12_term_45 (by decide) ?_
        exact T
      · have T := T.2 h_2
        refine r_iconst dX12_term_41 (by decide) ?_
        refine r_goto (tgt := 46) dX12_term_42 (by decide) ?_
        exact T
set_option maxRecDepth 20000 in
set_option maxHeartbeats 1000000 in
theorem bX12_term_46 {G : Gx} {K : Kx} {n : Nat} {M : Mem} {Q : Int → Mem → Prop}  {z0 : Int}  (T : ∀ M1 : Mem, M1 = mset M 0 14 0 (wr (M 0 14 0 + 1)) → OkI G n mX12_value [vO 0] M1 (fun r_1 M2 => (¬ r_1 = 0 → OkV G n mX12_puts [vO 0, vI z0, vI 0] M2 (fun M3 => CW G K mX12_term (n + 1) 9 [some (vO 0), none] [] M3 (qI Q))) ∧ (r_1 = 0 → Q 0 M2))) : CW G K mX12_term (n + 1) 46 [some (vO 0), none] [vI z0] M (qI Q) := by
  refine r_istore_n dX12_term_46 (by decide) rfl ?_
  refine r_aload_n dX12_term_47 rfl ?_
  refine r_dup dX12_term_48 rfl ?_
  refine r_getI dX12_term_49 fX12_120 rfl tX12_14 ?_
  refine r_iconst dX12_term_52 (by decide) ?_
  refine r_iadd dX12_term_53 ?_
  refine n_put dX12_term_54 pX12_120 rfl tX12_14 (fun M1 hM1 => ?_)
  have T := T M1 hM1
  refine r_aload_n dX12_term_57 rfl ?_
  refine r_callVI (md' := mX12_value) (as := []) dX12_term_58 lX12_198 iX12_value rfl rfl rfl (Nat.le_of_ble_eq_true rfl) T (fun r_1 M2 T => ?_)
  refine r_if_ne (tgt := 66) dX12_term_61 (by decide) (fun h_1 => ?_) (fun h_1 => ?_)
  · have T := T.1 h_1
    refine r_aload_n dX12_term_66 rfl ?_
    refine r_iload_n dX12_term_67 rfl ?_
    refine r_iconst dX12_term_68 (by decide) ?_
    refine r_callVV (md' := mX12_puts) (as := [vI z0, vI 0]) dX12_term_69 lX12_184 iX12_puts rfl rfl rfl (Nat.le_of_ble_eq_true rfl) T (fun M3 T => ?_)
    refine r_goto (tgt := 9) dX12_term_72 (by decide) ?_
    exact CW_msk [true, false] rfl T
  · have T := T.2 h_1
    refine r_iconst dX12_term_64 (by decide) ?_
    exact r_zreturn dX12_term_65 rfl (by decide) ⟨_, rfl, T⟩
theorem eX12_term {G : Gx} {n : Nat} {M : Mem} {Q : Int → Mem → Prop}   (h : ∀ K : Kx, CW G K mX12_term n 0 [some (vO 0), none] [] M (qI Q)) : OkI G n mX12_term [vO 0] M Q := Ok_of (by decide) (Nat.le_of_ble_eq_true rfl) rfl h
-- DownOnlyModel sum ()Z
set_option maxRecDepth 20000 in
set_option maxHeartbeats 1000000 in
theorem bX12_sum_0 {G : Gx} {K : Kx} {n : Nat} {M : Mem} {Q : Int → Mem → Prop}    (T : OkI G n mX12_term [vO 0] M (fun r_1 M1 => (¬ r_1 = 0 → CW G K mX12_sum (n + 1) 9 [some (vO 0), none] [] M1 (qI Q)) ∧ (r_1 = 0 → Q 0 M1))) : CW G K mX12_sum (n + 1) 0 [some (vO 0), none] [] M (qI Q) := by
  refine r_aload_n dX12_sum_0 rfl ?_
  refine r_callVI (md' := mX12_term) (as := []) dX12_sum_1 lX12_202 iX12_term rfl rfl rfl (Nat.le_of_ble_eq_true rfl) T (fun r_1 M1 T => ?_)
  refine r_if_ne (tgt := 9) dX12_sum_4 (by decide) (fun h_1 => ?_) (fun h_1 => ?_)
  · have T := T.1 h_1
    exact T
  · have T := T.2 h_1
    refine r_iconst dX12_sum_7 (by decide) ?_
    exact r_zreturn dX12_sum_8 rfl (by decide) ⟨_, rfl, T⟩
set_option maxRecDepth 20000 in
set_option maxHeartbeats 1000000 in
theorem bX12_sum_9 {G : Gx} {K : Kx} {n : Nat} {M : Mem} {Q : Int → Mem → Prop}    (T : OkI G n mX12_see [vO 0] M (fun r_1 M1 => (r_1 = 43 → (0 ≤ M1 0 14 0 ∧ M1 0 14 0 < 400) ∧ ((¬ M1 0 0 (M1 0 14 0).toNat = 43 → CW G K mX12_sum (n + 1) 46 [some (vO 0), none] [vI 3] M1 (qI Q)) ∧ (M1 0 0 (M1 0 14 0).toNat = 43 → CW G K mX12_sum (n + 1) 46 [some (vO 0), none] [vI 2] M1 (qI Q)))) ∧ (¬ (r_1 = 43) → OkI G n mX12_see [vO 0] M1 (fun r_2 M2 => (¬ r_2 = 45 → Q 1 M2) ∧ (r_2 = 45 → (0 ≤ M2 0 14 0 ∧ M2 0 14 0 < 400) ∧ ((¬ M2 0 0 (M2 0 14 0).toNat = 43 → CW G K mX12_sum (n + 1) 46 [some (vO 0), none] [vI 3] M2 (qI Q)) ∧ (M2 0 0 (M2 0 14 0).toNat = 43 → CW G K mX12_sum (n + 1) 46 [some (vO 0), none] [vI 2] M2 (qI Q)))))))) : CW G K mX12_sum (n + 1) 9 [some (vO 0), none] [] M (qI Q) := by
  refine r_aload_n dX12_sum_9 rfl ?_
  refine r_callVI (md' := mX12_see) (as := []) dX12_sum_10 lX12_123 iX12_see rfl rfl rfl (Nat.le_of_ble_eq_true rfl) T (fun r_1 M1 T => ?_)
  refine r_bipush dX12_sum_13 (by decide) (by decide) ?_
  refine r_icmp_eq (tgt := 27) dX12_sum_15 (by decide) (fun h_4 => ?_) (fun h_4 => ?_)
  · have T := T.1 h_4
    refine r_aload_n dX12_sum_27 rfl ?_
    refine r_getA dX12_sum_28 fX12_7 rfl uX12_0 ?_
    refine r_aload_n dX12_sum_31 rfl ?_
    refine r_getI dX12_sum_32 fX12_120 rfl tX12_14 ?_
    refine s_bald dX12_sum_35 rfl (Or.inl tX12_0) aX12_0 T.1 ?_
    have T := T.2
    refine r_bipush dX12_sum_36 (by decide) (by decide) ?_
    refine r_icmp_ne (tgt := 45) dX12_sum_38 (by decide) (fun h_1 => ?_) (fun h_1 => ?_)
    · have T := T.1 h_1
      refine r_iconst dX12_sum_45 (by decide) ?_
      exact T
    · have T := T.2 h_1
      refine r_iconst dX12_sum_41 (by decide) ?_
      refine r_goto (tgt := 46) dX12_sum_42 (by decide) ?_
      exact T
  · have T := T.2 h_4
    refine r_aload_n dX12_sum_18 rfl ?_
    refine r_callVI (md' := mX12_see) (as := []) dX12_sum_19 lX12_123 iX12_see rfl rfl rfl (Nat.le_of_ble_eq_true rfl) T (fun r_2 M2 T => ?_)
    refine r_bipush dX12_sum_22 (by decide) (by decide) ?_
    refine r_icmp_ne (tgt := 75) dX12_sum_24 (by decide) (fun h_3 => ?_) (fun h_3 => ?_)
    · have T := T.1 h_3
      refine r_iconst dX12_sum_75 (by decide) ?_
      exact r_zreturn dX12_sum_76 rfl (by decide) ⟨_, rfl, T⟩
    · have T := T.2 h_3
      refine r_aload_n dX12_sum_27 rfl ?_
      refine r_getA dX12_sum_28 fX12_7 rfl uX12_0 ?_
      refine r_aload_n dX12_sum_31 rfl ?_
      refine r_getI dX12_sum_32 fX12_120 rfl tX12_14 ?_
      refine s_bald dX12_sum_35 rfl (Or.inl tX12_0) aX12_0 T.1 ?_
      have T := T.2
      refine r_bipush dX12_sum_36 (by decide) (by decide) ?_
      refine r_icmp_ne (tgt := 45) dX12_sum_38 (by decide) (fun h_2 => ?_) (fun h_2 => ?_)
      · have T := T.1 h_2
        refine r_iconst dX12_sum_45 (by decide) ?_
        exact T
      · have T := T.2 h_2
        refine r_iconst dX12_sum_41 (by decide) ?_
        refine r_goto (tgt := 46) dX12_sum_42 (by decide) ?_
        exact T
set_option maxRecDepth 20000 in
set_option maxHeartbeats 1000000 in
theorem bX12_sum_46 {G : Gx} {K : Kx} {n : Nat} {M : Mem} {Q : Int → Mem → Prop}  {z0 : Int}  (T : ∀ M1 : Mem, M1 = mset M 0 14 0 (wr (M 0 14 0 + 1)) → OkI G n mX12_term [vO 0] M1 (fun r_1 M2 => (¬ r_1 = 0 → OkV G n mX12_puts [vO 0, vI z0, vI 0] M2 (fun M3 => CW G K mX12_sum (n + 1) 9 [some (vO 0), none] [] M3 (qI Q))) ∧ (r_1 = 0 → Q 0 M2))) : CW G K mX12_sum (n + 1) 46 [some (vO 0), none] [vI z0] M (qI Q) := by
  refine r_istore_n dX12_sum_46 (by decide) rfl ?_
  refine r_aload_n dX12_sum_47 rfl ?_
  refine r_dup dX12_sum_48 rfl ?_
  refine r_getI dX12_sum_49 fX12_120 rfl tX12_14 ?_
  refine r_iconst dX12_sum_52 (by decide) ?_
  refine r_iadd dX12_sum_53 ?_
  refine n_put dX12_sum_54 pX12_120 rfl tX12_14 (fun M1 hM1 => ?_)
  have T := T M1 hM1
  refine r_aload_n dX12_sum_57 rfl ?_
  refine r_callVI (md' := mX12_term) (as := []) dX12_sum_58 lX12_202 iX12_term rfl rfl rfl (Nat.le_of_ble_eq_true rfl) T (fun r_1 M2 T => ?_)
  refine r_if_ne (tgt := 66) dX12_sum_61 (by decide) (fun h_1 => ?_) (fun h_1 => ?_)
  · have T := T.1 h_1
    refine r_aload_n dX12_sum_66 rfl ?_
    refine r_iload_n dX12_sum_67 rfl ?_
    refine r_iconst dX12_sum_68 (by decide) ?_
    refine r_callVV (md' := mX12_puts) (as := [vI z0, vI 0]) dX12_sum_69 lX12_184 iX12_puts rfl rfl rfl (Nat.le_of_ble_eq_true rfl) T (fun M3 T => ?_)
    refine r_goto (tgt := 9) dX12_sum_72 (by decide) ?_
    exact CW_msk [true, false] rfl T
  · have T := T.2 h_1
    refine r_iconst dX12_sum_64 (by decide) ?_
    exact r_zreturn dX12_sum_65 rfl (by decide) ⟨_, rfl, T⟩
theorem eX12_sum {G : Gx} {n : Nat} {M : Mem} {Q : Int → Mem → Prop}   (h : ∀ K : Kx, CW G K mX12_sum n 0 [some (vO 0), none] [] M (qI Q)) : OkI G n mX12_sum [vO 0] M Q := Ok_of (by decide) (Nat.le_of_ble_eq_true rfl) rfl h
-- DownOnlyModel compare ()Z
set_option maxRecDepth 20000 in
set_option maxHeartbeats 1000000 in
theorem bX12_compare_0 {G : Gx} {K : Kx} {n : Nat} {M : Mem} {Q : Int → Mem → Prop}    (T : OkI G n mX12_sum [vO 0] M (fun r_1 M1 => (¬ r_1 = 0 → OkI G n mX12_see [vO 0] M1 (fun r_2 M2 => (r_2 = 60 → CW G K mX12_compare (n + 1) 44 [some (vO 0), some (vI r_2), some (vI (M2 0 14 0)), none, none] [] M2 (qI Q)) ∧ (¬ (r_2 = 60) → (r_2 = 61 → CW G K mX12_compare (n + 1) 44 [some (vO 0), some (vI r_2), some (vI (M2 0 14 0)), none, none] [] M2 (qI Q)) ∧ (¬ (r_2 = 61) → (r_2 = 62 → CW G K mX12_compare (n + 1) 44 [some (vO 0), some (vI r_2), some (vI (M2 0 14 0)), none, none] [] M2 (qI Q)) ∧ (¬ (r_2 = 62) → OkI G n mX12_fails [vO 0, vI 0, vI (M2 0 14 0)] M2 (fun r_3 M3 => (r_3 = 0 ∨ r_3 = 1) ∧ Q r_3 M3)))))) ∧ (r_1 = 0 → Q 0 M1))) : CW G K mX12_compare (n + 1) 0 [some (vO 0), none, none, none, none] [] M (qI Q) := by
  refine r_aload_n dX12_compare_0 rfl ?_
  refine r_callVI (md' := mX12_sum) (as := []) dX12_compare_1 lX12_205 iX12_sum rfl rfl rfl (Nat.le_of_ble_eq_true rfl) T (fun r_1 M1 T => ?_)
  refine r_if_ne (tgt := 9) dX12_compare_4 (by decide) (fun h_4 => ?_) (fun h_4 => ?_)
  · have T := T.1 h_4
    refine r_aload_n dX12_compare_9 rfl ?_
    refine r_callVI (md' := mX12_see) (as := []) dX12_compare_10 lX12_123 iX12_see rfl rfl rfl (Nat.le_of_ble_eq_true rfl) T (fun r_2 M2 T => ?_)
    refine r_istore_n dX12_compare_13 (by decide) rfl ?_
    refine r_aload_n dX12_compare_14 rfl ?_
    refine r_getI dX12_compare_15 fX12_120 rfl tX12_14 ?_
    refine r_istore_n dX12_compare_18 (by decide) rfl ?_
    refine r_iload_n dX12_compare_19 rfl ?_
    refine r_bipush dX12_compare_20 (by decide) (by decide) ?_
    refine r_icmp_eq (tgt := 44) dX12_compare_22 (by decide) (fun h_3 => ?_) (fun h_3 => ?_)
    · have T := T.1 h_3
      exact T
    · have T := T.2 h_3
      refine r_iload_n dX12_compare_25 rfl ?_
      refine r_bipush dX12_compare_26 (by decide) (by decide) ?_
      refine r_icmp_eq (tgt := 44) dX12_compare_28 (by decide) (fun h_2 => ?_) (fun h_2 => ?_)
      · have T := T.1 h_2
        exact T
      · have T := T.2 h_2
        refine r_iload_n dX12_compare_31 rfl ?_
        refine r_bipush dX12_compare_32 (by decide) (by decide) ?_
        refine r_icmp_eq (tgt := 44) dX12_compare_34 (by decide) (fun h_1 => ?_) (fun h_1 => ?_)
        · have T := T.1 h_1
          exact T
        · have T := T.2 h_1
          refine r_aload_n dX12_compare_37 rfl ?_
          refine r_iconst dX12_compare_38 (by decide) ?_
          refine r_iload_n dX12_compare_39 rfl ?_
          refine r_callVI (md' := mX12_fails) (as := [vI 0, vI (M2 0 14 0)]) dX12_compare_40 lX12_141 iX12_fails rfl rfl rfl (Nat.le_of_ble_eq_true rfl) T (fun r_3 M3 T => ?_)
          exact r_zreturn dX12_compare_43 rfl T.1 ⟨_, rfl, T.2⟩
  · have T := T.2 h_4
    refine r_iconst dX12_compare_7 (by decide) ?_
    exact r_zreturn dX12_compare_8 rfl (by decide) ⟨_, rfl, T⟩
set_option maxRecDepth 20000 in
set_option maxHeartbeats 1000000 in
theorem bX12_compare_44 {G : Gx} {K : Kx} {n : Nat} {M : Mem} {Q : Int → Mem → Prop}  {x1 : Int} {x2 : Int}  (T : ∀ M1 : Mem, M1 = mset M 0 14 0 (wr (M 0 14 0 + 1)) → (x1 = 61 → CW G K mX12_compare (n + 1) 105 [some (vO 0), some (vI x1), some (vI x2), some (vI 0), none] [] M1 (qI Q)) ∧ (¬ (x1 = 61) → (M1 0 1 0 ≤ M1 0 14 0 → CW G K mX12_compare (n + 1) 105 [some (vO 0), some (vI x1), some (vI x2), some (vI 0), none] [] M1 (qI Q)) ∧ (¬ (M1 0 1 0 ≤ M1 0 14 0) → (0 ≤ M1 0 14 0 ∧ M1 0 14 0 < 400) ∧ ((¬ M1 0 0 (M1 0 14 0).toNat = 61 → CW G K mX12_compare (n + 1) 105 [some (vO 0), some (vI x1), some (vI x2), some (vI 0), none] [] M1 (qI Q)) ∧ (M1 0 0 (M1 0 14 0).toNat = 61 → ∀ M2 : Mem, M2 = mset M1 0 14 0 (wr (M1 0 14 0 + 1)) → CW G K mX12_compare (n + 1) 105 [some (vO 0), some (vI x1), some (vI x2), some (vI 1), none] [] M2 (qI Q)))))) : CW G K mX12_compare (n + 1) 44 [some (vO 0), some (vI x1), some (vI x2), none, none] [] M (qI Q) := by
  refine r_aload_n dX12_compare_44 rfl ?_
  refine r_dup dX12_compare_45 rfl ?_
  refine r_getI dX12_compare_46 fX12_120 rfl tX12_14 ?_
  refine r_iconst dX12_compare_49 (by decide) ?_
  refine r_iadd dX12_compare_50 ?_
  refine n_put dX12_compare_51 pX12_120 rfl tX12_14 (fun M1 hM1 => ?_)
  have T := T M1 hM1
  refine r_iload_n dX12_compare_54 rfl ?_
  refine r_bipush dX12_compare_55 (by decide) (by decide) ?_
  refine r_icmp_eq (tgt := 89) dX12_compare_57 (by decide) (fun h_3 => ?_) (fun h_3 => ?_)
  · have T := T.1 h_3
    refine r_iconst dX12_compare_89 (by decide) ?_
    refine r_istore_n dX12_compare_90 (by decide) rfl ?_
    refine r_iload_n dX12_compare_91 rfl ?_
    refine r_if_eq (tgt := 105) dX12_compare_92 (by decide) (fun _ => ?_) (fun h => absurd h (by decide))
    exact T
  · have T := T.2 h_3
    refine r_aload_n dX12_compare_60 rfl ?_
    refine r_getI dX12_compare_61 fX12_120 rfl tX12_14 ?_
    refine r_aload_n dX12_compare_64 rfl ?_
    refine r_getI dX12_compare_65 fX12_109 rfl tX12_1 ?_
    refine r_icmp_ge (tgt := 89) dX12_compare_68 (by decide) (fun h_2 => ?_) (fun h_2 => ?_)
    · have T := T.1 h_2
      refine r_iconst dX12_compare_89 (by decide) ?_
      refine r_istore_n dX12_compare_90 (by decide) rfl ?_
      refine r_iload_n dX12_compare_91 rfl ?_
      refine r_if_eq (tgt := 105) dX12_compare_92 (by decide) (fun _ => ?_) (fun h => absurd h (by decide))
      exact T
    · have T := T.2 h_2
      refine r_aload_n dX12_compare_71 rfl ?_
      refine r_getA dX12_compare_72 fX12_7 rfl uX12_0 ?_
      refine r_aload_n dX12_compare_75 rfl ?_
      refine r_getI dX12_compare_76 fX12_120 rfl tX12_14 ?_
      refine s_bald dX12_compare_79 rfl (Or.inl tX12_0) aX12_0 T.1 ?_
      have T := T.2
      refine r_bipush dX12_compare_80 (by decide) (by decide) ?_
      refine r_icmp_ne (tgt := 89) dX12_compare_82 (by decide) (fun h_1 => ?_) (fun h_1 => ?_)
      · have T := T.1 h_1
        refine r_iconst dX12_compare_89 (by decide) ?_
        refine r_istore_n dX12_compare_90 (by decide) rfl ?_
        refine r_iload_n dX12_compare_91 rfl ?_
        refine r_if_eq (tgt := 105) dX12_compare_92 (by decide) (fun _ => ?_) (fun h => absurd h (by decide))
        exact T
      · have T := T.2 h_1
        refine r_iconst dX12_compare_85 (by decide) ?_
        refine r_goto (tgt := 90) dX12_compare_86 (by decide) ?_
        refine r_istore_n dX12_compare_90 (by decide) rfl ?_
        refine r_iload_n dX12_compare_91 rfl ?_
        refine r_if_eq (tgt := 105) dX12_compare_92 (by decide) (fun h => absurd h (by decide)) (fun _ => ?_)
        refine r_aload_n dX12_compare_95 rfl ?_
        refine r_dup dX12_compare_96 rfl ?_
        refine r_getI dX12_compare_97 fX12_120 rfl tX12_14 ?_
        refine r_iconst dX12_compare_100 (by decide) ?_
        refine r_iadd dX12_compare_101 ?_
        refine n_put dX12_compare_102 pX12_120 rfl tX12_14 (fun M2 hM2 => ?_)
        have T := T M2 hM2
        exact T
set_option maxRecDepth 20000 in
set_option maxHeartbeats 1000000 in
theorem bX12_compare_105 {G : Gx} {K : Kx} {n : Nat} {M : Mem} {Q : Int → Mem → Prop}  {x1 : Int} {x2 : Int} {x3 : Int}  (T : OkI G n mX12_makes [vO 0, vI x2] M (fun r_1 M1 => (¬ r_1 = 0 → (¬ x1 = 60 → (¬ x1 = 61 → (x3 = 0 → OkI G n mX12_sum [vO 0] M1 (fun r_2 M2 => (¬ r_2 = 0 → OkV G n mX12_puts [vO 0, vI (wr (6 + 4)), vI 0] M2 (fun M3 => Q 1 M3)) ∧ (r_2 = 0 → Q 0 M2))) ∧ (¬ (x3 = 0) → OkI G n mX12_sum [vO 0] M1 (fun r_3 M4 => (¬ r_3 = 0 → OkV G n mX12_puts [vO 0, vI (wr (6 + 3)), vI 0] M4 (fun M5 => Q 1 M5)) ∧ (r_3 = 0 → Q 0 M4)))) ∧ (x1 = 61 → OkI G n mX12_sum [vO 0] M1 (fun r_4 M6 => (¬ r_4 = 0 → OkV G n mX12_puts [vO 0, vI (wr (6 + 2)), vI 0] M6 (fun M7 => Q 1 M7)) ∧ (r_4 = 0 → Q 0 M6)))) ∧ (x1 = 60 → (x3 = 0 → OkI G n mX12_sum [vO 0] M1 (fun r_5 M8 => (¬ r_5 = 0 → OkV G n mX12_puts [vO 0, vI (wr (6 + 0)), vI 0] M8 (fun M9 => Q 1 M9)) ∧ (r_5 = 0 → Q 0 M8))) ∧ (¬ (x3 = 0) → OkI G n mX12_sum [vO 0] M1 (fun r_6 M10 => (¬ r_6 = 0 → OkV G n mX12_puts [vO 0, vI (wr (6 + 1)), vI 0] M10 (fun M11 => Q 1 M11)) ∧ (r_6 = 0 → Q 0 M10))))) ∧ (r_1 = 0 → Q 0 M1))) : CW G K mX12_compare (n + 1) 105 [some (vO 0), some (vI x1), some (vI x2), some (vI x3), none] [] M (qI Q) := by
  refine r_aload_n dX12_compare_105 rfl ?_
  refine r_iload_n dX12_compare_106 rfl ?_
  refine r_callVI (md' := mX12_makes) (as := [vI x2]) dX12_compare_107 lX12_192 iX12_makes rfl rfl rfl (Nat.le_of_ble_eq_true rfl) T (fun r_1 M1 T => ?_)
  refine r_if_ne (tgt := 115) dX12_compare_110 (by decide) (fun h_10 => ?_) (fun h_10 => ?_)
  · have T := T.1 h_10
    refine r_iload_n dX12_compare_115 rfl ?_
    refine r_bipush dX12_compare_116 (by decide) (by decide) ?_
    refine r_icmp_ne (tgt := 133) dX12_compare_118 (by decide) (fun h_9 => ?_) (fun h_9 => ?_)
    · have T := T.1 h_9
      refine r_iload_n dX12_compare_133 rfl ?_
      refine r_bipush dX12_compare_134 (by decide) (by decide) ?_
      refine r_icmp_ne (tgt := 143) dX12_compare_136 (by decide) (fun h_5 => ?_) (fun h_5 => ?_)
      · have T := T.1 h_5
        refine r_iload_n dX12_compare_143 rfl ?_
        refine r_if_eq (tgt := 151) dX12_compare_144 (by decide) (fun h_3 => ?_) (fun h_3 => ?_)
        · have T := T.1 h_3
          refine r_iconst dX12_compare_151 (by decide) ?_
          refine r_istore dX12_compare_152 (by decide) rfl ?_
          refine r_aload_n dX12_compare_154 rfl ?_
          refine r_callVI (md' := mX12_sum) (as := []) dX12_compare_155 lX12_205 iX12_sum rfl rfl rfl (Nat.le_of_ble_eq_true rfl) T (fun r_2 M2 T => ?_)
          refine r_if_ne (tgt := 163) dX12_compare_158 (by decide) (fun h_1 => ?_) (fun h_1 => ?_)
          · have T := T.1 h_1
            refine r_aload_n dX12_compare_163 rfl ?_
            refine r_bipush dX12_compare_164 (by decide) (by decide) ?_
            refine r_iload dX12_compare_166 rfl ?_
            refine r_iadd dX12_compare_168 ?_
            refine r_iconst dX12_compare_169 (by decide) ?_
            refine r_callVV (md' := mX12_puts) (as := [vI (wr (6 + 4)), vI 0]) dX12_compare_170 lX12_184 iX12_puts rfl rfl rfl (Nat.le_of_ble_eq_true rfl) T (fun M3 T => ?_)
            refine r_iconst dX12_compare_173 (by decide) ?_
            exact r_zreturn dX12_compare_174 rfl (by decide) ⟨_, rfl, T⟩
          · have T := T.2 h_1
            refine r_iconst dX12_compare_161 (by decide) ?_
            exact r_zreturn dX12_compare_162 rfl (by decide) ⟨_, rfl, T⟩
        · have T := T.2 h_3
          refine r_iconst dX12_compare_147 (by decide) ?_
          refine r_goto (tgt := 152) dX12_compare_148 (by decide) ?_
          refine r_istore dX12_compare_152 (by decide) rfl ?_
          refine r_aload_n dX12_compare_154 rfl ?_
          refine r_callVI (md' := mX12_sum) (as := []) dX12_compare_155 lX12_205 iX12_sum rfl rfl rfl (Nat.le_of_ble_eq_true rfl) T (fun r_3 M4 T => ?_)
          refine r_if_ne (tgt := 163) dX12_compare_158 (by decide) (fun h_2 => ?_) (fun h_2 => ?_)
          · have T := T.1 h_2
            refine r_aload_n dX12_compare_163 rfl ?_
            refine r_bipush dX12_compare_164 (by decide) (by decide) ?_
            refine r_iload dX12_compare_166 rfl ?_
            refine r_iadd dX12_compare_168 ?_
            refine r_iconst dX12_compare_169 (by decide) ?_
            refine r_callVV (md' := mX12_puts) (as := [vI (wr (6 + 3)), vI 0]) dX12_compare_170 lX12_184 iX12_puts rfl rfl rfl (Nat.le_of_ble_eq_true rfl) T (fun M5 T => ?_)
            refine r_iconst dX12_compare_173 (by decide) ?_
            exact r_zreturn dX12_compare_174 rfl (by decide) ⟨_, rfl, T⟩
          · have T := T.2 h_2
            refine r_iconst dX12_compare_161 (by decide) ?_
            exact r_zreturn dX12_compare_162 rfl (by decide) ⟨_, rfl, T⟩
      · have T := T.2 h_5
        refine r_iconst dX12_compare_139 (by decide) ?_
        refine r_goto (tgt := 152) dX12_compare_140 (by decide) ?_
        refine r_istore dX12_compare_152 (by decide) rfl ?_
        refine r_aload_n dX12_compare_154 rfl ?_
        refine r_callVI (md' := mX12_sum) (as := []) dX12_compare_155 lX12_205 iX12_sum rfl rfl rfl (Nat.le_of_ble_eq_true rfl) T (fun r_4 M6 T => ?_)
        refine r_if_ne (tgt := 163) dX12_compare_158 (by decide) (fun h_4 => ?_) (fun h_4 => ?_)
        · have T := T.1 h_4
          refine r_aload_n dX12_compare_163 rfl ?_
          refine r_bipush dX12_compare_164 (by decide) (by decide) ?_
          refine r_iload dX12_compare_166 rfl ?_
          refine r_iadd dX12_compare_168 ?_
          refine r_iconst dX12_compare_169 (by decide) ?_
          refine r_callVV (md' := mX12_puts) (as := [vI (wr (6 + 2)), vI 0]) dX12_compare_170 lX12_184 iX12_puts rfl rfl rfl (Nat.le_of_ble_eq_true rfl) T (fun M7 T => ?_)
          refine r_iconst dX12_compare_173 (by decide) ?_
          exact r_zreturn dX12_compare_174 rfl (by decide) ⟨_, rfl, T⟩
        · have T := T.2 h_4
          refine r_iconst dX12_compare_161 (by decide) ?_
          exact r_zreturn dX12_compare_162 rfl (by decide) ⟨_, rfl, T⟩
    · have T := T.2 h_9
      refine r_iload_n dX12_compare_121 rfl ?_
      refine r_if_eq (tgt := 129) dX12_compare_122 (by decide) (fun h_8 => ?_) (fun h_8 => ?_)
      · have T := T.1 h_8
        refine r_iconst dX12_compare_129 (by decide) ?_
        refine r_goto (tgt := 152) dX12_compare_130 (by decide) ?_
        refine r_istore dX12_compare_152 (by decide) rfl ?_
        refine r_aload_n dX12_compare_154 rfl ?_
        refine r_callVI (md' := mX12_sum) (as := []) dX12_compare_155 lX12_205 iX12_sum rfl rfl rfl (Nat.le_of_ble_eq_true rfl) T (fun r_5 M8 T => ?_)
        refine r_if_ne (tgt := 163) dX12_compare_158 (by decide) (fun h_6 => ?_) (fun h_6 => ?_)
        · have T := T.1 h_6
          refine r_aload_n dX12_compare_163 rfl ?_
          refine r_bipush dX12_compare_164 (by decide) (by decide) ?_
          refine r_iload dX12_compare_166 rfl ?_
          refine r_iadd dX12_compare_168 ?_
          refine r_iconst dX12_compare_169 (by decide) ?_
          refine r_callVV (md' := mX12_puts) (as := [vI (wr (6 + 0)), vI 0]) dX12_compare_170 lX12_184 iX12_puts rfl rfl rfl (Nat.le_of_ble_eq_true rfl) T (fun M9 T => ?_)
          refine r_iconst dX12_compare_173 (by decide) ?_
          exact r_zreturn dX12_compare_174 rfl (by decide) ⟨_, rfl, T⟩
        · have T := T.2 h_6
          refine r_iconst dX12_compare_161 (by decide) ?_
          exact r_zreturn dX12_compare_162 rfl (by decide) ⟨_, rfl, T⟩
      · have T := T.2 h_8
        refine r_iconst dX12_compare_125 (by decide) ?_
        refine r_goto (tgt := 152) dX12_compare_126 (by decide) ?_
        refine r_istore dX12_compare_152 (by decide) rfl ?_
        refine r_aload_n dX12_compare_154 rfl ?_
        refine r_callVI (md' := mX12_sum) (as := []) dX12_compare_155 lX12_205 iX12_sum rfl rfl rfl (Nat.le_of_ble_eq_true rfl) T (fun r_6 M10 T => ?_)
        refine r_if_ne (tgt := 163) dX12_compare_158 (by decide) (fun h_7 => ?_) (fun h_7 => ?_)
        · have T := T.1 h_7
          refine r_aload_n dX12_compare_163 rfl ?_
          refine r_bipush dX12_compare_164 (by decide) (by decide) ?_
          refine r_iload dX12_compare_166 rfl ?_
          refine r_iadd dX12_compare_168 ?_
          refine r_iconst dX12_compare_169 (by decide) ?_
          refine r_callVV (md' := mX12_puts) (as := [vI (wr (6 + 1)), vI 0]) dX12_compare_170 lX12_184 iX12_puts rfl rfl rfl (Nat.le_of_ble_eq_true rfl) T (fun M11 T => ?_)
          refine r_iconst dX12_compare_173 (by decide) ?_
          exact r_zreturn dX12_compare_174 rfl (by decide) ⟨_, rfl, T⟩
        · have T := T.2 h_7
          refine r_iconst dX12_compare_161 (by decide) ?_
          exact r_zreturn dX12_compare_162 rfl (by decide) ⟨_, rfl, T⟩
  · have T := T.2 h_10
    refine r_iconst dX12_compare_113 (by decide) ?_
    exact r_zreturn dX12_compare_114 rfl (by decide) ⟨_, rfl, T⟩
theorem eX12_compare {G : Gx} {n : Nat} {M : Mem} {Q : Int → Mem → Prop}   (h : ∀ K : Kx, CW G K mX12_compare n 0 [some (vO 0), none, none, none, none] [] M (qI Q)) : OkI G n mX12_compare [vO 0] M Q := Ok_of (by decide) (Nat.le_of_ble_eq_true rfl) rfl h
-- DownOnlyModel fact ()Z
set_option maxRecDepth 20000 in
set_option maxHeartbeats 1000000 in
theorem bX12_fact_0 {G : Gx} {K : Kx} {n : Nat} {M : Mem} {Q : Int → Mem → Prop}    (T : CW G K mX12_fact (n + 1) 2 [some (vO 0), some (vI 1), none] [] M (qI Q)) : CW G K mX12_fact (n + 1) 0 [some (vO 0), none, none] [] M (qI Q) := by
  refine r_iconst dX12_fact_0 (by decide) ?_
  refine r_istore_n dX12_fact_1 (by decide) rfl ?_
  exact T
set_option maxRecDepth 20000 in
set_option maxHeartbeats 1000000 in
theorem bX12_fact_2 {G : Gx} {K : Kx} {n : Nat} {M : Mem} {Q : Int → Mem → Prop}  {x1 : Int}  (T : (x1 = 0 → OkI G n mX12_compare [vO 0] M (fun r_1 M1 => (r_1 = 0 ∨ r_1 = 1) ∧ Q r_1 M1)) ∧ (¬ (x1 = 0) → OkI G n mX12_see [vO 0] M (fun r_2 M2 => OkI G n mX12_isWord [vO 0, vL 7237492] M2 (fun r_3 M3 => (r_3 = 0 → (¬ r_2 = 91 → CW G K mX12_fact (n + 1) 2 [some (vO 0), some (vI 0), none] [] M3 (qI Q)) ∧ (r_2 = 91 → OkI G n mX12_opens [vO 0, vI 91] M3 (fun r_4 M4 => (¬ r_4 = 0 → ∀ M5 : Mem, M5 = mset M4 0 14 0 (wr (M4 0 14 0 + 1)) → CW G K mX12_fact (n + 1) 2 [some (vO 0), some (vI 1), none] [] M5 (qI Q)) ∧ (r_4 = 0 → Q 0 M4)))) ∧ (¬ (r_3 = 0) → OkI G n mX12_opens [vO 0, vI 11] M3 (fun r_5 M6 => (¬ r_5 = 0 → OkV G n mX12_passWord [vO 0] M6 (fun M7 => CW G K mX12_fact (n + 1) 2 [some (vO 0), some (vI 1), none] [] M7 (qI Q))) ∧ (r_5 = 0 → Q 0 M6))))))) : CW G K mX12_fact (n + 1) 2 [some (vO 0), some (vI x1), none] [] M (qI Q) := by
  refine r_iload_n dX12_fact_2 rfl ?_
  refine r_if_eq (tgt := 75) dX12_fact_3 (by decide) (fun h_5 => ?_) (fun h_5 => ?_)
  · have T := T.1 h_5
    refine r_aload_n dX12_fact_75 rfl ?_
    refine r_callVI (md' := mX12_compare) (as := []) dX12_fact_76 lX12_213 iX12_compare rfl rfl rfl (Nat.le_of_ble_eq_true rfl) T (fun r_1 M1 T => ?_)
    exact r_zreturn dX12_fact_79 rfl T.1 ⟨_, rfl, T.2⟩
  · have T := T.2 h_5
    refine r_iconst dX12_fact_6 (by decide) ?_
    refine r_istore_n dX12_fact_7 (by decide) rfl ?_
    refine r_aload_n dX12_fact_8 rfl ?_
    refine r_callVI (md' := mX12_see) (as := []) dX12_fact_9 lX12_123 iX12_see rfl rfl rfl (Nat.le_of_ble_eq_true rfl) T (fun r_2 M2 T => ?_)
    refine r_istore_n dX12_fact_12 (by decide) rfl ?_
    refine r_aload_n dX12_fact_13 rfl ?_
    refine r_ldc2 (z := 7237492) dX12_fact_14 kX12_208 (by decide) (by decide) ?_
    refine r_callVI (md' := mX12_isWord) (as := [vL 7237492]) dX12_fact_17 lX12_131 iX12_isWord rfl rfl rfl (Nat.le_of_ble_eq_true rfl) T (fun r_3 M3 T => ?_)
    refine r_if_eq (tgt := 43) dX12_fact_20 (by decide) (fun h_4 => ?_) (fun h_4 => ?_)
    · have T := T.1 h_4
      refine r_iload_n dX12_fact_43 rfl ?_
      refine r_bipush dX12_fact_44 (by decide) (by decide) ?_
      refine r_icmp_ne (tgt := 72) dX12_fact_46 (by decide) (fun h_2 => ?_) (fun h_2 => ?_)
      · have T := T.1 h_2
        refine r_goto (tgt := 2) dX12_fact_72 (by decide) ?_
        exact CW_msk [true, true, false] rfl T
      · have T := T.2 h_2
        refine r_aload_n dX12_fact_49 rfl ?_
        refine r_bipush dX12_fact_50 (by decide) (by decide) ?_
        refine r_callVI (md' := mX12_opens) (as := [vI 91]) dX12_fact_52 lX12_210 iX12_opens rfl rfl rfl (Nat.le_of_ble_eq_true rfl) T (fun r_4 M4 T => ?_)
        refine r_if_ne (tgt := 60) dX12_fact_55 (by decide) (fun h_1 => ?_) (fun h_1 => ?_)
        · have T := T.1 h_1
          refine r_aload_n dX12_fact_60 rfl ?_
          refine r_dup dX12_fact_61 rfl ?_
          refine r_getI dX12_fact_62 fX12_120 rfl tX12_14 ?_
          refine r_iconst dX12_fact_65 (by decide) ?_
          refine r_iadd dX12_fact_66 ?_
          refine n_put dX12_fact_67 pX12_120 rfl tX12_14 (fun M5 hM5 => ?_)
          have T := T M5 hM5
          refine r_iconst dX12_fact_70 (by decide) ?_
          refine r_istore_n dX12_fact_71 (by decide) rfl ?_
          refine r_goto (tgt := 2) dX12_fact_72 (by decide) ?_
          exact CW_msk [true, true, false] rfl T
        · have T := T.2 h_1
          refine r_iconst dX12_fact_58 (by decide) ?_
          exact r_zreturn dX12_fact_59 rfl (by decide) ⟨_, rfl, T⟩
    · have T := T.2 h_4
      refine r_aload_n dX12_fact_23 rfl ?_
      refine r_bipush dX12_fact_24 (by decide) (by decide) ?_
      refine r_callVI (md' := mX12_opens) (as := [vI 11]) dX12_fact_26 lX12_210 iX12_opens rfl rfl rfl (Nat.le_of_ble_eq_true rfl) T (fun r_5 M6 T => ?_)
      refine r_if_ne (tgt := 34) dX12_fact_29 (by decide) (fun h_3 => ?_) (fun h_3 => ?_)
      · have T := T.1 h_3
        refine r_aload_n dX12_fact_34 rfl ?_
        refine r_callVV (md' := mX12_passWord) (as := []) dX12_fact_35 lX12_135 iX12_passWord rfl rfl rfl (Nat.le_of_ble_eq_true rfl) T (fun M7 T => ?_)
        refine r_iconst dX12_fact_38 (by decide) ?_
        refine r_istore_n dX12_fact_39 (by decide) rfl ?_
        refine r_goto (tgt := 72) dX12_fact_40 (by decide) ?_
        refine r_goto (tgt := 2) dX12_fact_72 (by decide) ?_
        exact CW_msk [true, true, false] rfl T
      · have T := T.2 h_3
        refine r_iconst dX12_fact_32 (by decide) ?_
        exact r_zreturn dX12_fact_33 rfl (by decide) ⟨_, rfl, T⟩
theorem eX12_fact {G : Gx} {n : Nat} {M : Mem} {Q : Int → Mem → Prop}   (h : ∀ K : Kx, CW G K mX12_fact n 0 [some (vO 0), none, none] [] M (qI Q)) : OkI G n mX12_fact [vO 0] M Q := Ok_of (by decide) (Nat.le_of_ble_eq_true rfl) rfl h
-- DownOnlyModel isInside ()Z
set_option maxRecDepth 20000 in
set_option maxHeartbeats 1000000 in
theorem bX12_isInside_0 {G : Gx} {K : Kx} {n : Nat} {M : Mem} {Q : Int → Mem → Prop}    (T : CW G K mX12_isInside n 2 [some (vO 0), some (vI 0)] [] M (qI Q)) : CW G K mX12_isInside n 0 [some (vO 0), none] [] M (qI Q) := by
  refine r_iconst dX12_isInside_0 (by decide) ?_
  refine r_istore_n dX12_isInside_1 (by decide) rfl ?_
  exact T
set_option maxRecDepth 20000 in
set_option maxHeartbeats 1000000 in
theorem bX12_isInside_2 {G : Gx} {K : Kx} {n : Nat} {M : Mem} {Q : Int → Mem → Prop}  {x1 : Int}  (T : (M 0 22 0 ≤ x1 → Q 0 M) ∧ (¬ (M 0 22 0 ≤ x1) → (0 ≤ x1 ∧ x1 < 400) ∧ ((¬ M 0 21 x1.toNat = 91 → CW G K mX12_isInside n 2 [some (vO 0), some (vI (wr (x1 + 1)))] [] M (qI Q)) ∧ (M 0 21 x1.toNat = 91 → Q 1 M)))) : CW G K mX12_isInside n 2 [some (vO 0), some (vI x1)] [] M (qI Q) := by
  refine r_iload_n dX12_isInside_2 rfl ?_
  refine r_aload_n dX12_isInside_3 rfl ?_
  refine r_getI dX12_isInside_4 fX12_177 rfl tX12_22 ?_
  refine r_icmp_ge (tgt := 29) dX12_isInside_7 (by decide) (fun h_2 => ?_) (fun h_2 => ?_)
  · have T := T.1 h_2
    refine r_iconst dX12_isInside_29 (by decide) ?_
    exact r_zreturn dX12_isInside_30 rfl (by decide) ⟨_, rfl, T⟩
  · have T := T.2 h_2
    refine r_aload_n dX12_isInside_10 rfl ?_
    refine r_getA dX12_isInside_11 fX12_38 rfl uX12_21 ?_
    refine r_iload_n dX12_isInside_14 rfl ?_
    refine s_iald dX12_isInside_15 rfl tX12_21 aX12_21 T.1 ?_
    have T := T.2
    refine r_bipush dX12_isInside_16 (by decide) (by decide) ?_
    refine r_icmp_ne (tgt := 23) dX12_isInside_18 (by decide) (fun h_1 => ?_) (fun h_1 => ?_)
    · have T := T.1 h_1
      refine r_iinc dX12_isInside_23 rfl (by decide) rfl ?_
      refine r_goto (tgt := 2) dX12_isInside_26 (by decide) ?_
      exact T
    · have T := T.2 h_1
      refine r_iconst dX12_isInside_21 (by decide) ?_
      exact r_zreturn dX12_isInside_22 rfl (by decide) ⟨_, rfl, T⟩
theorem eX12_isInside {G : Gx} {n : Nat} {M : Mem} {Q : Int → Mem → Prop}   (h : ∀ K : Kx, CW G K mX12_isInside n 0 [some (vO 0), none] [] M (qI Q)) : OkI G n mX12_isInside [vO 0] M Q := Ok_of (by decide) (Nat.le_of_ble_eq_true rfl) rfl h
-- DownOnlyModel closes ()V
set_option maxRecDepth 20000 in
set_option maxHeartbeats 1000000 in
theorem bX12_closes_0 {G : Gx} {K : Kx} {n : Nat} {M : Mem} {Q : Mem → Prop}    (T : OkV G n mX12_settles [vO 0, vI 3] M (fun M1 => CW G K mX12_closes (n + 1) 5 [some (vO 0)] [] M1 (qV Q))) : CW G K mX12_closes (n + 1) 0 [some (vO 0)] [] M (qV Q) := by
  refine r_aload_n dX12_closes_0 rfl ?_
  refine r_iconst dX12_closes_1 (by decide) ?_
  refine r_callVV (md' := mX12_settles) (as := [vI 3]) dX12_closes_2 lX12_216 iX12_settles rfl rfl rfl (Nat.le_of_ble_eq_true rfl) T (fun M1 T => ?_)
  exact T
set_option maxRecDepth 20000 in
set_option maxHeartbeats 1000000 in
theorem bX12_closes_5 {G : Gx} {K : Kx} {n : Nat} {M : Mem} {Q : Mem → Prop}    (T : OkI G n mX12_see [vO 0] M (fun r_1 M1 => (¬ r_1 = 93 → Q M1) ∧ (r_1 = 93 → OkI G n mX12_isInside [vO 0] M1 (fun r_2 M2 => (r_2 = 0 → Q M2) ∧ (¬ (r_2 = 0) → OkV G n mX12_settles [vO 0, vI 1] M2 (fun M3 => ∀ M4 : Mem, M4 = mset M3 0 22 0 (wr (M3 0 22 0 - 1)) → ∀ M5 : Mem, M5 = mset M4 0 19 0 (wr (M4 0 19 0 - 1)) → ∀ M6 : Mem, M6 = mset M5 0 14 0 (wr (M5 0 14 0 + 1)) → OkV G n mX12_settles [vO 0, vI 3] M6 (fun M7 => CW G K mX12_closes (n + 1) 5 [some (vO 0)] [] M7 (qV Q)))))))) : CW G K mX12_closes (n + 1) 5 [some (vO 0)] [] M (qV Q) := by
  refine r_aload_n dX12_closes_5 rfl ?_
  refine r_callVI (md' := mX12_see) (as := []) dX12_closes_6 lX12_123 iX12_see rfl rfl rfl (Nat.le_of_ble_eq_true rfl) T (fun r_1 M1 T => ?_)
  refine r_bipush dX12_closes_9 (by decide) (by decide) ?_
  refine r_icmp_ne (tgt := 64) dX12_closes_11 (by decide) (fun h_2 => ?_) (fun h_2 => ?_)
  · have T := T.1 h_2
    exact r_return dX12_closes_64 rfl ⟨rfl, T⟩
  · have T := T.2 h_2
    refine r_aload_n dX12_closes_14 rfl ?_
    refine r_callVI (md' := mX12_isInside) (as := []) dX12_closes_15 lX12_219 iX12_isInside rfl rfl rfl (Nat.le_of_ble_eq_true rfl) T (fun r_2 M2 T => ?_)
    refine r_if_eq (tgt := 64) dX12_closes_18 (by decide) (fun h_1 => ?_) (fun h_1 => ?_)
    · have T := T.1 h_1
      exact r_return dX12_closes_64 rfl ⟨rfl, T⟩
    · have T := T.2 h_1
      refine r_aload_n dX12_closes_21 rfl ?_
      refine r_iconst dX12_closes_22 (by decide) ?_
      refine r_callVV (md' := mX12_settles) (as := [vI 1]) dX12_closes_23 lX12_216 iX12_settles rfl rfl rfl (Nat.le_of_ble_eq_true rfl) T (fun M3 T => ?_)
      refine r_aload_n dX12_closes_26 rfl ?_
      refine r_dup dX12_closes_27 rfl ?_
      refine r_getI dX12_closes_28 fX12_177 rfl tX12_22 ?_
      refine r_iconst dX12_closes_31 (by decide) ?_
      refine r_isub dX12_closes_32 ?_
      refine n_put dX12_closes_33 pX12_177 rfl tX12_22 (fun M4 hM4 => ?_)
      have T := T M4 hM4
      refine r_aload_n dX12_closes_36 rfl ?_
      refine r_dup dX12_closes_37 rfl ?_
      refine r_getI dX12_closes_38 fX12_174 rfl tX12_19 ?_
      refine r_iconst dX12_closes_41 (by decide) ?_
      refine r_isub dX12_closes_42 ?_
      refine n_put dX12_closes_43 pX12_174 rfl tX12_19 (fun M5 hM5 => ?_)
      have T := T M5 hM5
      refine r_aload_n dX12_closes_46 rfl ?_
      refine r_dup dX12_closes_47 rfl ?_
      refine r_getI dX12_closes_48 fX12_120 rfl tX12_14 ?_
      refine r_iconst dX12_closes_51 (by decide) ?_
      refine r_iadd dX12_closes_52 ?_
      refine n_put dX12_closes_53 pX12_120 rfl tX12_14 (fun M6 hM6 => ?_)
      have T := T M6 hM6
      refine r_aload_n dX12_closes_56 rfl ?_
      refine r_iconst dX12_closes_57 (by decide) ?_
      refine r_callVV (md' := mX12_settles) (as := [vI 3]) dX12_closes_58 lX12_216 iX12_settles rfl rfl rfl (Nat.le_of_ble_eq_true rfl) T (fun M7 T => ?_)
      refine r_goto (tgt := 5) dX12_closes_61 (by decide) ?_
      exact T
theorem eX12_closes {G : Gx} {n : Nat} {M : Mem} {Q : Mem → Prop}   (h : ∀ K : Kx, CW G K mX12_closes n 0 [some (vO 0)] [] M (qV Q)) : OkV G n mX12_closes [vO 0] M Q := Ok_of (by decide) (Nat.le_of_ble_eq_true rfl) rfl h
-- DownOnlyModel tested ()Z
set_option maxRecDepth 20000 in
set_option maxHeartbeats 1000000 in
theorem bX12_tested_0 {G : Gx} {K : Kx} {n : Nat} {M : Mem} {Q : Int → Mem → Prop}    (T : ∀ M1 : Mem, M1 = mset M 0 22 0 0 → ∀ M2 : Mem, M2 = mset M1 0 19 0 0 → CW G K mX12_tested (n + 1) 12 [some (vO 0), some (vI 1), none] [] M2 (qI Q)) : CW G K mX12_tested (n + 1) 0 [some (vO 0), none, none] [] M (qI Q) := by
  refine r_aload_n dX12_tested_0 rfl ?_
  refine r_iconst dX12_tested_1 (by decide) ?_
  refine n_put dX12_tested_2 pX12_177 rfl tX12_22 (fun M1 hM1 => ?_)
  have T := T M1 hM1
  refine r_aload_n dX12_tested_5 rfl ?_
  refine r_iconst dX12_tested_6 (by decide) ?_
  refine n_put dX12_tested_7 pX12_174 rfl tX12_19 (fun M2 hM2 => ?_)
  have T := T M2 hM2
  refine r_iconst dX12_tested_10 (by decide) ?_
  refine r_istore_n dX12_tested_11 (by decide) rfl ?_
  exact T
set_option maxRecDepth 20000 in
set_option maxHeartbeats 1000000 in
theorem bX12_tested_12 {G : Gx} {K : Kx} {n : Nat} {M : Mem} {Q : Int → Mem → Prop}  {x1 : Int}  (T : (x1 = 0 → OkI G n mX12_isInside [vO 0] M (fun r_1 M1 => (r_1 = 0 → OkV G n mX12_settles [vO 0, vI 1] M1 (fun M2 => Q 1 M2)) ∧ (¬ (r_1 = 0) → OkI G n mX12_see [vO 0] M1 (fun r_2 M3 => OkI G n mX12_fails [vO 0, vI 0, vI (M3 0 14 0)] M3 (fun r_3 M4 => (r_3 = 0 ∨ r_3 = 1) ∧ Q r_3 M4))))) ∧ (¬ (x1 = 0) → OkI G n mX12_fact [vO 0] M (fun r_4 M5 => (¬ r_4 = 0 → OkV G n mX12_closes [vO 0] M5 (fun M6 => OkI G n mX12_isWord [vO 0, vL 6385252] M6 (fun r_5 M7 => (¬ r_5 = 0 → CW G K mX12_tested (n + 1) 49 [some (vO 0), none, none] [] M7 (qI Q)) ∧ (r_5 = 0 → OkI G n mX12_isWord [vO 0, vL 28530] M7 (fun r_6 M8 => (r_6 = 0 → CW G K mX12_tested (n + 1) 12 [some (vO 0), some (vI 0), none] [] M8 (qI Q)) ∧ (¬ (r_6 = 0) → CW G K mX12_tested (n + 1) 49 [some (vO 0), none, none] [] M8 (qI Q))))))) ∧ (r_4 = 0 → Q 0 M5)))) : CW G K mX12_tested (n + 1) 12 [some (vO 0), some (vI x1), none] [] M (qI Q) := by
  refine r_iload_n dX12_tested_12 rfl ?_
  refine r_if_eq (tgt := 112) dX12_tested_13 (by decide) (fun h_5 => ?_) (fun h_5 => ?_)
  · have T := T.1 h_5
    refine r_aload_n dX12_tested_112 rfl ?_
    refine r_callVI (md' := mX12_isInside) (as := []) dX12_tested_113 lX12_219 iX12_isInside rfl rfl rfl (Nat.le_of_ble_eq_true rfl) T (fun r_1 M1 T => ?_)
    refine r_if_eq (tgt := 134) dX12_tested_116 (by decide) (fun h_1 => ?_) (fun h_1 => ?_)
    · have T := T.1 h_1
      refine r_aload_n dX12_tested_134 rfl ?_
      refine r_iconst dX12_tested_135 (by decide) ?_
      refine r_callVV (md' := mX12_settles) (as := [vI 1]) dX12_tested_136 lX12_216 iX12_settles rfl rfl rfl (Nat.le_of_ble_eq_true rfl) T (fun M2 T => ?_)
      refine r_iconst dX12_tested_139 (by decide) ?_
      exact r_zreturn dX12_tested_140 rfl (by decide) ⟨_, rfl, T⟩
    · have T := T.2 h_1
      refine r_aload_n dX12_tested_119 rfl ?_
      refine r_callVI (md' := mX12_see) (as := []) dX12_tested_120 lX12_123 iX12_see rfl rfl rfl (Nat.le_of_ble_eq_true rfl) T (fun r_2 M3 T => ?_)
      refine r_pop dX12_tested_123 rfl ?_
      refine r_aload_n dX12_tested_124 rfl ?_
      refine r_iconst dX12_tested_125 (by decide) ?_
      refine r_aload_n dX12_tested_126 rfl ?_
      refine r_getI dX12_tested_127 fX12_120 rfl tX12_14 ?_
      refine r_callVI (md' := mX12_fails) (as := [vI 0, vI (M3 0 14 0)]) dX12_tested_130 lX12_141 iX12_fails rfl rfl rfl (Nat.le_of_ble_eq_true rfl) T (fun r_3 M4 T => ?_)
      exact r_zreturn dX12_tested_133 rfl T.1 ⟨_, rfl, T.2⟩
  · have T := T.2 h_5
    refine r_aload_n dX12_tested_16 rfl ?_
    refine r_callVI (md' := mX12_fact) (as := []) dX12_tested_17 lX12_222 iX12_fact rfl rfl rfl (Nat.le_of_ble_eq_true rfl) T (fun r_4 M5 T => ?_)
    refine r_if_ne (tgt := 25) dX12_tested_20 (by decide) (fun h_4 => ?_) (fun h_4 => ?_)
    · have T := T.1 h_4
      refine r_aload_n dX12_tested_25 rfl ?_
      refine r_callVV (md' := mX12_closes) (as := []) dX12_tested_26 lX12_225 iX12_closes rfl rfl rfl (Nat.le_of_ble_eq_true rfl) T (fun M6 T => ?_)
      refine r_aload_n dX12_tested_29 rfl ?_
      refine r_ldc2 (z := 6385252) dX12_tested_30 kX12_228 (by decide) (by decide) ?_
      refine r_callVI (md' := mX12_isWord) (as := [vL 6385252]) dX12_tested_33 lX12_131 iX12_isWord rfl rfl rfl (Nat.le_of_ble_eq_true rfl) T (fun r_5 M7 T => ?_)
      refine r_if_ne (tgt := 49) dX12_tested_36 (by decide) (fun h_3 => ?_) (fun h_3 => ?_)
      · have T := T.1 h_3
        exact CW_msk [true, false, false] rfl T
      · have T := T.2 h_3
        refine r_aload_n dX12_tested_39 rfl ?_
        refine r_ldc2 (z := 28530) dX12_tested_40 kX12_230 (by decide) (by decide) ?_
        refine r_callVI (md' := mX12_isWord) (as := [vL 28530]) dX12_tested_43 lX12_131 iX12_isWord rfl rfl rfl (Nat.le_of_ble_eq_true rfl) T (fun r_6 M8 T => ?_)
        refine r_if_eq (tgt := 53) dX12_tested_46 (by decide) (fun h_2 => ?_) (fun h_2 => ?_)
        · have T := T.1 h_2
          refine r_iconst dX12_tested_53 (by decide) ?_
          refine r_istore_n dX12_tested_54 (by decide) rfl ?_
          refine r_iload_n dX12_tested_55 rfl ?_
          refine r_if_eq (tgt := 12) dX12_tested_56 (by decide) (fun _ => ?_) (fun h => absurd h (by decide))
          exact T
        · have T := T.2 h_2
          exact CW_msk [true, false, false] rfl T
    · have T := T.2 h_4
      refine r_iconst dX12_tested_23 (by decide) ?_
      exact r_zreturn dX12_tested_24 rfl (by decide) ⟨_, rfl, T⟩
set_option maxRecDepth 20000 in
set_option maxHeartbeats 1000000 in
theorem bX12_tested_49 {G : Gx} {K : Kx} {n : Nat} {M : Mem} {Q : Int → Mem → Prop}    (T : OkI G n mX12_isWord [vO 0, vL 6385252] M (fun r_1 M1 => (r_1 = 0 → CW G K mX12_tested (n + 1) 76 [some (vO 0), some (vI 1), none] [vI 13] M1 (qI Q)) ∧ (¬ (r_1 = 0) → CW G K mX12_tested (n + 1) 76 [some (vO 0), some (vI 1), none] [vI 12] M1 (qI Q)))) : CW G K mX12_tested (n + 1) 49 [some (vO 0), none, none] [] M (qI Q) := by
  refine r_iconst dX12_tested_49 (by decide) ?_
  refine r_goto (tgt := 54) dX12_tested_50 (by decide) ?_
  refine r_istore_n dX12_tested_54 (by decide) rfl ?_
  refine r_iload_n dX12_tested_55 rfl ?_
  refine r_if_eq (tgt := 12) dX12_tested_56 (by decide) (fun h => absurd h (by decide)) (fun _ => ?_)
  refine r_aload_n dX12_tested_59 rfl ?_
  refine r_ldc2 (z := 6385252) dX12_tested_60 kX12_228 (by decide) (by decide) ?_
  refine r_callVI (md' := mX12_isWord) (as := [vL 6385252]) dX12_tested_63 lX12_131 iX12_isWord rfl rfl rfl (Nat.le_of_ble_eq_true rfl) T (fun r_1 M1 T => ?_)
  refine r_if_eq (tgt := 74) dX12_tested_66 (by decide) (fun h_1 => ?_) (fun h_1 => ?_)
  · have T := T.1 h_1
    refine r_bipush dX12_tested_74 (by decide) (by decide) ?_
    exact T
  · have T := T.2 h_1
    refine r_bipush dX12_tested_69 (by decide) (by decide) ?_
    refine r_goto (tgt := 76) dX12_tested_71 (by decide) ?_
    exact T
set_option maxRecDepth 20000 in
set_option maxHeartbeats 1000000 in
theorem bX12_tested_76 {G : Gx} {K : Kx} {n : Nat} {M : Mem} {Q : Int → Mem → Prop}  {x1 : Int} {z0 : Int}  (T : OkV G n mX12_passWord [vO 0] M (fun M1 => OkI G n mX12_strength [vI z0] M1 (fun r_1 M2 => OkV G n mX12_settles [vO 0, vI r_1] M2 (fun M3 => (0 ≤ M3 0 22 0 ∧ M3 0 22 0 < 400) ∧ (∀ M4 : Mem, M4 = mset M3 0 21 (M3 0 22 0).toNat z0 → ∀ M5 : Mem, M5 = mset M4 0 22 0 (wr (M4 0 22 0 + 1)) → CW G K mX12_tested (n + 1) 12 [some (vO 0), some (vI x1), none] [] M5 (qI Q)))))) : CW G K mX12_tested (n + 1) 76 [some (vO 0), some (vI x1), none] [vI z0] M (qI Q) := by
  refine r_istore_n dX12_tested_76 (by decide) rfl ?_
  refine r_aload_n dX12_tested_77 rfl ?_
  refine r_callVV (md' := mX12_passWord) (as := []) dX12_tested_78 lX12_135 iX12_passWord rfl rfl rfl (Nat.le_of_ble_eq_true rfl) T (fun M1 T => ?_)
  refine r_aload_n dX12_tested_81 rfl ?_
  refine r_iload_n dX12_tested_82 rfl ?_
  refine r_callSI (md' := mX12_strength) (as := [vI z0]) dX12_tested_83 lX12_180 iX12_strength rfl rfl (Nat.le_of_ble_eq_true rfl) T (fun r_1 M2 T => ?_)
  refine r_callVV (md' := mX12_settles) (as := [vI r_1]) dX12_tested_86 lX12_216 iX12_settles rfl rfl rfl (Nat.le_of_ble_eq_true rfl) T (fun M3 T => ?_)
  refine r_aload_n dX12_tested_89 rfl ?_
  refine r_getA dX12_tested_90 fX12_38 rfl uX12_21 ?_
  refine r_aload_n dX12_tested_93 rfl ?_
  refine r_getI dX12_tested_94 fX12_177 rfl tX12_22 ?_
  refine r_iload_n dX12_tested_97 rfl ?_
  refine n_iast dX12_tested_98 rfl tX12_21 aX12_21 T.1 (fun M4 hM4 => ?_)
  have T := T.2 M4 hM4
  refine r_aload_n dX12_tested_99 rfl ?_
  refine r_dup dX12_tested_100 rfl ?_
  refine r_getI dX12_tested_101 fX12_177 rfl tX12_22 ?_
  refine r_iconst dX12_tested_104 (by decide) ?_
  refine r_iadd dX12_tested_105 ?_
  refine n_put dX12_tested_106 pX12_177 rfl tX12_22 (fun M5 hM5 => ?_)
  have T := T M5 hM5
  refine r_goto (tgt := 12) dX12_tested_109 (by decide) ?_
  exact CW_msk [true, true, false] rfl T
theorem eX12_tested {G : Gx} {n : Nat} {M : Mem} {Q : Int → Mem → Prop}   (h : ∀ K : Kx, CW G K mX12_tested n 0 [some (vO 0), none, none] [] M (qI Q)) : OkI G n mX12_tested [vO 0] M Q := Ok_of (by decide) (Nat.le_of_ble_eq_true rfl) rfl h
-- DownOnlyModel isDoingHere (I)Z
set_option maxRecDepth 20000 in
set_option maxHeartbeats 1000000 in
theorem bX12_isDoingHere_0 {G : Gx} {K : Kx} {n : Nat} {M : Mem} {Q : Int → Mem → Prop}  {x1 : Int}  (T : OkV G n mX12_passWord [vO 0] M (fun M1 => (0 ≤ M1 0 17 0 ∧ M1 0 17 0 < 6) ∧ ((0 ≤ wr (wr (48 * (M1 0 17 0)) + (wr (4 * (M1 0 6 (M1 0 17 0).toNat)))) ∧ wr (wr (48 * (M1 0 17 0)) + (wr (4 * (M1 0 6 (M1 0 17 0).toNat)))) < 288) ∧ (∀ M2 : Mem, M2 = mset M1 0 5 (wr (wr (48 * (M1 0 17 0)) + (wr (4 * (M1 0 6 (M1 0 17 0).toNat))))).toNat x1 → (0 ≤ wr (wr (wr (48 * (M1 0 17 0)) + (wr (4 * (M1 0 6 (M1 0 17 0).toNat)))) + 1) ∧ wr (wr (wr (48 * (M1 0 17 0)) + (wr (4 * (M1 0 6 (M1 0 17 0).toNat)))) + 1) < 288) ∧ (∀ M3 : Mem, M3 = mset M2 0 5 (wr (wr (wr (48 * (M1 0 17 0)) + (wr (4 * (M1 0 6 (M1 0 17 0).toNat)))) + 1)).toNat (-1) → (¬ x1 = 0 → CW G K mX12_isDoingHere (n + 1) 68 [some (vO 0), none, some (vI (wr (wr (48 * (M1 0 17 0)) + (wr (4 * (M1 0 6 (M1 0 17 0).toNat))))))] [] M3 (qI Q)) ∧ (x1 = 0 → OkI G n mX12_numberHere [vO 0, vI 0, vI 23] M3 (fun r_1 M4 => (¬ r_1 = 0 → (0 ≤ wr (wr (wr (48 * (M1 0 17 0)) + (wr (4 * (M1 0 6 (M1 0 17 0).toNat)))) + 1) ∧ wr (wr (wr (48 * (M1 0 17 0)) + (wr (4 * (M1 0 6 (M1 0 17 0).toNat)))) + 1) < 288) ∧ (∀ M5 : Mem, M5 = mset M4 0 5 (wr (wr (wr (48 * (M1 0 17 0)) + (wr (4 * (M1 0 6 (M1 0 17 0).toNat)))) + 1)).toNat (M4 0 16 0) → CW G K mX12_isDoingHere (n + 1) 68 [some (vO 0), none, some (vI (wr (wr (48 * (M1 0 17 0)) + (wr (4 * (M1 0 6 (M1 0 17 0).toNat))))))] [] M5 (qI Q))) ∧ (r_1 = 0 → Q 0 M4)))))))) : CW G K mX12_isDoingHere (n + 1) 0 [some (vO 0), some (vI x1), none] [] M (qI Q) := by
  refine r_aload_n dX12_isDoingHere_0 rfl ?_
  refine r_callVV (md' := mX12_passWord) (as := []) dX12_isDoingHere_1 lX12_135 iX12_passWord rfl rfl rfl (Nat.le_of_ble_eq_true rfl) T (fun M1 T => ?_)
  refine r_bipush dX12_isDoingHere_4 (by decide) (by decide) ?_
  refine r_aload_n dX12_isDoingHere_6 rfl ?_
  refine r_getI dX12_isDoingHere_7 fX12_168 rfl tX12_17 ?_
  refine r_imul dX12_isDoingHere_10 ?_
  refine r_iconst dX12_isDoingHere_11 (by decide) ?_
  refine r_aload_n dX12_isDoingHere_12 rfl ?_
  refine r_getA dX12_isDoingHere_13 fX12_23 rfl uX12_6 ?_
  refine r_aload_n dX12_isDoingHere_16 rfl ?_
  refine r_getI dX12_isDoingHere_17 fX12_168 rfl tX12_17 ?_
  refine s_iald dX12_isDoingHere_20 rfl tX12_6 aX12_6 T.1 ?_
  have T := T.2
  refine r_imul dX12_isDoingHere_21 ?_
  refine r_iadd dX12_isDoingHere_22 ?_
  refine r_istore_n dX12_isDoingHere_23 (by decide) rfl ?_
  refine r_aload_n dX12_isDoingHere_24 rfl ?_
  refine r_getA dX12_isDoingHere_25 fX12_20 rfl uX12_5 ?_
  refine r_iload_n dX12_isDoingHere_28 rfl ?_
  refine r_iload_n dX12_isDoingHere_29 rfl ?_
  refine n_iast dX12_isDoingHere_30 rfl tX12_5 aX12_5 T.1 (fun M2 hM2 => ?_)
  have T := T.2 M2 hM2
  refine r_aload_n dX12_isDoingHere_31 rfl ?_
  refine r_getA dX12_isDoingHere_32 fX12_20 rfl uX12_5 ?_
  refine r_iload_n dX12_isDoingHere_35 rfl ?_
  refine r_iconst dX12_isDoingHere_36 (by decide) ?_
  refine r_iadd dX12_isDoingHere_37 ?_
  refine r_iconst dX12_isDoingHere_38 (by decide) ?_
  refine n_iast dX12_isDoingHere_39 rfl tX12_5 aX12_5 T.1 (fun M3 hM3 => ?_)
  have T := T.2 M3 hM3
  refine r_iload_n dX12_isDoingHere_40 rfl ?_
  refine r_if_ne (tgt := 68) dX12_isDoingHere_41 (by decide) (fun h_2 => ?_) (fun h_2 => ?_)
  · have T := T.1 h_2
    exact CW_msk [true, false, true] rfl T
  · have T := T.2 h_2
    refine r_aload_n dX12_isDoingHere_44 rfl ?_
    refine r_iconst dX12_isDoingHere_45 (by decide) ?_
    refine r_bipush dX12_isDoingHere_46 (by decide) (by decide) ?_
    refine r_callVI (md' := mX12_numberHere) (as := [vI 0, vI 23]) dX12_isDoingHere_48 lX12_189 iX12_numberHere rfl rfl rfl (Nat.le_of_ble_eq_true rfl) T (fun r_1 M4 T => ?_)
    refine r_if_ne (tgt := 56) dX12_isDoingHere_51 (by decide) (fun h_1 => ?_) (fun h_1 => ?_)
    · have T := T.1 h_1
      refine r_aload_n dX12_isDoingHere_56 rfl ?_
      refine r_getA dX12_isDoingHere_57 fX12_20 rfl uX12_5 ?_
      refine r_iload_n dX12_isDoingHere_60 rfl ?_
      refine r_iconst dX12_isDoingHere_61 (by decide) ?_
      refine r_iadd dX12_isDoingHere_62 ?_
      refine r_aload_n dX12_isDoingHere_63 rfl ?_
      refine r_getI dX12_isDoingHere_64 fX12_145 rfl tX12_16 ?_
      refine n_iast dX12_isDoingHere_67 rfl tX12_5 aX12_5 T.1 (fun M5 hM5 => ?_)
      have T := T.2 M5 hM5
      exact CW_msk [true, false, true] rfl T
    · have T := T.2 h_1
      refine r_iconst dX12_isDoingHere_54 (by decide) ?_
      exact r_zreturn dX12_isDoingHere_55 rfl (by decide) ⟨_, rfl, T⟩
set_option maxRecDepth 20000 in
set_option maxHeartbeats 1000000 in
theorem bX12_isDoingHere_68 {G : Gx} {K : Kx} {n : Nat} {M : Mem} {Q : Int → Mem → Prop}  {x2 : Int}  (T : (0 ≤ wr (x2 + 2) ∧ wr (x2 + 2) < 288) ∧ (∀ M1 : Mem, M1 = mset M 0 5 (wr (x2 + 2)).toNat (-1) → OkI G n mX12_takesWord [vO 0, vL 26982] M1 (fun r_1 M2 => (r_1 = 0 → CW G K mX12_isDoingHere (n + 1) 113 [some (vO 0), none, some (vI x2)] [] M2 (qI Q)) ∧ (¬ (r_1 = 0) → (0 ≤ M2 0 17 0 ∧ M2 0 17 0 < 7) ∧ ((0 ≤ wr (x2 + 2) ∧ wr (x2 + 2) < 288) ∧ (∀ M3 : Mem, M3 = mset M2 0 5 (wr (x2 + 2)).toNat (M2 0 4 (M2 0 17 0).toNat) → OkI G n mX12_tested [vO 0] M3 (fun r_2 M4 => (¬ r_2 = 0 → CW G K mX12_isDoingHere (n + 1) 113 [some (vO 0), none, some (vI x2)] [] M4 (qI Q)) ∧ (r_2 = 0 → Q 0 M4)))))))) : CW G K mX12_isDoingHere (n + 1) 68 [some (vO 0), none, some (vI x2)] [] M (qI Q) := by
  refine r_aload_n dX12_isDoingHere_68 rfl ?_
  refine r_getA dX12_isDoingHere_69 fX12_20 rfl uX12_5 ?_
  refine r_iload_n dX12_isDoingHere_72 rfl ?_
  refine r_iconst dX12_isDoingHere_73 (by decide) ?_
  refine r_iadd dX12_isDoingHere_74 ?_
  refine r_iconst dX12_isDoingHere_75 (by decide) ?_
  refine n_iast dX12_isDoingHere_76 rfl tX12_5 aX12_5 T.1 (fun M1 hM1 => ?_)
  have T := T.2 M1 hM1
  refine r_aload_n dX12_isDoingHere_77 rfl ?_
  refine r_ldc2 (z := 26982) dX12_isDoingHere_78 kX12_232 (by decide) (by decide) ?_
  refine r_callVI (md' := mX12_takesWord) (as := [vL 26982]) dX12_isDoingHere_81 lX12_234 iX12_takesWord rfl rfl rfl (Nat.le_of_ble_eq_true rfl) T (fun r_1 M2 T => ?_)
  refine r_if_eq (tgt := 113) dX12_isDoingHere_84 (by decide) (fun h_2 => ?_) (fun h_2 => ?_)
  · have T := T.1 h_2
    exact T
  · have T := T.2 h_2
    refine r_aload_n dX12_isDoingHere_87 rfl ?_
    refine r_getA dX12_isDoingHere_88 fX12_20 rfl uX12_5 ?_
    refine r_iload_n dX12_isDoingHere_91 rfl ?_
    refine r_iconst dX12_isDoingHere_92 (by decide) ?_
    refine r_iadd dX12_isDoingHere_93 ?_
    refine r_aload_n dX12_isDoingHere_94 rfl ?_
    refine r_getA dX12_isDoingHere_95 fX12_17 rfl uX12_4 ?_
    refine r_aload_n dX12_isDoingHere_98 rfl ?_
    refine r_getI dX12_isDoingHere_99 fX12_168 rfl tX12_17 ?_
    refine s_iald dX12_isDoingHere_102 rfl tX12_4 aX12_4 T.1 ?_
    have T := T.2
    refine n_iast dX12_isDoingHere_103 rfl tX12_5 aX12_5 T.1 (fun M3 hM3 => ?_)
    have T := T.2 M3 hM3
    refine r_aload_n dX12_isDoingHere_104 rfl ?_
    refine r_callVI (md' := mX12_tested) (as := []) dX12_isDoingHere_105 lX12_237 iX12_tested rfl rfl rfl (Nat.le_of_ble_eq_true rfl) T (fun r_2 M4 T => ?_)
    refine r_if_ne (tgt := 113) dX12_isDoingHere_108 (by decide) (fun h_1 => ?_) (fun h_1 => ?_)
    · have T := T.1 h_1
      exact T
    · have T := T.2 h_1
      refine r_iconst dX12_isDoingHere_111 (by decide) ?_
      exact r_zreturn dX12_isDoingHere_112 rfl (by decide) ⟨_, rfl, T⟩
set_option maxRecDepth 20000 in
set_option maxHeartbeats 1000000 in
theorem bX12_isDoingHere_113 {G : Gx} {K : Kx} {n : Nat} {M : Mem} {Q : Int → Mem → Prop}  {x2 : Int}  (T : (0 ≤ M 0 17 0 ∧ M 0 17 0 < 7) ∧ ((0 ≤ wr (x2 + 3) ∧ wr (x2 + 3) < 288) ∧ (∀ M1 : Mem, M1 = mset M 0 5 (wr (x2 + 3)).toNat (M 0 4 (M 0 17 0).toNat) → (0 ≤ M1 0 17 0 ∧ M1 0 17 0 < 6) ∧ ((0 ≤ M1 0 17 0 ∧ M1 0 17 0 < 6) ∧ (∀ M2 : Mem, M2 = mset M1 0 6 (M1 0 17 0).toNat (wr (M1 0 6 (M1 0 17 0).toNat + 1)) → Q 1 M2))))) : CW G K mX12_isDoingHere (n + 1) 113 [some (vO 0), none, some (vI x2)] [] M (qI Q) := by
  refine r_aload_n dX12_isDoingHere_113 rfl ?_
  refine r_getA dX12_isDoingHere_114 fX12_20 rfl uX12_5 ?_
  refine r_iload_n dX12_isDoingHere_117 rfl ?_
  refine r_iconst dX12_isDoingHere_118 (by decide) ?_
  refine r_iadd dX12_isDoingHere_119 ?_
  refine r_aload_n dX12_isDoingHere_120 rfl ?_
  refine r_getA dX12_isDoingHere_121 fX12_17 rfl uX12_4 ?_
  refine r_aload_n dX12_isDoingHere_124 rfl ?_
  refine r_getI dX12_isDoingHere_125 fX12_168 rfl tX12_17 ?_
  refine s_iald dX12_isDoingHere_128 rfl tX12_4 aX12_4 T.1 ?_
  have T := T.2
  refine n_iast dX12_isDoingHere_129 rfl tX12_5 aX12_5 T.1 (fun M1 hM1 => ?_)
  have T := T.2 M1 hM1
  refine r_aload_n dX12_isDoingHere_130 rfl ?_
  refine r_getA dX12_isDoingHere_131 fX12_23 rfl uX12_6 ?_
  refine r_aload_n dX12_isDoingHere_134 rfl ?_
  refine r_getI dX12_isDoingHere_135 fX12_168 rfl tX12_17 ?_
  refine r_dup2 dX12_isDoingHere_138 rfl rfl ?_
  refine s_iald dX12_isDoingHere_139 rfl tX12_6 aX12_6 T.1 ?_
  have T := T.2
  refine r_iconst dX12_isDoingHere_140 (by decide) ?_
  refine r_iadd dX12_isDoingHere_141 ?_
  refine n_iast dX12_isDoingHere_142 rfl tX12_6 aX12_6 T.1 (fun M2 hM2 => ?_)
  have T := T.2 M2 hM2
  refine r_iconst dX12_isDoingHere_143 (by decide) ?_
  exact r_zreturn dX12_isDoingHere_144 rfl (by decide) ⟨_, rfl, T⟩
theorem eX12_isDoingHere {G : Gx} {n : Nat} {M : Mem} {Q : Int → Mem → Prop}  {x1 : Int} (h : ∀ K : Kx, CW G K mX12_isDoingHere n 0 [some (vO 0), some (vI x1), none] [] M (qI Q)) : OkI G n mX12_isDoingHere [vO 0, vI x1] M Q := Ok_of (by decide) (Nat.le_of_ble_eq_true rfl) rfl h
-- DownOnlyModel isRoomHere (I)Z
set_option maxRecDepth 20000 in
set_option maxHeartbeats 1000000 in
theorem bX12_isRoomHere_0 {G : Gx} {K : Kx} {n : Nat} {M : Mem} {Q : Int → Mem → Prop}  {x1 : Int}  (T : (¬ M 0 7 0 = 16 → OkV G n mX12_passWord [vO 0] M (fun M1 => OkI G n mX12_numberHere [vO 0, vI 0, vI 40] M1 (fun r_1 M2 => (¬ r_1 = 0 → (0 ≤ M2 0 7 0 ∧ M2 0 7 0 < 16) ∧ (∀ M3 : Mem, M3 = mset M2 0 11 (M2 0 7 0).toNat (M2 0 16 0) → ∀ M4 : Mem, M4 = mset M3 0 7 0 (wr (M3 0 7 0 + 1)) → Q 1 M4)) ∧ (r_1 = 0 → Q 0 M2)))) ∧ (M 0 7 0 = 16 → OkI G n mX12_fails [vO 0, vI 4, vI x1] M (fun r_2 M5 => (r_2 = 0 ∨ r_2 = 1) ∧ Q r_2 M5))) : CW G K mX12_isRoomHere (n + 1) 0 [some (vO 0), some (vI x1)] [] M (qI Q) := by
  refine r_aload_n dX12_isRoomHere_0 rfl ?_
  refine r_getI dX12_isRoomHere_1 fX12_240 rfl tX12_7 ?_
  refine r_bipush dX12_isRoomHere_4 (by decide) (by decide) ?_
  refine r_icmp_ne (tgt := 16) dX12_isRoomHere_6 (by decide) (fun h_2 => ?_) (fun h_2 => ?_)
  · have T := T.1 h_2
    refine r_aload_n dX12_isRoomHere_16 rfl ?_
    refine r_callVV (md' := mX12_passWord) (as := []) dX12_isRoomHere_17 lX12_135 iX12_passWord rfl rfl rfl (Nat.le_of_ble_eq_true rfl) T (fun M1 T => ?_)
    refine r_aload_n dX12_isRoomHere_20 rfl ?_
    refine r_iconst dX12_isRoomHere_21 (by decide) ?_
    refine r_bipush dX12_isRoomHere_22 (by decide) (by decide) ?_
    refine r_callVI (md' := mX12_numberHere) (as := [vI 0, vI 40]) dX12_isRoomHere_24 lX12_189 iX12_numberHere rfl rfl rfl (Nat.le_of_ble_eq_true rfl) T (fun r_1 M2 T => ?_)
    refine r_if_ne (tgt := 32) dX12_isRoomHere_27 (by decide) (fun h_1 => ?_) (fun h_1 => ?_)
    · have T := T.1 h_1
      refine r_aload_n dX12_isRoomHere_32 rfl ?_
      refine r_getA dX12_isRoomHere_33 fX12_29 rfl uX12_11 ?_
      refine r_aload_n dX12_isRoomHere_36 rfl ?_
      refine r_getI dX12_isRoomHere_37 fX12_240 rfl tX12_7 ?_
      refine r_aload_n dX12_isRoomHere_40 rfl ?_
      refine r_getI dX12_isRoomHere_41 fX12_145 rfl tX12_16 ?_
      refine n_iast dX12_isRoomHere_44 rfl tX12_11 aX12_11 T.1 (fun M3 hM3 => ?_)
      have T := T.2 M3 hM3
      refine r_aload_n dX12_isRoomHere_45 rfl ?_
      refine r_dup dX12_isRoomHere_46 rfl ?_
      refine r_getI dX12_isRoomHere_47 fX12_240 rfl tX12_7 ?_
      refine r_iconst dX12_isRoomHere_50 (by decide) ?_
      refine r_iadd dX12_isRoomHere_51 ?_
      refine n_put dX12_isRoomHere_52 pX12_240 rfl tX12_7 (fun M4 hM4 => ?_)
      have T := T M4 hM4
      refine r_iconst dX12_isRoomHere_55 (by decide) ?_
      exact r_zreturn dX12_isRoomHere_56 rfl (by decide) ⟨_, rfl, T⟩
    · have T := T.2 h_1
      refine r_iconst dX12_isRoomHere_30 (by decide) ?_
      exact r_zreturn dX12_isRoomHere_31 rfl (by decide) ⟨_, rfl, T⟩
  · have T := T.2 h_2
    refine r_aload_n dX12_isRoomHere_9 rfl ?_
    refine r_iconst dX12_isRoomHere_10 (by decide) ?_
    refine r_iload_n dX12_isRoomHere_11 rfl ?_
    refine r_callVI (md' := mX12_fails) (as := [vI 4, vI x1]) dX12_isRoomHere_12 lX12_141 iX12_fails rfl rfl rfl (Nat.le_of_ble_eq_true rfl) T (fun r_2 M5 T => ?_)
    exact r_zreturn dX12_isRoomHere_15 rfl T.1 ⟨_, rfl, T.2⟩
theorem eX12_isRoomHere {G : Gx} {n : Nat} {M : Mem} {Q : Int → Mem → Prop}  {x1 : Int} (h : ∀ K : Kx, CW G K mX12_isRoomHere n 0 [some (vO 0), some (vI x1)] [] M (qI Q)) : OkI G n mX12_isRoomHere [vO 0, vI x1] M Q := Ok_of (by decide) (Nat.le_of_ble_eq_true rfl) rfl h
-- DownOnlyModel isWayHere (ZI)Z
set_option maxRecDepth 20000 in
set_option maxHeartbeats 1000000 in
theorem bX12_isWayHere_0 {G : Gx} {K : Kx} {n : Nat} {M : Mem} {Q : Int → Mem → Prop}  {x1 : Int} {x2 : Int}  (T : (¬ M 0 8 0 = 24 → OkV G n mX12_passWord [vO 0] M (fun M1 => OkI G n mX12_numberHere [vO 0, vI 0, vI (wr (M1 0 7 0 - 1))] M1 (fun r_1 M2 => (¬ r_1 = 0 → OkI G n mX12_see [vO 0] M2 (fun r_2 M3 => OkI G n mX12_numberHere [vO 0, vI 0, vI (wr (M3 0 7 0 - 1))] M3 (fun r_3 M4 => (¬ r_3 = 0 → (x1 = 0 → (0 ≤ M4 0 16 0 ∧ M4 0 16 0 < 16) ∧ ((0 ≤ M2 0 16 0 ∧ M2 0 16 0 < 16) ∧ ((M4 0 11 (M4 0 16 0).toNat < M4 0 11 (M2 0 16 0).toNat → CW G K mX12_isWayHere (n + 1) 139 [some (vO 0), some (vI x1), none, some (vI (wr (6 * (M1 0 8 0)))), some (vI (M2 0 16 0)), none] [] M4 (qI Q)) ∧ (¬ (M4 0 11 (M4 0 16 0).toNat < M4 0 11 (M2 0 16 0).toNat) → OkI G n mX12_fails [vO 0, vI 1, vI (M3 0 14 0)] M4 (fun r_4 M5 => (r_4 = 0 ∨ r_4 = 1) ∧ Q r_4 M5))))) ∧ (¬ (x1 = 0) → (M4 0 16 0 = M2 0 16 0 → OkI G n mX12_fails [vO 0, vI 1, vI (M3 0 14 0)] M4 (fun r_5 M6 => (r_5 = 0 ∨ r_5 = 1) ∧ Q r_5 M6)) ∧ (¬ (M4 0 16 0 = M2 0 16 0) → (0 ≤ M4 0 16 0 ∧ M4 0 16 0 < 16) ∧ ((0 ≤ M2 0 16 0 ∧ M2 0 16 0 < 16) ∧ ((M4 0 11 (M4 0 16 0).toNat = M4 0 11 (M2 0 16 0).toNat → CW G K mX12_isWayHere (n + 1) 139 [some (vO 0), some (vI x1), none, some (vI (wr (6 * (M1 0 8 0)))), some (vI (M2 0 16 0)), none] [] M4 (qI Q)) ∧ (¬ (M4 0 11 (M4 0 16 0).toNat = M4 0 11 (M2 0 16 0).toNat) → OkI G n mX12_fails [vO 0, vI 1, vI (M3 0 14 0)] M4 (fun r_6 M7 => (r_6 = 0 ∨ r_6 = 1) ∧ Q r_6 M7))))))) ∧ (r_3 = 0 → Q 0 M4)))) ∧ (r_1 = 0 → Q 0 M2)))) ∧ (M 0 8 0 = 24 → OkI G n mX12_fails [vO 0, vI 4, vI x2] M (fun r_7 M8 => (r_7 = 0 ∨ r_7 = 1) ∧ Q r_7 M8))) : CW G K mX12_isWayHere (n + 1) 0 [some (vO 0), some (vI x1), some (vI x2), none, none, none] [] M (qI Q) := by
  refine r_aload_n dX12_isWayHere_0 rfl ?_
  refine r_getI dX12_isWayHere_1 fX12_243 rfl tX12_8 ?_
  refine r_bipush dX12_isWayHere_4 (by decide) (by decide) ?_
  refine r_icmp_ne (tgt := 16) dX12_isWayHere_6 (by decide) (fun h_7 => ?_) (fun h_7 => ?_)
  · have T := T.1 h_7
    refine r_aload_n dX12_isWayHere_16 rfl ?_
    refine r_callVV (md' := mX12_passWord) (as := []) dX12_isWayHere_17 lX12_135 iX12_passWord rfl rfl rfl (Nat.le_of_ble_eq_true rfl) T (fun M1 T => ?_)
    refine r_bipush dX12_isWayHere_20 (by decide) (by decide) ?_
    refine r_aload_n dX12_isWayHere_22 rfl ?_
    refine r_getI dX12_isWayHere_23 fX12_243 rfl tX12_8 ?_
    refine r_imul dX12_isWayHere_26 ?_
    refine r_istore_n dX12_isWayHere_27 (by decide) rfl ?_
    refine r_aload_n dX12_isWayHere_28 rfl ?_
    refine r_iconst dX12_isWayHere_29 (by decide) ?_
    refine r_aload_n dX12_isWayHere_30 rfl ?_
    refine r_getI dX12_isWayHere_31 fX12_240 rfl tX12_7 ?_
    refine r_iconst dX12_isWayHere_34 (by decide) ?_
    refine r_isub dX12_isWayHere_35 ?_
    refine r_callVI (md' := mX12_numberHere) (as := [vI 0, vI (wr (M1 0 7 0 - 1))]) dX12_isWayHere_36 lX12_189 iX12_numberHere rfl rfl rfl (Nat.le_of_ble_eq_true rfl) T (fun r_1 M2 T => ?_)
    refine r_if_ne (tgt := 44) dX12_isWayHere_39 (by decide) (fun h_6 => ?_) (fun h_6 => ?_)
    · have T := T.1 h_6
      refine r_aload_n dX12_isWayHere_44 rfl ?_
      refine r_getI dX12_isWayHere_45 fX12_145 rfl tX12_16 ?_
      refine r_istore dX12_isWayHere_48 (by decide) rfl ?_
      refine r_aload_n dX12_isWayHere_50 rfl ?_
      refine r_callVI (md' := mX12_see) (as := []) dX12_isWayHere_51 lX12_123 iX12_see rfl rfl rfl (Nat.le_of_ble_eq_true rfl) T (fun r_2 M3 T => ?_)
      refine r_pop dX12_isWayHere_54 rfl ?_
      refine r_aload_n dX12_isWayHere_55 rfl ?_
      refine r_getI dX12_isWayHere_56 fX12_120 rfl tX12_14 ?_
      refine r_istore dX12_isWayHere_59 (by decide) rfl ?_
      refine r_aload_n dX12_isWayHere_61 rfl ?_
      refine r_iconst dX12_isWayHere_62 (by decide) ?_
      refine r_aload_n dX12_isWayHere_63 rfl ?_
      refine r_getI dX12_isWayHere_64 fX12_240 rfl tX12_7 ?_
      refine r_iconst dX12_isWayHere_67 (by decide) ?_
      refine r_isub dX12_isWayHere_68 ?_
      refine r_callVI (md' := mX12_numberHere) (as := [vI 0, vI (wr (M3 0 7 0 - 1))]) dX12_isWayHere_69 lX12_189 iX12_numberHere rfl rfl rfl (Nat.le_of_ble_eq_true rfl) T (fun r_3 M4 T => ?_)
      refine r_if_ne (tgt := 77) dX12_isWayHere_72 (by decide) (fun h_5 => ?_) (fun h_5 => ?_)
      · have T := T.1 h_5
        refine r_iload_n dX12_isWayHere_77 rfl ?_
        refine r_if_eq (tgt := 112) dX12_isWayHere_78 (by decide) (fun h_4 => ?_) (fun h_4 => ?_)
        · have T := T.1 h_4
          refine r_aload_n dX12_isWayHere_112 rfl ?_
          refine r_getA dX12_isWayHere_113 fX12_29 rfl uX12_11 ?_
          refine r_aload_n dX12_isWayHere_116 rfl ?_
          refine r_getI dX12_isWayHere_117 fX12_145 rfl tX12_16 ?_
          refine s_iald dX12_isWayHere_120 rfl tX12_11 aX12_11 T.1 ?_
          have T := T.2
          refine r_aload_n dX12_isWayHere_121 rfl ?_
          refine r_getA dX12_isWayHere_122 fX12_29 rfl uX12_11 ?_
          refine r_iload dX12_isWayHere_125 rfl ?_
          refine s_iald dX12_isWayHere_127 rfl tX12_11 aX12_11 T.1 ?_
          have T := T.2
          refine r_icmp_lt (tgt := 139) dX12_isWayHere_128 (by decide) (fun h_1 => ?_) (fun h_1 => ?_)
          · have T := T.1 h_1
            exact CW_msk [true, true, false, true, true, false] rfl T
          · have T := T.2 h_1
            refine r_aload_n dX12_isWayHere_131 rfl ?_
            refine r_iconst dX12_isWayHere_132 (by decide) ?_
            refine r_iload dX12_isWayHere_133 rfl ?_
            refine r_callVI (md' := mX12_fails) (as := [vI 1, vI (M3 0 14 0)]) dX12_isWayHere_135 lX12_141 iX12_fails rfl rfl rfl (Nat.le_of_ble_eq_true rfl) T (fun r_4 M5 T => ?_)
            exact r_zreturn dX12_isWayHere_138 rfl T.1 ⟨_, rfl, T.2⟩
        · have T := T.2 h_4
          refine r_aload_n dX12_isWayHere_81 rfl ?_
          refine r_getI dX12_isWayHere_82 fX12_145 rfl tX12_16 ?_
          refine r_iload dX12_isWayHere_85 rfl ?_
          refine r_icmp_eq (tgt := 131) dX12_isWayHere_87 (by decide) (fun h_3 => ?_) (fun h_3 => ?_)
          · have T := T.1 h_3
            refine r_aload_n dX12_isWayHere_131 rfl ?_
            refine r_iconst dX12_isWayHere_132 (by decide) ?_
            refine r_iload dX12_isWayHere_133 rfl ?_
            refine r_callVI (md' := mX12_fails) (as := [vI 1, vI (M3 0 14 0)]) dX12_isWayHere_135 lX12_141 iX12_fails rfl rfl rfl (Nat.le_of_ble_eq_true rfl) T (fun r_5 M6 T => ?_)
            exact r_zreturn dX12_isWayHere_138 rfl T.1 ⟨_, rfl, T.2⟩
          · have T := T.2 h_3
            refine r_aload_n dX12_isWayHere_90 rfl ?_
            refine r_getA dX12_isWayHere_91 fX12_29 rfl uX12_11 ?_
            refine r_aload_n dX12_isWayHere_94 rfl ?_
            refine r_getI dX12_isWayHere_95 fX12_145 rfl tX12_16 ?_
            refine s_iald dX12_isWayHere_98 rfl tX12_11 aX12_11 T.1 ?_
            have T := T.2
            refine r_aload_n dX12_isWayHere_99 rfl ?_
            refine r_getA dX12_isWayHere_100 fX12_29 rfl uX12_11 ?_
            refine r_iload dX12_isWayHere_103 rfl ?_
            refine s_iald dX12_isWayHere_105 rfl tX12_11 aX12_11 T.1 ?_
            have T := T.2
            refine r_icmp_eq (tgt := 139) dX12_isWayHere_106 (by decide) (fun h_2 => ?_) (fun h_2 => ?_)
            · have T := T.1 h_2
              exact CW_msk [true, true, false, true, true, false] rfl T
            · have T := T.2 h_2
              refine r_goto (tgt := 131) dX12_isWayHere_109 (by decide) ?_
              refine r_aload_n dX12_isWayHere_131 rfl ?_
              refine r_iconst dX12_isWayHere_132 (by decide) ?_
              refine r_iload dX12_isWayHere_133 rfl ?_
              refine r_callVI (md' := mX12_fails) (as := [vI 1, vI (M3 0 14 0)]) dX12_isWayHere_135 lX12_141 iX12_fails rfl rfl rfl (Nat.le_of_ble_eq_true rfl) T (fun r_6 M7 T => ?_)
              exact r_zreturn dX12_isWayHere_138 rfl T.1 ⟨_, rfl, T.2⟩
      · have T := T.2 h_5
        refine r_iconst dX12_isWayHere_75 (by decide) ?_
        exact r_zreturn dX12_isWayHere_76 rfl (by decide) ⟨_, rfl, T⟩
    · have T := T.2 h_6
      refine r_iconst dX12_isWayHere_42 (by decide) ?_
      exact r_zreturn dX12_isWayHere_43 rfl (by decide) ⟨_, rfl, T⟩
  · have T := T.2 h_7
    refine r_aload_n dX12_isWayHere_9 rfl ?_
    refine r_iconst dX12_isWayHere_10 (by decide) ?_
    refine r_iload_n dX12_isWayHere_11 rfl ?_
    refine r_callVI (md' := mX12_fails) (as := [vI 4, vI x2]) dX12_isWayHere_12 lX12_141 iX12_fails rfl rfl rfl (Nat.le_of_ble_eq_true rfl) T (fun r_7 M8 T => ?_)
    exact r_zreturn dX12_isWayHere_15 rfl T.1 ⟨_, rfl, T.2⟩
set_option maxRecDepth 20000 in
set_option maxHeartbeats 1000000 in
theorem bX12_isWayHere_139 {G : Gx} {K : Kx} {n : Nat} {M : Mem} {Q : Int → Mem → Prop}  {x1 : Int} {x3 : Int} {x4 : Int}  (T : (0 ≤ x3 ∧ x3 < 144) ∧ (∀ M1 : Mem, M1 = mset M 0 12 x3.toNat x4 → (0 ≤ wr (x3 + 1) ∧ wr (x3 + 1) < 144) ∧ (∀ M2 : Mem, M2 = mset M1 0 12 (wr (x3 + 1)).toNat (M1 0 16 0) → OkI G n mX12_numberHere [vO 0, vI 1, vI 60] M2 (fun r_1 M3 => (¬ r_1 = 0 → (0 ≤ wr (x3 + 2) ∧ wr (x3 + 2) < 144) ∧ (∀ M4 : Mem, M4 = mset M3 0 12 (wr (x3 + 2)).toNat (M3 0 16 0) → (x1 = 0 → CW G K mX12_isWayHere (n + 1) 199 [some (vO 0), none, none, some (vI x3), none, none] [vI 0, vI (wr (x3 + 3)), vA 0 12] M4 (qI Q)) ∧ (¬ (x1 = 0) → CW G K mX12_isWayHere (n + 1) 199 [some (vO 0), none, none, some (vI x3), none, none] [vI 1, vI (wr (x3 + 3)), vA 0 12] M4 (qI Q)))) ∧ (r_1 = 0 → Q 0 M3))))) : CW G K mX12_isWayHere (n + 1) 139 [some (vO 0), some (vI x1), none, some (vI x3), some (vI x4), none] [] M (qI Q) := by
  refine r_aload_n dX12_isWayHere_139 rfl ?_
  refine r_getA dX12_isWayHere_140 fX12_32 rfl uX12_12 ?_
  refine r_iload_n dX12_isWayHere_143 rfl ?_
  refine r_iload dX12_isWayHere_144 rfl ?_
  refine n_iast dX12_isWayHere_146 rfl tX12_12 aX12_12 T.1 (fun M1 hM1 => ?_)
  have T := T.2 M1 hM1
  refine r_aload_n dX12_isWayHere_147 rfl ?_
  refine r_getA dX12_isWayHere_148 fX12_32 rfl uX12_12 ?_
  refine r_iload_n dX12_isWayHere_151 rfl ?_
  refine r_iconst dX12_isWayHere_152 (by decide) ?_
  refine r_iadd dX12_isWayHere_153 ?_
  refine r_aload_n dX12_isWayHere_154 rfl ?_
  refine r_getI dX12_isWayHere_155 fX12_145 rfl tX12_16 ?_
  refine n_iast dX12_isWayHere_158 rfl tX12_12 aX12_12 T.1 (fun M2 hM2 => ?_)
  have T := T.2 M2 hM2
  refine r_aload_n dX12_isWayHere_159 rfl ?_
  refine r_iconst dX12_isWayHere_160 (by decide) ?_
  refine r_bipush dX12_isWayHere_161 (by decide) (by decide) ?_
  refine r_callVI (md' := mX12_numberHere) (as := [vI 1, vI 60]) dX12_isWayHere_163 lX12_189 iX12_numberHere rfl rfl rfl (Nat.le_of_ble_eq_true rfl) T (fun r_1 M3 T => ?_)
  refine r_if_ne (tgt := 171) dX12_isWayHere_166 (by decide) (fun h_2 => ?_) (fun h_2 => ?_)
  · have T := T.1 h_2
    refine r_aload_n dX12_isWayHere_171 rfl ?_
    refine r_getA dX12_isWayHere_172 fX12_32 rfl uX12_12 ?_
    refine r_iload_n dX12_isWayHere_175 rfl ?_
    refine r_iconst dX12_isWayHere_176 (by decide) ?_
    refine r_iadd dX12_isWayHere_177 ?_
    refine r_aload_n dX12_isWayHere_178 rfl ?_
    refine r_getI dX12_isWayHere_179 fX12_145 rfl tX12_16 ?_
    refine n_iast dX12_isWayHere_182 rfl tX12_12 aX12_12 T.1 (fun M4 hM4 => ?_)
    have T := T.2 M4 hM4
    refine r_aload_n dX12_isWayHere_183 rfl ?_
    refine r_getA dX12_isWayHere_184 fX12_32 rfl uX12_12 ?_
    refine r_iload_n dX12_isWayHere_187 rfl ?_
    refine r_iconst dX12_isWayHere_188 (by decide) ?_
    refine r_iadd dX12_isWayHere_189 ?_
    refine r_iload_n dX12_isWayHere_190 rfl ?_
    refine r_if_eq (tgt := 198) dX12_isWayHere_191 (by decide) (fun h_1 => ?_) (fun h_1 => ?_)
    · have T := T.1 h_1
      refine r_iconst dX12_isWayHere_198 (by decide) ?_
      exact CW_msk [true, false, false, true, false, false] rfl T
    · have T := T.2 h_1
      refine r_iconst dX12_isWayHere_194 (by decide) ?_
      refine r_goto (tgt := 199) dX12_isWayHere_195 (by decide) ?_
      exact CW_msk [true, false, false, true, false, false] rfl T
  · have T := T.2 h_2
    refine r_iconst dX12_isWayHere_169 (by decide) ?_
    exact r_zreturn dX12_isWayHere_170 rfl (by decide) ⟨_, rfl, T⟩
set_option maxRecDepth 20000 in
set_option maxHeartbeats 1000000 in
theorem bX12_isWayHere_199 {G : Gx} {K : Kx} {n : Nat} {M : Mem} {Q : Int → Mem → Prop}  {x3 : Int} {z0 : Int} {z1 : Int}  (T : (0 ≤ z1 ∧ z1 < 144) ∧ (∀ M1 : Mem, M1 = mset M 0 12 z1.toNat z0 → (0 ≤ wr (x3 + 4) ∧ wr (x3 + 4) < 144) ∧ (∀ M2 : Mem, M2 = mset M1 0 12 (wr (x3 + 4)).toNat (-1) → (0 ≤ wr (x3 + 5) ∧ wr (x3 + 5) < 144) ∧ (∀ M3 : Mem, M3 = mset M2 0 12 (wr (x3 + 5)).toNat (-1) → ∀ M4 : Mem, M4 = mset M3 0 8 0 (wr (M3 0 8 0 + 1)) → Q 1 M4)))) : CW G K mX12_isWayHere (n + 1) 199 [some (vO 0), none, none, some (vI x3), none, none] [vI z0, vI z1, vA 0 12] M (qI Q) := by
  refine n_iast dX12_isWayHere_199 rfl tX12_12 aX12_12 T.1 (fun M1 hM1 => ?_)
  have T := T.2 M1 hM1
  refine r_aload_n dX12_isWayHere_200 rfl ?_
  refine r_getA dX12_isWayHere_201 fX12_32 rfl uX12_12 ?_
  refine r_iload_n dX12_isWayHere_204 rfl ?_
  refine r_iconst dX12_isWayHere_205 (by decide) ?_
  refine r_iadd dX12_isWayHere_206 ?_
  refine r_iconst dX12_isWayHere_207 (by decide) ?_
  refine n_iast dX12_isWayHere_208 rfl tX12_12 aX12_12 T.1 (fun M2 hM2 => ?_)
  have T := T.2 M2 hM2
  refine r_aload_n dX12_isWayHere_209 rfl ?_
  refine r_getA dX12_isWayHere_210 fX12_32 rfl uX12_12 ?_
  refine r_iload_n dX12_isWayHere_213 rfl ?_
  refine r_iconst dX12_isWayHere_214 (by decide) ?_
  refine r_iadd dX12_isWayHere_215 ?_
  refine r_iconst dX12_isWayHere_216 (by decide) ?_
  refine n_iast dX12_isWayHere_217 rfl tX12_12 aX12_12 T.1 (fun M3 hM3 => ?_)
  have T := T.2 M3 hM3
  refine r_aload_n dX12_isWayHere_218 rfl ?_
  refine r_dup dX12_isWayHere_219 rfl ?_
  refine r_getI dX12_isWayHere_220 fX12_243 rfl tX12_8 ?_
  refine r_iconst dX12_isWayHere_223 (by decide) ?_
  refine r_iadd dX12_isWayHere_224 ?_
  refine n_put dX12_isWayHere_225 pX12_243 rfl tX12_8 (fun M4 hM4 => ?_)
  have T := T M4 hM4
  refine r_iconst dX12_isWayHere_228 (by decide) ?_
  exact r_zreturn dX12_isWayHere_229 rfl (by decide) ⟨_, rfl, T⟩
theorem eX12_isWayHere {G : Gx} {n : Nat} {M : Mem} {Q : Int → Mem → Prop}  {x1 : Int} {x2 : Int} (h : ∀ K : Kx, CW G K mX12_isWayHere n 0 [some (vO 0), some (vI x1), some (vI x2), none, none, none] [] M (qI Q)) : OkI G n mX12_isWayHere [vO 0, vI x1, vI x2] M Q := Ok_of (by decide) (Nat.le_of_ble_eq_true rfl) rfl h
-- DownOnlyModel isDoorHere ()Z
set_option maxRecDepth 20000 in
set_option maxHeartbeats 1000000 in
theorem bX12_isDoorHere_0 {G : Gx} {K : Kx} {n : Nat} {M : Mem} {Q : Int → Mem → Prop}    (T : OkV G n mX12_passWord [vO 0] M (fun M1 => OkI G n mX12_numberHere [vO 0, vI 0, vI (wr (M1 0 8 0 - 1))] M1 (fun r_1 M2 => (¬ r_1 = 0 → OkI G n mX12_numberHere [vO 0, vI 0, vI 1439] M2 (fun r_2 M3 => (¬ r_2 = 0 → OkI G n mX12_numberHere [vO 0, vI (M3 0 16 0), vI 1439] M3 (fun r_3 M4 => (¬ r_3 = 0 → (0 ≤ wr (wr (6 * (M2 0 16 0)) + 4) ∧ wr (wr (6 * (M2 0 16 0)) + 4) < 144) ∧ (∀ M5 : Mem, M5 = mset M4 0 12 (wr (wr (6 * (M2 0 16 0)) + 4)).toNat (M3 0 16 0) → (0 ≤ wr (wr (6 * (M2 0 16 0)) + 5) ∧ wr (wr (6 * (M2 0 16 0)) + 5) < 144) ∧ (∀ M6 : Mem, M6 = mset M5 0 12 (wr (wr (6 * (M2 0 16 0)) + 5)).toNat (M5 0 16 0) → Q 1 M6))) ∧ (r_3 = 0 → Q 0 M4))) ∧ (r_2 = 0 → Q 0 M3))) ∧ (r_1 = 0 → Q 0 M2)))) : CW G K mX12_isDoorHere (n + 1) 0 [some (vO 0), none, none] [] M (qI Q) := by
  refine r_aload_n dX12_isDoorHere_0 rfl ?_
  refine r_callVV (md' := mX12_passWord) (as := []) dX12_isDoorHere_1 lX12_135 iX12_passWord rfl rfl rfl (Nat.le_of_ble_eq_true rfl) T (fun M1 T => ?_)
  refine r_aload_n dX12_isDoorHere_4 rfl ?_
  refine r_iconst dX12_isDoorHere_5 (by decide) ?_
  refine r_aload_n dX12_isDoorHere_6 rfl ?_
  refine r_getI dX12_isDoorHere_7 fX12_243 rfl tX12_8 ?_
  refine r_iconst dX12_isDoorHere_10 (by decide) ?_
  refine r_isub dX12_isDoorHere_11 ?_
  refine r_callVI (md' := mX12_numberHere) (as := [vI 0, vI (wr (M1 0 8 0 - 1))]) dX12_isDoorHere_12 lX12_189 iX12_numberHere rfl rfl rfl (Nat.le_of_ble_eq_true rfl) T (fun r_1 M2 T => ?_)
  refine r_if_ne (tgt := 20) dX12_isDoorHere_15 (by decide) (fun h_3 => ?_) (fun h_3 => ?_)
  · have T := T.1 h_3
    refine r_bipush dX12_isDoorHere_20 (by decide) (by decide) ?_
    refine r_aload_n dX12_isDoorHere_22 rfl ?_
    refine r_getI dX12_isDoorHere_23 fX12_145 rfl tX12_16 ?_
    refine r_imul dX12_isDoorHere_26 ?_
    refine r_istore_n dX12_isDoorHere_27 (by decide) rfl ?_
    refine r_aload_n dX12_isDoorHere_28 rfl ?_
    refine r_iconst dX12_isDoorHere_29 (by decide) ?_
    refine r_sipush dX12_isDoorHere_30 (by decide) (by decide) ?_
    refine r_callVI (md' := mX12_numberHere) (as := [vI 0, vI 1439]) dX12_isDoorHere_33 lX12_189 iX12_numberHere rfl rfl rfl (Nat.le_of_ble_eq_true rfl) T (fun r_2 M3 T => ?_)
    refine r_if_ne (tgt := 41) dX12_isDoorHere_36 (by decide) (fun h_2 => ?_) (fun h_2 => ?_)
    · have T := T.1 h_2
      refine r_aload_n dX12_isDoorHere_41 rfl ?_
      refine r_getI dX12_isDoorHere_42 fX12_145 rfl tX12_16 ?_
      refine r_istore_n dX12_isDoorHere_45 (by decide) rfl ?_
      refine r_aload_n dX12_isDoorHere_46 rfl ?_
      refine r_iload_n dX12_isDoorHere_47 rfl ?_
      refine r_sipush dX12_isDoorHere_48 (by decide) (by decide) ?_
      refine r_callVI (md' := mX12_numberHere) (as := [vI (M3 0 16 0), vI 1439]) dX12_isDoorHere_51 lX12_189 iX12_numberHere rfl rfl rfl (Nat.le_of_ble_eq_true rfl) T (fun r_3 M4 T => ?_)
      refine r_if_ne (tgt := 59) dX12_isDoorHere_54 (by decide) (fun h_1 => ?_) (fun h_1 => ?_)
      · have T := T.1 h_1
        refine r_aload_n dX12_isDoorHere_59 rfl ?_
        refine r_getA dX12_isDoorHere_60 fX12_32 rfl uX12_12 ?_
        refine r_iload_n dX12_isDoorHere_63 rfl ?_
        refine r_iconst dX12_isDoorHere_64 (by decide) ?_
        refine r_iadd dX12_isDoorHere_65 ?_
        refine r_iload_n dX12_isDoorHere_66 rfl ?_
        refine n_iast dX12_isDoorHere_67 rfl tX12_12 aX12_12 T.1 (fun M5 hM5 => ?_)
        have T := T.2 M5 hM5
        refine r_aload_n dX12_isDoorHere_68 rfl ?_
        refine r_getA dX12_isDoorHere_69 fX12_32 rfl uX12_12 ?_
        refine r_iload_n dX12_isDoorHere_72 rfl ?_
        refine r_iconst dX12_isDoorHere_73 (by decide) ?_
        refine r_iadd dX12_isDoorHere_74 ?_
        refine r_aload_n dX12_isDoorHere_75 rfl ?_
        refine r_getI dX12_isDoorHere_76 fX12_145 rfl tX12_16 ?_
        refine n_iast dX12_isDoorHere_79 rfl tX12_12 aX12_12 T.1 (fun M6 hM6 => ?_)
        have T := T.2 M6 hM6
        refine r_iconst dX12_isDoorHere_80 (by decide) ?_
        exact r_zreturn dX12_isDoorHere_81 rfl (by decide) ⟨_, rfl, T⟩
      · have T := T.2 h_1
        refine r_iconst dX12_isDoorHere_57 (by decide) ?_
        exact r_zreturn dX12_isDoorHere_58 rfl (by decide) ⟨_, rfl, T⟩
    · have T := T.2 h_2
      refine r_iconst dX12_isDoorHere_39 (by decide) ?_
      exact r_zreturn dX12_isDoorHere_40 rfl (by decide) ⟨_, rfl, T⟩
  · have T := T.2 h_3
    refine r_iconst dX12_isDoorHere_18 (by decide) ?_
    exact r_zreturn dX12_isDoorHere_19 rfl (by decide) ⟨_, rfl, T⟩
theorem eX12_isDoorHere {G : Gx} {n : Nat} {M : Mem} {Q : Int → Mem → Prop}   (h : ∀ K : Kx, CW G K mX12_isDoorHere n 0 [some (vO 0), none, none] [] M (qI Q)) : OkI G n mX12_isDoorHere [vO 0] M Q := Ok_of (by decide) (Nat.le_of_ble_eq_true rfl) rfl h
-- DownOnlyModel isHoistHere (I)Z
set_option maxRecDepth 20000 in
set_option maxHeartbeats 1000000 in
theorem bX12_isHoistHere_0 {G : Gx} {K : Kx} {n : Nat} {M : Mem} {Q : Int → Mem → Prop}  {x1 : Int}  (T : (M 0 10 0 ≤ 0 → OkV G n mX12_passWord [vO 0] M (fun M1 => OkI G n mX12_numberHere [vO 0, vI 1, vI 60] M1 (fun r_1 M2 => (¬ r_1 = 0 → OkI G n mX12_numberHere [vO 0, vI 1, vI 9] M2 (fun r_2 M3 => (¬ r_2 = 0 → ∀ M4 : Mem, M4 = mset M3 0 10 1 (M3 0 16 0) → OkI G n mX12_numberHere [vO 0, vI 1, vI 120] M4 (fun r_3 M5 => (¬ r_3 = 0 → ∀ M6 : Mem, M6 = mset M5 0 10 2 (M5 0 16 0) → ∀ M7 : Mem, M7 = mset M6 0 10 0 (M2 0 16 0) → Q 1 M7) ∧ (r_3 = 0 → Q 0 M5))) ∧ (r_2 = 0 → Q 0 M3))) ∧ (r_1 = 0 → Q 0 M2)))) ∧ (¬ (M 0 10 0 ≤ 0) → OkI G n mX12_fails [vO 0, vI 4, vI x1] M (fun r_4 M8 => (r_4 = 0 ∨ r_4 = 1) ∧ Q r_4 M8))) : CW G K mX12_isHoistHere (n + 1) 0 [some (vO 0), some (vI x1), none] [] M (qI Q) := by
  refine r_aload_n dX12_isHoistHere_0 rfl ?_
  refine r_getA dX12_isHoistHere_1 fX12_26 rfl uX12_10 ?_
  refine r_iconst dX12_isHoistHere_4 (by decide) ?_
  refine s_iald dX12_isHoistHere_5 rfl tX12_10 aX12_10 (by decide) ?_
  refine r_if_le (tgt := 16) dX12_isHoistHere_6 (by decide) (fun h_4 => ?_) (fun h_4 => ?_)
  · have T := T.1 h_4
    refine r_aload_n dX12_isHoistHere_16 rfl ?_
    refine r_callVV (md' := mX12_passWord) (as := []) dX12_isHoistHere_17 lX12_135 iX12_passWord rfl rfl rfl (Nat.le_of_ble_eq_true rfl) T (fun M1 T => ?_)
    refine r_aload_n dX12_isHoistHere_20 rfl ?_
    refine r_iconst dX12_isHoistHere_21 (by decide) ?_
    refine r_bipush dX12_isHoistHere_22 (by decide) (by decide) ?_
    refine r_callVI (md' := mX12_numberHere) (as := [vI 1, vI 60]) dX12_isHoistHere_24 lX12_189 iX12_numberHere rfl rfl rfl (Nat.le_of_ble_eq_true rfl) T (fun r_1 M2 T => ?_)
    refine r_if_ne (tgt := 32) dX12_isHoistHere_27 (by decide) (fun h_3 => ?_) (fun h_3 => ?_)
    · have T := T.1 h_3
      refine r_aload_n dX12_isHoistHere_32 rfl ?_
      refine r_getI dX12_isHoistHere_33 fX12_145 rfl tX12_16 ?_
      refine r_istore_n dX12_isHoistHere_36 (by decide) rfl ?_
      refine r_aload_n dX12_isHoistHere_37 rfl ?_
      refine r_iconst dX12_isHoistHere_38 (by decide) ?_
      refine r_bipush dX12_isHoistHere_39 (by decide) (by decide) ?_
      refine r_callVI (md' := mX12_numberHere) (as := [vI 1, vI 9]) dX12_isHoistHere_41 lX12_189 iX12_numberHere rfl rfl rfl (Nat.le_of_ble_eq_true rfl) T (fun r_2 M3 T => ?_)
      refine r_if_ne (tgt := 49) dX12_isHoistHere_44 (by decide) (fun h_2 => ?_) (fun h_2 => ?_)
      · have T := T.1 h_2
        refine r_aload_n dX12_isHoistHere_49 rfl ?_
        refine r_getA dX12_isHoistHere_50 fX12_26 rfl uX12_10 ?_
        refine r_iconst dX12_isHoistHere_53 (by decide) ?_
        refine r_aload_n dX12_isHoistHere_54 rfl ?_
        refine r_getI dX12_isHoistHere_55 fX12_145 rfl tX12_16 ?_
        refine n_iast dX12_isHoistHere_58 rfl tX12_10 aX12_10 (by decide) (fun M4 hM4 => ?_)
        have T := T M4 hM4
        refine r_aload_n dX12_isHoistHere_59 rfl ?_
        refine r_iconst dX12_isHoistHere_60 (by decide) ?_
        refine r_bipush dX12_isHoistHere_61 (by decide) (by decide) ?_
        refine r_callVI (md' := mX12_numberHere) (as := [vI 1, vI 120]) dX12_isHoistHere_63 lX12_189 iX12_numberHere rfl rfl rfl (Nat.le_of_ble_eq_true rfl) T (fun r_3 M5 T => ?_)
        refine r_if_ne (tgt := 71) dX12_isHoistHere_66 (by decide) (fun h_1 => ?_) (fun h_1 => ?_)
        · have T := T.1 h_1
          refine r_aload_n dX12_isHoistHere_71 rfl ?_
          refine r_getA dX12_isHoistHere_72 fX12_26 rfl uX12_10 ?_
          refine r_iconst dX12_isHoistHere_75 (by decide) ?_
          refine r_aload_n dX12_isHoistHere_76 rfl ?_
          refine r_getI dX12_isHoistHere_77 fX12_145 rfl tX12_16 ?_
          refine n_iast dX12_isHoistHere_80 rfl tX12_10 aX12_10 (by decide) (fun M6 hM6 => ?_)
          have T := T M6 hM6
          refine r_aload_n dX12_isHoistHere_81 rfl ?_
          refine r_getA dX12_isHoistHere_82 fX12_26 rfl uX12_10 ?_
          refine r_iconst dX12_isHoistHere_85 (by decide) ?_
          refine r_iload_n dX12_isHoistHere_86 rfl ?_
          refine n_iast dX12_isHoistHere_87 rfl tX12_10 aX12_10 (by decide) (fun M7 hM7 => ?_)
          have T := T M7 hM7
          refine r_iconst dX12_isHoistHere_88 (by decide) ?_
          exact r_zreturn dX12_isHoistHere_89 rfl (by decide) ⟨_, rfl, T⟩
        · have T := T.2 h_1
          refine r_iconst dX12_isHoistHere_69 (by decide) ?_
          exact r_zreturn dX12_isHoistHere_70 rfl (by decide) ⟨_, rfl, T⟩
      · have T := T.2 h_2
        refine r_iconst dX12_isHoistHere_47 (by decide) ?_
        exact r_zreturn dX12_isHoistHere_48 rfl (by decide) ⟨_, rfl, T⟩
    · have T := T.2 h_3
      refine r_iconst dX12_isHoistHere_30 (by decide) ?_
      exact r_zreturn dX12_isHoistHere_31 rfl (by decide) ⟨_, rfl, T⟩
  · have T := T.2 h_4
    refine r_aload_n dX12_isHoistHere_9 rfl ?_
    refine r_iconst dX12_isHoistHere_10 (by decide) ?_
    refine r_iload_n dX12_isHoistHere_11 rfl ?_
    refine r_callVI (md' := mX12_fails) (as := [vI 4, vI x1]) dX12_isHoistHere_12 lX12_141 iX12_fails rfl rfl rfl (Nat.le_of_ble_eq_true rfl) T (fun r_4 M8 T => ?_)
    exact r_zreturn dX12_isHoistHere_15 rfl T.1 ⟨_, rfl, T.2⟩
theorem eX12_isHoistHere {G : Gx} {n : Nat} {M : Mem} {Q : Int → Mem → Prop}  {x1 : Int} (h : ∀ K : Kx, CW G K mX12_isHoistHere n 0 [some (vO 0), some (vI x1), none] [] M (qI Q)) : OkI G n mX12_isHoistHere [vO 0, vI x1] M Q := Ok_of (by decide) (Nat.le_of_ble_eq_true rfl) rfl h
-- DownOnlyModel isPersonHere (I)Z
set_option maxRecDepth 20000 in
set_option maxHeartbeats 1000000 in
theorem bX12_isPersonHere_0 {G : Gx} {K : Kx} {n : Nat} {M : Mem} {Q : Int → Mem → Prop}  {x1 : Int}  (T : (¬ M 0 9 0 = 8 → OkV G n mX12_passWord [vO 0] M (fun M1 => OkI G n mX12_numberHere [vO 0, vI 0, vI (wr (M1 0 7 0 - 1))] M1 (fun r_1 M2 => (¬ r_1 = 0 → (0 ≤ M2 0 9 0 ∧ M2 0 9 0 < 8) ∧ (∀ M3 : Mem, M3 = mset M2 0 13 (M2 0 9 0).toNat (M2 0 16 0) → ∀ M4 : Mem, M4 = mset M3 0 9 0 (wr (M3 0 9 0 + 1)) → Q 1 M4)) ∧ (r_1 = 0 → Q 0 M2)))) ∧ (M 0 9 0 = 8 → OkI G n mX12_fails [vO 0, vI 4, vI x1] M (fun r_2 M5 => (r_2 = 0 ∨ r_2 = 1) ∧ Q r_2 M5))) : CW G K mX12_isPersonHere (n + 1) 0 [some (vO 0), some (vI x1)] [] M (qI Q) := by
  refine r_aload_n dX12_isPersonHere_0 rfl ?_
  refine r_getI dX12_isPersonHere_1 fX12_246 rfl tX12_9 ?_
  refine r_bipush dX12_isPersonHere_4 (by decide) (by decide) ?_
  refine r_icmp_ne (tgt := 16) dX12_isPersonHere_6 (by decide) (fun h_2 => ?_) (fun h_2 => ?_)
  · have T := T.1 h_2
    refine r_aload_n dX12_isPersonHere_16 rfl ?_
    refine r_callVV (md' := mX12_passWord) (as := []) dX12_isPersonHere_17 lX12_135 iX12_passWord rfl rfl rfl (Nat.le_of_ble_eq_true rfl) T (fun M1 T => ?_)
    refine r_aload_n dX12_isPersonHere_20 rfl ?_
    refine r_iconst dX12_isPersonHere_21 (by decide) ?_
    refine r_aload_n dX12_isPersonHere_22 rfl ?_
    refine r_getI dX12_isPersonHere_23 fX12_240 rfl tX12_7 ?_
    refine r_iconst dX12_isPersonHere_26 (by decide) ?_
    refine r_isub dX12_isPersonHere_27 ?_
    refine r_callVI (md' := mX12_numberHere) (as := [vI 0, vI (wr (M1 0 7 0 - 1))]) dX12_isPersonHere_28 lX12_189 iX12_numberHere rfl rfl rfl (Nat.le_of_ble_eq_true rfl) T (fun r_1 M2 T => ?_)
    refine r_if_ne (tgt := 36) dX12_isPersonHere_31 (by decide) (fun h_1 => ?_) (fun h_1 => ?_)
    · have T := T.1 h_1
      refine r_aload_n dX12_isPersonHere_36 rfl ?_
      refine r_getA dX12_isPersonHere_37 fX12_35 rfl uX12_13 ?_
      refine r_aload_n dX12_isPersonHere_40 rfl ?_
      refine r_getI dX12_isPersonHere_41 fX12_246 rfl tX12_9 ?_
      refine r_aload_n dX12_isPersonHere_44 rfl ?_
      refine r_getI dX12_isPersonHere_45 fX12_145 rfl tX12_16 ?_
      refine n_iast dX12_isPersonHere_48 rfl tX12_13 aX12_13 T.1 (fun M3 hM3 => ?_)
      have T := T.2 M3 hM3
      refine r_aload_n dX12_isPersonHere_49 rfl ?_
      refine r_dup dX12_isPersonHere_50 rfl ?_
      refine r_getI dX12_isPersonHere_51 fX12_246 rfl tX12_9 ?_
      refine r_iconst dX12_isPersonHere_54 (by decide) ?_
      refine r_iadd dX12_isPersonHere_55 ?_
      refine n_put dX12_isPersonHere_56 pX12_246 rfl tX12_9 (fun M4 hM4 => ?_)
      have T := T M4 hM4
      refine r_iconst dX12_isPersonHere_59 (by decide) ?_
      exact r_zreturn dX12_isPersonHere_60 rfl (by decide) ⟨_, rfl, T⟩
    · have T := T.2 h_1
      refine r_iconst dX12_isPersonHere_34 (by decide) ?_
      exact r_zreturn dX12_isPersonHere_35 rfl (by decide) ⟨_, rfl, T⟩
  · have T := T.2 h_2
    refine r_aload_n dX12_isPersonHere_9 rfl ?_
    refine r_iconst dX12_isPersonHere_10 (by decide) ?_
    refine r_iload_n dX12_isPersonHere_11 rfl ?_
    refine r_callVI (md' := mX12_fails) (as := [vI 4, vI x1]) dX12_isPersonHere_12 lX12_141 iX12_fails rfl rfl rfl (Nat.le_of_ble_eq_true rfl) T (fun r_2 M5 T => ?_)
    exact r_zreturn dX12_isPersonHere_15 rfl T.1 ⟨_, rfl, T.2⟩
theorem eX12_isPersonHere {G : Gx} {n : Nat} {M : Mem} {Q : Int → Mem → Prop}  {x1 : Int} (h : ∀ K : Kx, CW G K mX12_isPersonHere n 0 [some (vO 0), some (vI x1)] [] M (qI Q)) : OkI G n mX12_isPersonHere [vO 0, vI x1] M Q := Ok_of (by decide) (Nat.le_of_ble_eq_true rfl) rfl h
-- DownOnlyModel houseLineHere (I)Z
set_option maxRecDepth 20000 in
set_option maxHeartbeats 1000000 in
theorem bX12_houseLineHere_0 {G : Gx} {K : Kx} {n : Nat} {M : Mem} {Q : Int → Mem → Prop}  {x1 : Int}  (T : OkI G n mX12_isWord [vO 0, vL 1919905645] M (fun r_1 M1 => (r_1 = 0 → OkI G n mX12_isWord [vO 0, vL 112615810885748] M1 (fun r_2 M2 => (¬ r_2 = 0 → OkI G n mX12_isWord [vO 0, vL 31632345876490085] M2 (fun r_3 M3 => OkI G n mX12_isWayHere [vO 0, vI r_3, vI x1] M3 (fun r_4 M4 => (r_4 = 0 ∨ r_4 = 1) ∧ Q r_4 M4))) ∧ (r_2 = 0 → OkI G n mX12_isWord [vO 0, vL 31632345876490085] M2 (fun r_5 M5 => (r_5 = 0 → OkI G n mX12_isWord [vO 0, vL 1685024626] M5 (fun r_6 M6 => (r_6 = 0 → OkI G n mX12_isWord [vO 0, vL 448545780596] M6 (fun r_7 M7 => (r_7 = 0 → OkI G n mX12_isPersonHere [vO 0, vI x1] M7 (fun r_8 M8 => (r_8 = 0 ∨ r_8 = 1) ∧ Q r_8 M8)) ∧ (¬ (r_7 = 0) → OkI G n mX12_isHoistHere [vO 0, vI x1] M7 (fun r_9 M9 => (r_9 = 0 ∨ r_9 = 1) ∧ Q r_9 M9)))) ∧ (¬ (r_6 = 0) → OkI G n mX12_isDoorHere [vO 0] M6 (fun r_10 M10 => (r_10 = 0 ∨ r_10 = 1) ∧ Q r_10 M10)))) ∧ (¬ (r_5 = 0) → OkI G n mX12_isWord [vO 0, vL 31632345876490085] M5 (fun r_11 M11 => OkI G n mX12_isWayHere [vO 0, vI r_11, vI x1] M11 (fun r_12 M12 => (r_12 = 0 ∨ r_12 = 1) ∧ Q r_12 M12))))))) ∧ (¬ (r_1 = 0) → OkI G n mX12_isRoomHere [vO 0, vI x1] M1 (fun r_13 M13 => (r_13 = 0 ∨ r_13 = 1) ∧ Q r_13 M13)))) : CW G K mX12_houseLineHere (n + 1) 0 [some (vO 0), some (vI x1)] [] M (qI Q) := by
  refine r_aload_n dX12_houseLineHere_0 rfl ?_
  refine r_ldc2 (z := 1919905645) dX12_houseLineHere_1 kX12_156 (by decide) (by decide) ?_
  refine r_callVI (md' := mX12_isWord) (as := [vL 1919905645]) dX12_houseLineHere_4 lX12_131 iX12_isWord rfl rfl rfl (Nat.le_of_ble_eq_true rfl) T (fun r_1 M1 T => ?_)
  refine r_if_eq (tgt := 16) dX12_houseLineHere_7 (by decide) (fun h_5 => ?_) (fun h_5 => ?_)
  · have T := T.1 h_5
    refine r_aload_n dX12_houseLineHere_16 rfl ?_
    refine r_ldc2 (z := 112615810885748) dX12_houseLineHere_17 kX12_252 (by decide) (by decide) ?_
    refine r_callVI (md' := mX12_isWord) (as := [vL 112615810885748]) dX12_houseLineHere_20 lX12_131 iX12_isWord rfl rfl rfl (Nat.le_of_ble_eq_true rfl) T (fun r_2 M2 T => ?_)
    refine r_if_ne (tgt := 36) dX12_houseLineHere_23 (by decide) (fun h_4 => ?_) (fun h_4 => ?_)
    · have T := T.1 h_4
      refine r_aload_n dX12_houseLineHere_36 rfl ?_
      refine r_aload_n dX12_houseLineHere_37 rfl ?_
      refine r_ldc2 (z := 31632345876490085) dX12_houseLineHere_38 kX12_254 (by decide) (by decide) ?_
      refine r_callVI (md' := mX12_isWord) (as := [vL 31632345876490085]) dX12_houseLineHere_41 lX12_131 iX12_isWord rfl rfl rfl (Nat.le_of_ble_eq_true rfl) T (fun r_3 M3 T => ?_)
      refine r_iload_n dX12_houseLineHere_44 rfl ?_
      refine r_callVI (md' := mX12_isWayHere) (as := [vI r_3, vI x1]) dX12_houseLineHere_45 lX12_256 iX12_isWayHere rfl rfl rfl (Nat.le_of_ble_eq_true rfl) T (fun r_4 M4 T => ?_)
      exact r_zreturn dX12_houseLineHere_48 rfl T.1 ⟨_, rfl, T.2⟩
    · have T := T.2 h_4
      refine r_aload_n dX12_houseLineHere_26 rfl ?_
      refine r_ldc2 (z := 31632345876490085) dX12_houseLineHere_27 kX12_254 (by decide) (by decide) ?_
      refine r_callVI (md' := mX12_isWord) (as := [vL 31632345876490085]) dX12_houseLineHere_30 lX12_131 iX12_isWord rfl rfl rfl (Nat.le_of_ble_eq_true rfl) T (fun r_5 M5 T => ?_)
      refine r_if_eq (tgt := 49) dX12_houseLineHere_33 (by decide) (fun h_3 => ?_) (fun h_3 => ?_)
      · have T := T.1 h_3
        refine r_aload_n dX12_houseLineHere_49 rfl ?_
        refine r_ldc2 (z := 1685024626) dX12_houseLineHere_50 kX12_260 (by decide) (by decide) ?_
        refine r_callVI (md' := mX12_isWord) (as := [vL 1685024626]) dX12_houseLineHere_53 lX12_131 iX12_isWord rfl rfl rfl (Nat.le_of_ble_eq_true rfl) T (fun r_6 M6 T => ?_)
        refine r_if_eq (tgt := 66) dX12_houseLineHere_56 (by decide) (fun h_2 => ?_) (fun h_2 => ?_)
        · have T := T.1 h_2
          refine r_aload_n dX12_houseLineHere_66 rfl ?_
          refine r_ldc2 (z := 448545780596) dX12_houseLineHere_67 kX12_265 (by decide) (by decide) ?_
          refine r_callVI (md' := mX12_isWord) (as := [vL 448545780596]) dX12_houseLineHere_70 lX12_131 iX12_isWord rfl rfl rfl (Nat.le_of_ble_eq_true rfl) T (fun r_7 M7 T => ?_)
          refine r_if_eq (tgt := 84) dX12_houseLineHere_73 (by decide) (fun h_1 => ?_) (fun h_1 => ?_)
          · have T := T.1 h_1
            refine r_aload_n dX12_houseLineHere_84 rfl ?_
            refine r_iload_n dX12_houseLineHere_85 rfl ?_
            refine r_callVI (md' := mX12_isPersonHere) (as := [vI x1]) dX12_houseLineHere_86 lX12_270 iX12_isPersonHere rfl rfl rfl (Nat.le_of_ble_eq_true rfl) T (fun r_8 M8 T => ?_)
            exact r_zreturn dX12_houseLineHere_89 rfl T.1 ⟨_, rfl, T.2⟩
          · have T := T.2 h_1
            refine r_aload_n dX12_houseLineHere_76 rfl ?_
            refine r_iload_n dX12_houseLineHere_77 rfl ?_
            refine r_callVI (md' := mX12_isHoistHere) (as := [vI x1]) dX12_houseLineHere_78 lX12_267 iX12_isHoistHere rfl rfl rfl (Nat.le_of_ble_eq_true rfl) T (fun r_9 M9 T => ?_)
            refine r_goto (tgt := 89) dX12_houseLineHere_81 (by decide) ?_
            exact r_zreturn dX12_houseLineHere_89 rfl T.1 ⟨_, rfl, T.2⟩
        · have T := T.2 h_2
          refine r_aload_n dX12_houseLineHere_59 rfl ?_
          refine r_callVI (md' := mX12_isDoorHere) (as := []) dX12_houseLineHere_60 lX12_262 iX12_isDoorHere rfl rfl rfl (Nat.le_of_ble_eq_true rfl) T (fun r_10 M10 T => ?_)
          refine r_goto (tgt := 89) dX12_houseLineHere_63 (by decide) ?_
          exact r_zreturn dX12_houseLineHere_89 rfl T.1 ⟨_, rfl, T.2⟩
      · have T := T.2 h_3
        refine r_aload_n dX12_houseLineHere_36 rfl ?_
        refine r_aload_n dX12_houseLineHere_37 rfl ?_
        refine r_ldc2 (z := 31632345876490085) dX12_houseLineHere_38 kX12_254 (by decide) (by decide) ?_
        refine r_callVI (md' := mX12_isWord) (as := [vL 31632345876490085]) dX12_houseLineHere_41 lX12_131 iX12_isWord rfl rfl rfl (Nat.le_of_ble_eq_true rfl) T (fun r_11 M11 T => ?_)
        refine r_iload_n dX12_houseLineHere_44 rfl ?_
        refine r_callVI (md' := mX12_isWayHere) (as := [vI r_11, vI x1]) dX12_houseLineHere_45 lX12_256 iX12_isWayHere rfl rfl rfl (Nat.le_of_ble_eq_true rfl) T (fun r_12 M12 T => ?_)
        exact r_zreturn dX12_houseLineHere_48 rfl T.1 ⟨_, rfl, T.2⟩
  · have T := T.2 h_5
    refine r_aload_n dX12_houseLineHere_10 rfl ?_
    refine r_iload_n dX12_houseLineHere_11 rfl ?_
    refine r_callVI (md' := mX12_isRoomHere) (as := [vI x1]) dX12_houseLineHere_12 lX12_249 iX12_isRoomHere rfl rfl rfl (Nat.le_of_ble_eq_true rfl) T (fun r_13 M13 T => ?_)
    exact r_zreturn dX12_houseLineHere_15 rfl T.1 ⟨_, rfl, T.2⟩
theorem eX12_houseLineHere {G : Gx} {n : Nat} {M : Mem} {Q : Int → Mem → Prop}  {x1 : Int} (h : ∀ K : Kx, CW G K mX12_houseLineHere n 0 [some (vO 0), some (vI x1)] [] M (qI Q)) : OkI G n mX12_houseLineHere [vO 0, vI x1] M Q := Ok_of (by decide) (Nat.le_of_ble_eq_true rfl) rfl h
