-- DownOnly$Reach goAlong (LDownOnly$House;III)Z
set_option maxRecDepth 20000 in
set_option maxHeartbeats 1000000 in
theorem bX5_goAlong_0 {G : Gx} {K : Kx} {n : Nat} {M : Mem} {Q : Int → Mem → Prop} {o : Nat} {o1 : Nat} {x2 : Int} {x3 : Int} {x4 : Int} (h0 : oc o = 5) (h1 : oc o1 = 1) (T : OkI G n mX5_get [vO o, vI x3, vI x4] M (fun r_1 M1 => (r_1 ≤ 1439 → OkI G n mX1_leadsTo [vO o1, vI x2, vI x3] M1 (fun r_2 M2 => (¬ r_2 = (-1) → OkI G n mX1_openFrom [vO o1, vI x2, vI r_1] M2 (fun r_3 M3 => CW G K mX5_goAlong (n + 1) 44 [some (vO o), some (vO o1), some (vI x2), none, some (vI x4), none, some (vI r_2), none] [vI r_3] M3 (qI Q))) ∧ (r_2 = (-1) → CW G K mX5_goAlong (n + 1) 44 [some (vO o), some (vO o1), some (vI x2), none, some (vI x4), none, some (vI r_2), none] [vI (-1)] M2 (qI Q)))) ∧ (¬ (r_1 ≤ 1439) → Q 0 M1))) : CW G K mX5_goAlong (n + 1) 0 [some (vO o), some (vO o1), some (vI x2), some (vI x3), some (vI x4), none, none, none] [] M (qI Q) := by
  refine r_aload_n dX5_goAlong_0 rfl ?_
  refine r_iload_n dX5_goAlong_1 rfl ?_
  refine r_iload dX5_goAlong_2 rfl ?_
  refine r_callVI (md' := mX5_get) (as := [vI x3, vI x4]) dX5_goAlong_4 lX5_33 iX5_get h0 rfl rfl (Nat.le_of_ble_eq_true rfl) T (fun r_1 M1 T => ?_)
  refine r_istore dX5_goAlong_7 (by decide) rfl ?_
  refine r_iload dX5_goAlong_9 rfl ?_
  refine r_sipush dX5_goAlong_11 (by decide) (by decide) ?_
  refine r_icmp_le (tgt := 19) dX5_goAlong_14 (by decide) (fun h_2 => ?_) (fun h_2 => ?_)
  · have T := T.1 h_2
    refine r_aload_n dX5_goAlong_19 rfl ?_
    refine r_iload_n dX5_goAlong_20 rfl ?_
    refine r_iload_n dX5_goAlong_21 rfl ?_
    refine r_callVI (md' := mX1_leadsTo) (as := [vI x2, vI x3]) dX5_goAlong_22 lX5_62 iX1_leadsTo h1 rfl rfl (Nat.le_of_ble_eq_true rfl) T (fun r_2 M2 T => ?_)
    refine r_istore dX5_goAlong_25 (by decide) rfl ?_
    refine r_iload dX5_goAlong_27 rfl ?_
    refine r_iconst dX5_goAlong_29 (by decide) ?_
    refine r_icmp_ne (tgt := 37) dX5_goAlong_30 (by decide) (fun h_1 => ?_) (fun h_1 => ?_)
    · have T := T.1 h_1
      refine r_aload_n dX5_goAlong_37 rfl ?_
      refine r_iload_n dX5_goAlong_38 rfl ?_
      refine r_iload dX5_goAlong_39 rfl ?_
      refine r_callVI (md' := mX1_openFrom) (as := [vI x2, vI r_1]) dX5_goAlong_41 lX5_65 iX1_openFrom h1 rfl rfl (Nat.le_of_ble_eq_true rfl) T (fun r_3 M3 T => ?_)
      exact CW_msk [true, true, true, false, true, false, true, false] rfl T
    · have T := T.2 h_1
      refine r_iconst dX5_goAlong_33 (by decide) ?_
      refine r_goto (tgt := 44) dX5_goAlong_34 (by decide) ?_
      exact CW_msk [true, true, true, false, true, false, true, false] rfl T
  · have T := T.2 h_2
    refine r_iconst dX5_goAlong_17 (by decide) ?_
    exact r_zreturn dX5_goAlong_18 rfl (by decide) ⟨_, rfl, T⟩
set_option maxRecDepth 20000 in
set_option maxHeartbeats 1000000 in
theorem bX5_goAlong_44 {G : Gx} {K : Kx} {n : Nat} {M : Mem} {Q : Int → Mem → Prop} {o : Nat} {o1 : Nat} {x2 : Int} {x4 : Int} {x6 : Int} {z0 : Int} (h0 : oc o = 5) (h1 : oc o1 = 1) (T : (z0 = (-1) → Q 0 M) ∧ (¬ (z0 = (-1)) → (0 ≤ x2 ∧ x2 < 24) ∧ (OkI G n mX5_put [vO o, vI x6, vI x4, vI (wr (z0 + (M o1 10 x2.toNat)))] M (fun r_1 M1 => (r_1 = 0 → Q 0 M1) ∧ (¬ (r_1 = 0) → Q 1 M1))))) : CW G K mX5_goAlong (n + 1) 44 [some (vO o), some (vO o1), some (vI x2), none, some (vI x4), none, some (vI x6), none] [vI z0] M (qI Q) := by
  refine r_istore dX5_goAlong_44 (by decide) rfl ?_
  refine r_iload dX5_goAlong_46 rfl ?_
  refine r_iconst dX5_goAlong_48 (by decide) ?_
  refine r_icmp_eq (tgt := 76) dX5_goAlong_49 (by decide) (fun h_2 => ?_) (fun h_2 => ?_)
  · have T := T.1 h_2
    refine r_iconst dX5_goAlong_76 (by decide) ?_
    exact r_zreturn dX5_goAlong_77 rfl (by decide) ⟨_, rfl, T⟩
  · have T := T.2 h_2
    refine r_aload_n dX5_goAlong_52 rfl ?_
    refine r_iload dX5_goAlong_53 rfl ?_
    refine r_iload dX5_goAlong_55 rfl ?_
    refine r_iload dX5_goAlong_57 rfl ?_
    refine r_aload_n dX5_goAlong_59 rfl ?_
    refine r_getA dX5_goAlong_60 fX5_68 h1 uX1_10 ?_
    refine r_iload_n dX5_goAlong_63 rfl ?_
    refine s_iald dX5_goAlong_64 h1 tX1_10 aX1_10 T.1 ?_
    have T := T.2
    refine r_iadd dX5_goAlong_65 ?_
    refine r_callVI (md' := mX5_put) (as := [vI x6, vI x4, vI (wr (z0 + (M o1 10 x2.toNat)))]) dX5_goAlong_66 lX5_25 iX5_put h0 rfl rfl (Nat.le_of_ble_eq_true rfl) T (fun r_1 M1 T => ?_)
    refine r_if_eq (tgt := 76) dX5_goAlong_69 (by decide) (fun h_1 => ?_) (fun h_1 => ?_)
    · have T := T.1 h_1
      refine r_iconst dX5_goAlong_76 (by decide) ?_
      exact r_zreturn dX5_goAlong_77 rfl (by decide) ⟨_, rfl, T⟩
    · have T := T.2 h_1
      refine r_iconst dX5_goAlong_72 (by decide) ?_
      refine r_goto (tgt := 77) dX5_goAlong_73 (by decide) ?_
      exact r_zreturn dX5_goAlong_77 rfl (by decide) ⟨_, rfl, T⟩
theorem eX5_goAlong {G : Gx} {n : Nat} {M : Mem} {Q : Int → Mem → Prop} {o : Nat} {o1 : Nat} {x2 : Int} {x3 : Int} {x4 : Int} (h : ∀ K : Kx, CW G K mX5_goAlong n 0 [some (vO o), some (vO o1), some (vI x2), some (vI x3), some (vI x4), none, none, none] [] M (qI Q)) : OkI G n mX5_goAlong [vO o, vO o1, vI x2, vI x3, vI x4] M Q := Ok_of (by decide) (Nat.le_of_ble_eq_true rfl) rfl h
-- DownOnly$Reach goUp (LDownOnly$House;)Z
set_option maxRecDepth 20000 in
set_option maxHeartbeats 1000000 in
theorem bX5_goUp_0 {G : Gx} {K : Kx} {n : Nat} {M : Mem} {Q : Int → Mem → Prop} {o : Nat} {o1 : Nat}   (T : CW G K mX5_goUp (n + 1) 4 [some (vO o), some (vO o1), some (vI 0), some (vI 0), none] [] M (qI Q)) : CW G K mX5_goUp (n + 1) 0 [some (vO o), some (vO o1), none, none, none] [] M (qI Q) := by
  refine r_iconst dX5_goUp_0 (by decide) ?_
  refine r_istore_n dX5_goUp_1 (by decide) rfl ?_
  refine r_iconst dX5_goUp_2 (by decide) ?_
  refine r_istore_n dX5_goUp_3 (by decide) rfl ?_
  exact T
set_option maxRecDepth 20000 in
set_option maxHeartbeats 1000000 in
theorem bX5_goUp_4 {G : Gx} {K : Kx} {n : Nat} {M : Mem} {Q : Int → Mem → Prop} {o : Nat} {o1 : Nat} {x2 : Int} {x3 : Int} (h0 : oc o1 = 1) (h1 : oc o = 5) (T : (M o1 0 0 ≤ x3 → (x2 = 0 ∨ x2 = 1) ∧ Q x2 M) ∧ (¬ (M o1 0 0 ≤ x3) → OkI G n mX5_get [vO o, vI x3, vI 0] M (fun r_1 M1 => OkI G n mX1_hoistLeaves [vO o1, vI r_1] M1 (fun r_2 M2 => (r_2 = (-1) → CW G K mX5_goUp (n + 1) 4 [some (vO o), some (vO o1), some (vI x2), some (vI (wr (x3 + 1))), none] [] M2 (qI Q)) ∧ (¬ (r_2 = (-1)) → OkI G n mX5_put [vO o, vI (M2 o1 3 0), vI 1, vI (wr (r_2 + (M2 o1 4 0)))] M2 (fun r_3 M3 => CW G K mX5_goUp (n + 1) 4 [some (vO o), some (vO o1), some (vI (bOr x2 r_3)), some (vI (wr (x3 + 1))), none] [] M3 (qI Q))))))) : CW G K mX5_goUp (n + 1) 4 [some (vO o), some (vO o1), some (vI x2), some (vI x3), none] [] M (qI Q) := by
  refine r_iload_n dX5_goUp_4 rfl ?_
  refine r_aload_n dX5_goUp_5 rfl ?_
  refine r_getI dX5_goUp_6 fX5_71 h0 tX1_0 ?_
  refine r_icmp_ge (tgt := 55) dX5_goUp_9 (by decide) (fun h_2 => ?_) (fun h_2 => ?_)
  · have T := T.1 h_2
    refine r_iload_n dX5_goUp_55 rfl ?_
    exact r_zreturn dX5_goUp_56 rfl T.1 ⟨_, rfl, T.2⟩
  · have T := T.2 h_2
    refine r_aload_n dX5_goUp_12 rfl ?_
    refine r_aload_n dX5_goUp_13 rfl ?_
    refine r_iload_n dX5_goUp_14 rfl ?_
    refine r_iconst dX5_goUp_15 (by decide) ?_
    refine r_callVI (md' := mX5_get) (as := [vI x3, vI 0]) dX5_goUp_16 lX5_33 iX5_get h1 rfl rfl (Nat.le_of_ble_eq_true rfl) T (fun r_1 M1 T => ?_)
    refine r_callVI (md' := mX1_hoistLeaves) (as := [vI r_1]) dX5_goUp_19 lX5_74 iX1_hoistLeaves h0 rfl rfl (Nat.le_of_ble_eq_true rfl) T (fun r_2 M2 T => ?_)
    refine r_istore dX5_goUp_22 (by decide) rfl ?_
    refine r_iload dX5_goUp_24 rfl ?_
    refine r_iconst dX5_goUp_26 (by decide) ?_
    refine r_icmp_eq (tgt := 49) dX5_goUp_27 (by decide) (fun h_1 => ?_) (fun h_1 => ?_)
    · have T := T.1 h_1
      refine r_iinc dX5_goUp_49 rfl (by decide) rfl ?_
      refine r_goto (tgt := 4) dX5_goUp_52 (by decide) ?_
      exact CW_msk [true, true, true, true, false] rfl T
    · have T := T.2 h_1
      refine r_iload_n dX5_goUp_30 rfl ?_
      refine r_aload_n dX5_goUp_31 rfl ?_
      refine r_aload_n dX5_goUp_32 rfl ?_
      refine r_getI dX5_goUp_33 fX5_78 h0 tX1_3 ?_
      refine r_iconst dX5_goUp_36 (by decide) ?_
      refine r_iload dX5_goUp_37 rfl ?_
      refine r_aload_n dX5_goUp_39 rfl ?_
      refine r_getI dX5_goUp_40 fX5_81 h0 tX1_4 ?_
      refine r_iadd dX5_goUp_43 ?_
      refine r_callVI (md' := mX5_put) (as := [vI (M2 o1 3 0), vI 1, vI (wr (r_2 + (M2 o1 4 0)))]) dX5_goUp_44 lX5_25 iX5_put h1 rfl rfl (Nat.le_of_ble_eq_true rfl) T (fun r_3 M3 T => ?_)
      refine r_ior dX5_goUp_47 ?_
      refine r_istore_n dX5_goUp_48 (by decide) rfl ?_
      refine r_iinc dX5_goUp_49 rfl (by decide) rfl ?_
      refine r_goto (tgt := 4) dX5_goUp_52 (by decide) ?_
      exact CW_msk [true, true, true, true, false] rfl T
theorem eX5_goUp {G : Gx} {n : Nat} {M : Mem} {Q : Int → Mem → Prop} {o : Nat} {o1 : Nat}  (h : ∀ K : Kx, CW G K mX5_goUp n 0 [some (vO o), some (vO o1), none, none, none] [] M (qI Q)) : OkI G n mX5_goUp [vO o, vO o1] M Q := Ok_of (by decide) (Nat.le_of_ble_eq_true rfl) rfl h
-- DownOnly$Walk begin (LDownOnly$House;LDownOnly$Lists;I)V
set_option maxRecDepth 20000 in
set_option maxHeartbeats 1000000 in
theorem bX10_begin_0 {G : Gx} {K : Kx} {n : Nat} {M : Mem} {Q : Mem → Prop} {o1 : Nat} {o2 : Nat} {x3 : Int} (h0 : oc o2 = 3) (T : OkV G n mJ7_fill_53178 [vA 11 0, vI (-1)] M (fun M1 => (x3 < 0 → ∀ M2 : Mem, M2 = mset M1 11 1 0 (M1 11 2 0) → Q M2) ∧ (¬ (x3 < 0) → (M1 o2 2 0 ≤ x3 → ∀ M3 : Mem, M3 = mset M1 11 1 0 (M1 11 2 0) → Q M3) ∧ (¬ (M1 o2 2 0 ≤ x3) → (x3 < 12 → (0 ≤ x3 ∧ x3 < 12) ∧ (∀ M4 : Mem, M4 = mset M1 11 2 0 (M1 o2 9 x3.toNat) → (0 ≤ x3 ∧ x3 < 12) ∧ (∀ M5 : Mem, M5 = mset M4 11 3 0 (M4 o2 10 x3.toNat) → (0 ≤ x3 ∧ x3 < 12) ∧ (∀ M6 : Mem, M6 = mset M5 11 1 0 (M5 o2 11 x3.toNat) → (0 ≤ x3 ∧ x3 < 12) ∧ (OkI G n mX10_put [vO 11, vI (M6 11 1 0), vI (M6 o2 12 x3.toNat)] M6 (fun r_1 M7 => CW G K mX10_begin (n + 1) 86 [some (vO 11), some (vO o1), none, none, some (vI 1), some (vI 0), none] [] M7 (qV Q))))))) ∧ (¬ (x3 < 12) → ∀ M8 : Mem, M8 = mset M1 11 1 0 (M1 11 2 0) → Q M8))))) : CW G K mX10_begin (n + 1) 0 [some (vO 11), some (vO o1), some (vO o2), some (vI x3), none, none, none] [] M (qV Q) := by
  refine r_aload_n dX10_begin_0 rfl ?_
  refine r_getA dX10_begin_1 fX10_9 rfl uX10_0 ?_
  refine r_iconst dX10_begin_4 (by decide) ?_
  refine r_callSV (md' := mJ7_fill_53178) (as := [vA 11 0, vI (-1)]) dX10_begin_5 lX10_15 iJ7_fill_53178 rfl rfl (Nat.le_of_ble_eq_true rfl) T (fun M1 T => ?_)
  refine r_iload_n dX10_begin_8 rfl ?_
  refine r_if_lt (tgt := 26) dX10_begin_9 (by decide) (fun h_3 => ?_) (fun h_3 => ?_)
  · have T := T.1 h_3
    refine r_aload_n dX10_begin_26 rfl ?_
    refine r_aload_n dX10_begin_27 rfl ?_
    refine r_getI dX10_begin_28 fX10_27 rfl tX10_2 ?_
    refine n_put dX10_begin_31 pX10_30 rfl tX10_1 (fun M2 hM2 => ?_)
    have T := T M2 hM2
    exact r_return dX10_begin_34 rfl ⟨rfl, T⟩
  · have T := T.2 h_3
    refine r_iload_n dX10_begin_12 rfl ?_
    refine r_aload_n dX10_begin_13 rfl ?_
    refine r_getI dX10_begin_14 fX10_21 h0 tX3_2 ?_
    refine r_icmp_ge (tgt := 26) dX10_begin_17 (by decide) (fun h_2 => ?_) (fun h_2 => ?_)
    · have T := T.1 h_2
      refine r_aload_n dX10_begin_26 rfl ?_
      refine r_aload_n dX10_begin_27 rfl ?_
      refine r_getI dX10_begin_28 fX10_27 rfl tX10_2 ?_
      refine n_put dX10_begin_31 pX10_30 rfl tX10_1 (fun M3 hM3 => ?_)
      have T := T M3 hM3
      exact r_return dX10_begin_34 rfl ⟨rfl, T⟩
    · have T := T.2 h_2
      refine r_iload_n dX10_begin_20 rfl ?_
      refine r_bipush dX10_begin_21 (by decide) (by decide) ?_
      refine r_icmp_lt (tgt := 35) dX10_begin_23 (by decide) (fun h_1 => ?_) (fun h_1 => ?_)
      · have T := T.1 h_1
        refine r_aload_n dX10_begin_35 rfl ?_
        refine r_aload_n dX10_begin_36 rfl ?_
        refine r_getA dX10_begin_37 fX10_33 h0 uX3_9 ?_
        refine r_iload_n dX10_begin_40 rfl ?_
        refine s_iald dX10_begin_41 h0 tX3_9 aX3_9 T.1 ?_
        have T := T.2
        refine n_put dX10_begin_42 pX10_27 rfl tX10_2 (fun M4 hM4 => ?_)
        have T := T M4 hM4
        refine r_aload_n dX10_begin_45 rfl ?_
        refine r_aload_n dX10_begin_46 rfl ?_
        refine r_getA dX10_begin_47 fX10_36 h0 uX3_10 ?_
        refine r_iload_n dX10_begin_50 rfl ?_
        refine s_iald dX10_begin_51 h0 tX3_10 aX3_10 T.1 ?_
        have T := T.2
        refine n_put dX10_begin_52 pX10_39 rfl tX10_3 (fun M5 hM5 => ?_)
        have T := T M5 hM5
        refine r_aload_n dX10_begin_55 rfl ?_
        refine r_aload_n dX10_begin_56 rfl ?_
        refine r_getA dX10_begin_57 fX10_42 h0 uX3_11 ?_
        refine r_iload_n dX10_begin_60 rfl ?_
        refine s_iald dX10_begin_61 h0 tX3_11 aX3_11 T.1 ?_
        have T := T.2
        refine n_put dX10_begin_62 pX10_30 rfl tX10_1 (fun M6 hM6 => ?_)
        have T := T M6 hM6
        refine r_aload_n dX10_begin_65 rfl ?_
        refine r_aload_n dX10_begin_66 rfl ?_
        refine r_getI dX10_begin_67 fX10_30 rfl tX10_1 ?_
        refine r_aload_n dX10_begin_70 rfl ?_
        refine r_getA dX10_begin_71 fX10_45 h0 uX3_12 ?_
        refine r_iload_n dX10_begin_74 rfl ?_
        refine s_iald dX10_begin_75 h0 tX3_12 aX3_12 T.1 ?_
        have T := T.2
        refine r_callVI (md' := mX10_put) (as := [vI (M6 11 1 0), vI (M6 o2 12 x3.toNat)]) dX10_begin_76 lX10_48 iX10_put rfl rfl rfl (Nat.le_of_ble_eq_true rfl) T (fun r_1 M7 T => ?_)
        refine r_pop dX10_begin_79 rfl ?_
        refine r_iconst dX10_begin_80 (by decide) ?_
        refine r_istore dX10_begin_81 (by decide) rfl ?_
        refine r_iconst dX10_begin_83 (by decide) ?_
        refine r_istore dX10_begin_84 (by decide) rfl ?_
        exact CW_msk [true, true, false, false, true, true, false] rfl T
      · have T := T.2 h_1
        refine r_aload_n dX10_begin_26 rfl ?_
        refine r_aload_n dX10_begin_27 rfl ?_
        refine r_getI dX10_begin_28 fX10_27 rfl tX10_2 ?_
        refine n_put dX10_begin_31 pX10_30 rfl tX10_1 (fun M8 hM8 => ?_)
        have T := T M8 hM8
        exact r_return dX10_begin_34 rfl ⟨rfl, T⟩
set_option maxRecDepth 20000 in
set_option maxHeartbeats 1000000 in
theorem bX10_begin_86 {G : Gx} {K : Kx} {n : Nat} {M : Mem} {Q : Mem → Prop} {o1 : Nat} {x4 : Int} {x5 : Int}  (T : (16 < x5 → Q M) ∧ (¬ (16 < x5) → (x4 = 0 → Q M) ∧ (¬ (x4 = 0) → CW G K mX10_begin (n + 1) 104 [some (vO 11), some (vO o1), none, none, some (vI 0), some (vI x5), some (vI 0)] [] M (qV Q)))) : CW G K mX10_begin (n + 1) 86 [some (vO 11), some (vO o1), none, none, some (vI x4), some (vI x5), none] [] M (qV Q) := by
  refine r_iload dX10_begin_86 rfl ?_
  refine r_bipush dX10_begin_88 (by decide) (by decide) ?_
  refine r_icmp_gt (tgt := 170) dX10_begin_90 (by decide) (fun h_2 => ?_) (fun h_2 => ?_)
  · have T := T.1 h_2
    exact r_return dX10_begin_170 rfl ⟨rfl, T⟩
  · have T := T.2 h_2
    refine r_iload dX10_begin_93 rfl ?_
    refine r_if_eq (tgt := 170) dX10_begin_95 (by decide) (fun h_1 => ?_) (fun h_1 => ?_)
    · have T := T.1 h_1
      exact r_return dX10_begin_170 rfl ⟨rfl, T⟩
    · have T := T.2 h_1
      refine r_iconst dX10_begin_98 (by decide) ?_
      refine r_istore dX10_begin_99 (by decide) rfl ?_
      refine r_iconst dX10_begin_101 (by decide) ?_
      refine r_istore dX10_begin_102 (by decide) rfl ?_
      exact T
set_option maxRecDepth 20000 in
set_option maxHeartbeats 1000000 in
theorem bX10_begin_104 {G : Gx} {K : Kx} {n : Nat} {M : Mem} {Q : Mem → Prop} {o1 : Nat} {x4 : Int} {x5 : Int} {x6 : Int} (h1 : oc o1 = 1) (T : (M o1 1 0 ≤ x6 → CW G K mX10_begin (n + 1) 86 [some (vO 11), some (vO o1), none, none, some (vI x4), some (vI (wr (x5 + 1))), none] [] M (qV Q)) ∧ (¬ (M o1 1 0 ≤ x6) → (24 ≤ x6 → CW G K mX10_begin (n + 1) 86 [some (vO 11), some (vO o1), none, none, some (vI x4), some (vI (wr (x5 + 1))), none] [] M (qV Q)) ∧ (¬ (24 ≤ x6) → (0 ≤ x6 ∧ x6 < 24) ∧ (OkI G n mX10_goBack [vO 11, vO o1, vI x6, vI (M o1 8 x6.toNat)] M (fun r_1 M1 => (0 ≤ x6 ∧ x6 < 24) ∧ (OkI G n mX10_goBack [vO 11, vO o1, vI x6, vI (M1 o1 9 x6.toNat)] M1 (fun r_2 M2 => CW G K mX10_begin (n + 1) 104 [some (vO 11), some (vO o1), none, none, some (vI (bOr (bOr x4 r_1) r_2)), some (vI x5), some (vI (wr (x6 + 1)))] [] M2 (qV Q)))))))) : CW G K mX10_begin (n + 1) 104 [some (vO 11), some (vO o1), none, none, some (vI x4), some (vI x5), some (vI x6)] [] M (qV Q) := by
  refine r_iload dX10_begin_104 rfl ?_
  refine r_aload_n dX10_begin_106 rfl ?_
  refine r_getI dX10_begin_107 fX10_52 h1 tX1_1 ?_
  refine r_icmp_ge (tgt := 164) dX10_begin_110 (by decide) (fun h_2 => ?_) (fun h_2 => ?_)
  · have T := T.1 h_2
    refine r_iinc dX10_begin_164 rfl (by decide) rfl ?_
    refine r_goto (tgt := 86) dX10_begin_167 (by decide) ?_
    exact CW_msk [true, true, false, false, true, true, false] rfl T
  · have T := T.2 h_2
    refine r_iload dX10_begin_113 rfl ?_
    refine r_bipush dX10_begin_115 (by decide) (by decide) ?_
    refine r_icmp_ge (tgt := 164) dX10_begin_117 (by decide) (fun h_1 => ?_) (fun h_1 => ?_)
    · have T := T.1 h_1
      refine r_iinc dX10_begin_164 rfl (by decide) rfl ?_
      refine r_goto (tgt := 86) dX10_begin_167 (by decide) ?_
      exact CW_msk [true, true, false, false, true, true, false] rfl T
    · have T := T.2 h_1
      refine r_iload dX10_begin_120 rfl ?_
      refine r_aload_n dX10_begin_122 rfl ?_
      refine r_aload_n dX10_begin_123 rfl ?_
      refine r_iload dX10_begin_124 rfl ?_
      refine r_aload_n dX10_begin_126 rfl ?_
      refine r_getA dX10_begin_127 fX10_57 h1 uX1_8 ?_
      refine r_iload dX10_begin_130 rfl ?_
      refine s_iald dX10_begin_132 h1 tX1_8 aX1_8 T.1 ?_
      have T := T.2
      refine r_callVI (md' := mX10_goBack) (as := [vO o1, vI x6, vI (M o1 8 x6.toNat)]) dX10_begin_133 lX10_60 iX10_goBack rfl rfl rfl (Nat.le_of_ble_eq_true rfl) T (fun r_1 M1 T => ?_)
      refine r_ior dX10_begin_136 ?_
      refine r_istore dX10_begin_137 (by decide) rfl ?_
      refine r_iload dX10_begin_139 rfl ?_
      refine r_aload_n dX10_begin_141 rfl ?_
      refine r_aload_n dX10_begin_142 rfl ?_
      refine r_iload dX10_begin_143 rfl ?_
      refine r_aload_n dX10_begin_145 rfl ?_
      refine r_getA dX10_begin_146 fX10_64 h1 uX1_9 ?_
      refine r_iload dX10_begin_149 rfl ?_
      refine s_iald dX10_begin_151 h1 tX1_9 aX1_9 T.1 ?_
      have T := T.2
      refine r_callVI (md' := mX10_goBack) (as := [vO o1, vI x6, vI (M1 o1 9 x6.toNat)]) dX10_begin_152 lX10_60 iX10_goBack rfl rfl rfl (Nat.le_of_ble_eq_true rfl) T (fun r_2 M2 T => ?_)
      refine r_ior dX10_begin_155 ?_
      refine r_istore dX10_begin_156 (by decide) rfl ?_
      refine r_iinc dX10_begin_158 rfl (by decide) rfl ?_
      refine r_goto (tgt := 104) dX10_begin_161 (by decide) ?_
      exact T
theorem eX10_begin {G : Gx} {n : Nat} {M : Mem} {Q : Mem → Prop} {o1 : Nat} {o2 : Nat} {x3 : Int} (h : ∀ K : Kx, CW G K mX10_begin n 0 [some (vO 11), some (vO o1), some (vO o2), some (vI x3), none, none, none] [] M (qV Q)) : OkV G n mX10_begin [vO 11, vO o1, vO o2, vI x3] M Q := Ok_of (by decide) (Nat.le_of_ble_eq_true rfl) rfl h
-- DownOnly$Walk put (II)Z
set_option maxRecDepth 20000 in
set_option maxHeartbeats 1000000 in
theorem bX10_put_0 {G : Gx} {K : Kx} {n : Nat} {M : Mem} {Q : Int → Mem → Prop}  {x1 : Int} {x2 : Int}  (T : (x1 < 0 → Q 0 M) ∧ (¬ (x1 < 0) → (16 ≤ x1 → Q 0 M) ∧ (¬ (16 ≤ x1) → (0 ≤ x1 ∧ x1 < 16) ∧ ((M 11 0 x1.toNat < x2 → (0 ≤ x1 ∧ x1 < 16) ∧ (∀ M1 : Mem, M1 = mset M 11 0 x1.toNat x2 → Q 1 M1)) ∧ (¬ (M 11 0 x1.toNat < x2) → Q 0 M))))) : CW G K mX10_put n 0 [some (vO 11), some (vI x1), some (vI x2)] [] M (qI Q) := by
  refine r_iload_n dX10_put_0 rfl ?_
  refine r_if_lt (tgt := 23) dX10_put_1 (by decide) (fun h_3 => ?_) (fun h_3 => ?_)
  · have T := T.1 h_3
    refine r_iconst dX10_put_23 (by decide) ?_
    exact r_zreturn dX10_put_24 rfl (by decide) ⟨_, rfl, T⟩
  · have T := T.2 h_3
    refine r_iload_n dX10_put_4 rfl ?_
    refine r_aload_n dX10_put_5 rfl ?_
    refine r_getA dX10_put_6 fX10_9 rfl uX10_0 ?_
    refine s_alen dX10_put_9 rfl uX10_0 aX10_0 (by decide) ?_
    refine r_icmp_ge (tgt := 23) dX10_put_10 (by decide) (fun h_2 => ?_) (fun h_2 => ?_)
    · have T := T.1 h_2
      refine r_iconst dX10_put_23 (by decide) ?_
      exact r_zreturn dX10_put_24 rfl (by decide) ⟨_, rfl, T⟩
    · have T := T.2 h_2
      refine r_iload_n dX10_put_13 rfl ?_
      refine r_aload_n dX10_put_14 rfl ?_
      refine r_getA dX10_put_15 fX10_9 rfl uX10_0 ?_
      refine r_iload_n dX10_put_18 rfl ?_
      refine s_iald dX10_put_19 rfl tX10_0 aX10_0 T.1 ?_
      have T := T.2
      refine r_icmp_gt (tgt := 25) dX10_put_20 (by decide) (fun h_1 => ?_) (fun h_1 => ?_)
      · have T := T.1 h_1
        refine r_aload_n dX10_put_25 rfl ?_
        refine r_getA dX10_put_26 fX10_9 rfl uX10_0 ?_
        refine r_iload_n dX10_put_29 rfl ?_
        refine r_iload_n dX10_put_30 rfl ?_
        refine n_iast dX10_put_31 rfl tX10_0 aX10_0 T.1 (fun M1 hM1 => ?_)
        have T := T.2 M1 hM1
        refine r_iconst dX10_put_32 (by decide) ?_
        exact r_zreturn dX10_put_33 rfl (by decide) ⟨_, rfl, T⟩
      · have T := T.2 h_1
        refine r_iconst dX10_put_23 (by decide) ?_
        exact r_zreturn dX10_put_24 rfl (by decide) ⟨_, rfl, T⟩
theorem eX10_put {G : Gx} {n : Nat} {M : Mem} {Q : Int → Mem → Prop}  {x1 : Int} {x2 : Int} (h : ∀ K : Kx, CW G K mX10_put n 0 [some (vO 11), some (vI x1), some (vI x2)] [] M (qI Q)) : OkI G n mX10_put [vO 11, vI x1, vI x2] M Q := Ok_of (by decide) (Nat.le_of_ble_eq_true rfl) rfl h
-- DownOnly$Walk latestAt (I)I
set_option maxRecDepth 20000 in
set_option maxHeartbeats 1000000 in
theorem bX10_latestAt_0 {G : Gx} {K : Kx} {n : Nat} {M : Mem} {Q : Int → Mem → Prop}  {x1 : Int}  (T : (x1 < 0 → Q (-1) M) ∧ (¬ (x1 < 0) → (16 ≤ x1 → Q (-1) M) ∧ (¬ (16 ≤ x1) → (0 ≤ x1 ∧ x1 < 16) ∧ (Q (M 11 0 x1.toNat) M)))) : CW G K mX10_latestAt n 0 [some (vO 11), some (vI x1)] [] M (qI Q) := by
  refine r_iload_n dX10_latestAt_0 rfl ?_
  refine r_if_lt (tgt := 22) dX10_latestAt_1 (by decide) (fun h_2 => ?_) (fun h_2 => ?_)
  · have T := T.1 h_2
    refine r_iconst dX10_latestAt_22 (by decide) ?_
    exact r_ireturn dX10_latestAt_23 rfl ⟨_, rfl, T⟩
  · have T := T.2 h_2
    refine r_iload_n dX10_latestAt_4 rfl ?_
    refine r_aload_n dX10_latestAt_5 rfl ?_
    refine r_getA dX10_latestAt_6 fX10_9 rfl uX10_0 ?_
    refine s_alen dX10_latestAt_9 rfl uX10_0 aX10_0 (by decide) ?_
    refine r_icmp_ge (tgt := 22) dX10_latestAt_10 (by decide) (fun h_1 => ?_) (fun h_1 => ?_)
    · have T := T.1 h_1
      refine r_iconst dX10_latestAt_22 (by decide) ?_
      exact r_ireturn dX10_latestAt_23 rfl ⟨_, rfl, T⟩
    · have T := T.2 h_1
      refine r_aload_n dX10_latestAt_13 rfl ?_
      refine r_getA dX10_latestAt_14 fX10_9 rfl uX10_0 ?_
      refine r_iload_n dX10_latestAt_17 rfl ?_
      refine s_iald dX10_latestAt_18 rfl tX10_0 aX10_0 T.1 ?_
      have T := T.2
      refine r_goto (tgt := 23) dX10_latestAt_19 (by decide) ?_
      exact r_ireturn dX10_latestAt_23 rfl ⟨_, rfl, T⟩
theorem eX10_latestAt {G : Gx} {n : Nat} {M : Mem} {Q : Int → Mem → Prop}  {x1 : Int} (h : ∀ K : Kx, CW G K mX10_latestAt n 0 [some (vO 11), some (vI x1)] [] M (qI Q)) : OkI G n mX10_latestAt [vO 11, vI x1] M Q := Ok_of (by decide) (Nat.le_of_ble_eq_true rfl) rfl h
-- DownOnly$Walk goBack (LDownOnly$House;II)Z
set_option maxRecDepth 20000 in
set_option maxHeartbeats 1000000 in
theorem bX10_goBack_0 {G : Gx} {K : Kx} {n : Nat} {M : Mem} {Q : Int → Mem → Prop} {o1 : Nat} {x2 : Int} {x3 : Int} (h0 : oc o1 = 1) (T : OkI G n mX1_leadsTo [vO o1, vI x2, vI x3] M (fun r_1 M1 => (r_1 = (-1) → Q 0 M1) ∧ (¬ (r_1 = (-1)) → OkI G n mX10_latestAt [vO 11, vI r_1] M1 (fun r_2 M2 => (¬ r_2 = (-1) → OkI G n mX10_latestAt [vO 11, vI r_1] M2 (fun r_3 M3 => (0 ≤ x2 ∧ x2 < 24) ∧ ((0 ≤ x2 ∧ x2 < 24) ∧ ((M3 o1 12 x2.toNat = (-1) → OkI G n mX10_put [vO 11, vI x3, vI (wr (r_3 - (M3 o1 10 x2.toNat)))] M3 (fun r_4 M4 => (r_4 = 0 ∨ r_4 = 1) ∧ Q r_4 M4)) ∧ (¬ (M3 o1 12 x2.toNat = (-1)) → (0 ≤ x2 ∧ x2 < 24) ∧ ((M3 o1 12 x2.toNat ≤ wr (r_3 - (M3 o1 10 x2.toNat)) → (0 ≤ x2 ∧ x2 < 24) ∧ (OkI G n mX10_put [vO 11, vI x3, vI (if M3 o1 13 x2.toNat < wr (r_3 - (M3 o1 10 x2.toNat)) then M3 o1 13 x2.toNat else wr (r_3 - (M3 o1 10 x2.toNat)))] M3 (fun r_5 M5 => (r_5 = 0 ∨ r_5 = 1) ∧ Q r_5 M5))) ∧ (¬ (M3 o1 12 x2.toNat ≤ wr (r_3 - (M3 o1 10 x2.toNat))) → OkI G n mX10_put [vO 11, vI x3, vI (-1)] M3 (fun r_6 M6 => (r_6 = 0 ∨ r_6 = 1) ∧ Q r_6 M6)))))))) ∧ (r_2 = (-1) → Q 0 M2))))) : CW G K mX10_goBack (n + 1) 0 [some (vO 11), some (vO o1), some (vI x2), some (vI x3), none, none] [] M (qI Q) := by
  refine r_aload_n dX10_goBack_0 rfl ?_
  refine r_iload_n dX10_goBack_1 rfl ?_
  refine r_iload_n dX10_goBack_2 rfl ?_
  refine r_callVI (md' := mX1_leadsTo) (as := [vI x2, vI x3]) dX10_goBack_3 lX10_67 iX1_leadsTo h0 rfl rfl (Nat.le_of_ble_eq_true rfl) T (fun r_1 M1 T => ?_)
  refine r_istore dX10_goBack_6 (by decide) rfl ?_
  refine r_iload dX10_goBack_8 rfl ?_
  refine r_iconst dX10_goBack_10 (by decide) ?_
  refine r_icmp_eq (tgt := 24) dX10_goBack_11 (by decide) (fun h_4 => ?_) (fun h_4 => ?_)
  · have T := T.1 h_4
    refine r_iconst dX10_goBack_24 (by decide) ?_
    exact r_zreturn dX10_goBack_25 rfl (by decide) ⟨_, rfl, T⟩
  · have T := T.2 h_4
    refine r_aload_n dX10_goBack_14 rfl ?_
    refine r_iload dX10_goBack_15 rfl ?_
    refine r_callVI (md' := mX10_latestAt) (as := [vI r_1]) dX10_goBack_17 lX10_71 iX10_latestAt rfl rfl rfl (Nat.le_of_ble_eq_true rfl) T (fun r_2 M2 T => ?_)
    refine r_iconst dX10_goBack_20 (by decide) ?_
    refine r_icmp_ne (tgt := 26) dX10_goBack_21 (by decide) (fun h_3 => ?_) (fun h_3 => ?_)
    · have T := T.1 h_3
      refine r_aload_n dX10_goBack_26 rfl ?_
      refine r_iload dX10_goBack_27 rfl ?_
      refine r_callVI (md' := mX10_latestAt) (as := [vI r_1]) dX10_goBack_29 lX10_71 iX10_latestAt rfl rfl rfl (Nat.le_of_ble_eq_true rfl) T (fun r_3 M3 T => ?_)
      refine r_aload_n dX10_goBack_32 rfl ?_
      refine r_getA dX10_goBack_33 fX10_75 h0 uX1_10 ?_
      refine r_iload_n dX10_goBack_36 rfl ?_
      refine s_iald dX10_goBack_37 h0 tX1_10 aX1_10 T.1 ?_
      have T := T.2
      refine r_isub dX10_goBack_38 ?_
      refine r_istore dX10_goBack_39 (by decide) rfl ?_
      refine r_aload_n dX10_goBack_41 rfl ?_
      refine r_getA dX10_goBack_42 fX10_78 h0 uX1_12 ?_
      refine r_iload_n dX10_goBack_45 rfl ?_
      refine s_iald dX10_goBack_46 h0 tX1_12 aX1_12 T.1 ?_
      have T := T.2
      refine r_iconst dX10_goBack_47 (by decide) ?_
      refine r_icmp_eq (tgt := 79) dX10_goBack_48 (by decide) (fun h_2 => ?_) (fun h_2 => ?_)
      · have T := T.1 h_2
        refine r_aload_n dX10_goBack_79 rfl ?_
        refine r_iload_n dX10_goBack_80 rfl ?_
        refine r_iload dX10_goBack_81 rfl ?_
        refine r_callVI (md' := mX10_put) (as := [vI x3, vI (wr (r_3 - (M3 o1 10 x2.toNat)))]) dX10_goBack_83 lX10_48 iX10_put rfl rfl rfl (Nat.le_of_ble_eq_true rfl) T (fun r_4 M4 T => ?_)
        exact r_zreturn dX10_goBack_86 rfl T.1 ⟨_, rfl, T.2⟩
      · have T := T.2 h_2
        refine r_iload dX10_goBack_51 rfl ?_
        refine r_aload_n dX10_goBack_53 rfl ?_
        refine r_getA dX10_goBack_54 fX10_78 h0 uX1_12 ?_
        refine r_iload_n dX10_goBack_57 rfl ?_
        refine s_iald dX10_goBack_58 h0 tX1_12 aX1_12 T.1 ?_
        have T := T.2
        refine r_icmp_ge (tgt := 66) dX10_goBack_59 (by decide) (fun h_1 => ?_) (fun h_1 => ?_)
        · have T := T.1 h_1
          refine r_iload dX10_goBack_66 rfl ?_
          refine r_aload_n dX10_goBack_68 rfl ?_
          refine r_getA dX10_goBack_69 fX10_81 h0 uX1_13 ?_
          refine r_iload_n dX10_goBack_72 rfl ?_
          refine s_iald dX10_goBack_73 h0 tX1_13 aX1_13 T.1 ?_
          have T := T.2
          refine r_min dX10_goBack_74 lX10_84 wmin2 wmath wmin4 (Nat.le_of_ble_eq_true rfl) ?_
          refine r_istore dX10_goBack_77 (by decide) rfl ?_
          refine r_aload_n dX10_goBack_79 rfl ?_
          refine r_iload_n dX10_goBack_80 rfl ?_
          refine r_iload dX10_goBack_81 rfl ?_
          refine r_callVI (md' := mX10_put) (as := [vI x3, vI (if M3 o1 13 x2.toNat < wr (r_3 - (M3 o1 10 x2.toNat)) then M3 o1 13 x2.toNat else wr (r_3 - (M3 o1 10 x2.toNat)))]) dX10_goBack_83 lX10_48 iX10_put rfl rfl rfl (Nat.le_of_ble_eq_true rfl) T (fun r_5 M5 T => ?_)
          exact r_zreturn dX10_goBack_86 rfl T.1 ⟨_, rfl, T.2⟩
        · have T := T.2 h_1
          refine r_iconst dX10_goBack_62 (by decide) ?_
          refine r_goto (tgt := 77) dX10_goBack_63 (by decide) ?_
          refine r_istore dX10_goBack_77 (by decide) rfl ?_
          refine r_aload_n dX10_goBack_79 rfl ?_
          refine r_iload_n dX10_goBack_80 rfl ?_
          refine r_iload dX10_goBack_81 rfl ?_
          refine r_callVI (md' := mX10_put) (as := [vI x3, vI (-1)]) dX10_goBack_83 lX10_48 iX10_put rfl rfl rfl (Nat.le_of_ble_eq_true rfl) T (fun r_6 M6 T => ?_)
          exact r_zreturn dX10_goBack_86 rfl T.1 ⟨_, rfl, T.2⟩
    · have T := T.2 h_3
      refine r_iconst dX10_goBack_24 (by decide) ?_
      exact r_zreturn dX10_goBack_25 rfl (by decide) ⟨_, rfl, T⟩
theorem eX10_goBack {G : Gx} {n : Nat} {M : Mem} {Q : Int → Mem → Prop} {o1 : Nat} {x2 : Int} {x3 : Int} (h : ∀ K : Kx, CW G K mX10_goBack n 0 [some (vO 11), some (vO o1), some (vI x2), some (vI x3), none, none] [] M (qI Q)) : OkI G n mX10_goBack [vO 11, vO o1, vI x2, vI x3] M Q := Ok_of (by decide) (Nat.le_of_ble_eq_true rfl) rfl h
-- DownOnly$Walk step (LDownOnly$House;)Z
set_option maxRecDepth 20000 in
set_option maxHeartbeats 1000000 in
theorem bX10_step_0 {G : Gx} {K : Kx} {n : Nat} {M : Mem} {Q : Int → Mem → Prop} {o1 : Nat}   (T : (¬ M 11 2 0 = M 11 1 0 → CW G K mX10_step (n + 1) 15 [some (vO 11), some (vO o1), some (vI 0), none, none] [] M (qI Q)) ∧ (M 11 2 0 = M 11 1 0 → Q 0 M)) : CW G K mX10_step (n + 1) 0 [some (vO 11), some (vO o1), none, none, none] [] M (qI Q) := by
  refine r_aload_n dX10_step_0 rfl ?_
  refine r_getI dX10_step_1 fX10_27 rfl tX10_2 ?_
  refine r_aload_n dX10_step_4 rfl ?_
  refine r_getI dX10_step_5 fX10_30 rfl tX10_1 ?_
  refine r_icmp_ne (tgt := 13) dX10_step_8 (by decide) (fun h_1 => ?_) (fun h_1 => ?_)
  · have T := T.1 h_1
    refine r_iconst dX10_step_13 (by decide) ?_
    refine r_istore_n dX10_step_14 (by decide) rfl ?_
    exact T
  · have T := T.2 h_1
    refine r_iconst dX10_step_11 (by decide) ?_
    exact r_zreturn dX10_step_12 rfl (by decide) ⟨_, rfl, T⟩
set_option maxRecDepth 20000 in
set_option maxHeartbeats 1000000 in
theorem bX10_step_15 {G : Gx} {K : Kx} {n : Nat} {M : Mem} {Q : Int → Mem → Prop} {o1 : Nat} {x2 : Int} (h0 : oc o1 = 1) (T : (M o1 1 0 ≤ x2 → Q 0 M) ∧ (¬ (M o1 1 0 ≤ x2) → (24 ≤ x2 → Q 0 M) ∧ (¬ (24 ≤ x2) → OkI G n mX1_leadsTo [vO o1, vI x2, vI (M 11 2 0)] M (fun r_1 M1 => OkI G n mX1_openFrom [vO o1, vI x2, vI (M1 11 3 0)] M1 (fun r_2 M2 => (r_1 = (-1) → CW G K mX10_step (n + 1) 15 [some (vO 11), some (vO o1), some (vI (wr (x2 + 1))), none, none] [] M2 (qI Q)) ∧ (¬ (r_1 = (-1)) → (r_2 = (-1) → CW G K mX10_step (n + 1) 15 [some (vO 11), some (vO o1), some (vI (wr (x2 + 1))), none, none] [] M2 (qI Q)) ∧ (¬ (r_2 = (-1)) → (0 ≤ x2 ∧ x2 < 24) ∧ (OkI G n mX10_latestAt [vO 11, vI r_1] M2 (fun r_3 M3 => (r_3 < wr (r_2 + (M2 o1 10 x2.toNat)) → CW G K mX10_step (n + 1) 15 [some (vO 11), some (vO o1), some (vI (wr (x2 + 1))), none, none] [] M3 (qI Q)) ∧ (¬ (r_3 < wr (r_2 + (M2 o1 10 x2.toNat))) → ∀ M4 : Mem, M4 = mset M3 11 4 0 x2 → ∀ M5 : Mem, M5 = mset M4 11 5 0 r_2 → ∀ M6 : Mem, M6 = mset M5 11 2 0 r_1 → (0 ≤ x2 ∧ x2 < 24) ∧ (∀ M7 : Mem, M7 = mset M6 11 3 0 (wr (r_2 + (M6 o1 10 x2.toNat))) → Q 1 M7))))))))))) : CW G K mX10_step (n + 1) 15 [some (vO 11), some (vO o1), some (vI x2), none, none] [] M (qI Q) := by
  refine r_iload_n dX10_step_15 rfl ?_
  refine r_aload_n dX10_step_16 rfl ?_
  refine r_getI dX10_step_17 fX10_52 h0 tX1_1 ?_
  refine r_icmp_ge (tgt := 115) dX10_step_20 (by decide) (fun h_5 => ?_) (fun h_5 => ?_)
  · have T := T.1 h_5
    refine r_iconst dX10_step_115 (by decide) ?_
    exact r_zreturn dX10_step_116 rfl (by decide) ⟨_, rfl, T⟩
  · have T := T.2 h_5
    refine r_iload_n dX10_step_23 rfl ?_
    refine r_bipush dX10_step_24 (by decide) (by decide) ?_
    refine r_icmp_ge (tgt := 115) dX10_step_26 (by decide) (fun h_4 => ?_) (fun h_4 => ?_)
    · have T := T.1 h_4
      refine r_iconst dX10_step_115 (by decide) ?_
      exact r_zreturn dX10_step_116 rfl (by decide) ⟨_, rfl, T⟩
    · have T := T.2 h_4
      refine r_aload_n dX10_step_29 rfl ?_
      refine r_iload_n dX10_step_30 rfl ?_
      refine r_aload_n dX10_step_31 rfl ?_
      refine r_getI dX10_step_32 fX10_27 rfl tX10_2 ?_
      refine r_callVI (md' := mX1_leadsTo) (as := [vI x2, vI (M 11 2 0)]) dX10_step_35 lX10_67 iX1_leadsTo h0 rfl rfl (Nat.le_of_ble_eq_true rfl) T (fun r_1 M1 T => ?_)
      refine r_istore_n dX10_step_38 (by decide) rfl ?_
      refine r_aload_n dX10_step_39 rfl ?_
      refine r_iload_n dX10_step_40 rfl ?_
      refine r_aload_n dX10_step_41 rfl ?_
      refine r_getI dX10_step_42 fX10_39 rfl tX10_3 ?_
      refine r_callVI (md' := mX1_openFrom) (as := [vI x2, vI (M1 11 3 0)]) dX10_step_45 lX10_89 iX1_openFrom h0 rfl rfl (Nat.le_of_ble_eq_true rfl) T (fun r_2 M2 T => ?_)
      refine r_istore dX10_step_48 (by decide) rfl ?_
      refine r_iload_n dX10_step_50 rfl ?_
      refine r_iconst dX10_step_51 (by decide) ?_
      refine r_icmp_eq (tgt := 109) dX10_step_52 (by decide) (fun h_3 => ?_) (fun h_3 => ?_)
      · have T := T.1 h_3
        refine r_iinc dX10_step_109 rfl (by decide) rfl ?_
        refine r_goto (tgt := 15) dX10_step_112 (by decide) ?_
        exact CW_msk [true, true, true, false, false] rfl T
      · have T := T.2 h_3
        refine r_iload dX10_step_55 rfl ?_
        refine r_iconst dX10_step_57 (by decide) ?_
        refine r_icmp_eq (tgt := 109) dX10_step_58 (by decide) (fun h_2 => ?_) (fun h_2 => ?_)
        · have T := T.1 h_2
          refine r_iinc dX10_step_109 rfl (by decide) rfl ?_
          refine r_goto (tgt := 15) dX10_step_112 (by decide) ?_
          exact CW_msk [true, true, true, false, false] rfl T
        · have T := T.2 h_2
          refine r_iload dX10_step_61 rfl ?_
          refine r_aload_n dX10_step_63 rfl ?_
          refine r_getA dX10_step_64 fX10_75 h0 uX1_10 ?_
          refine r_iload_n dX10_step_67 rfl ?_
          refine s_iald dX10_step_68 h0 tX1_10 aX1_10 T.1 ?_
          have T := T.2
          refine r_iadd dX10_step_69 ?_
          refine r_aload_n dX10_step_70 rfl ?_
          refine r_iload_n dX10_step_71 rfl ?_
          refine r_callVI (md' := mX10_latestAt) (as := [vI r_1]) dX10_step_72 lX10_71 iX10_latestAt rfl rfl rfl (Nat.le_of_ble_eq_true rfl) T (fun r_3 M3 T => ?_)
          refine r_icmp_gt (tgt := 109) dX10_step_75 (by decide) (fun h_1 => ?_) (fun h_1 => ?_)
          · have T := T.1 h_1
            refine r_iinc dX10_step_109 rfl (by decide) rfl ?_
            refine r_goto (tgt := 15) dX10_step_112 (by decide) ?_
            exact CW_msk [true, true, true, false, false] rfl T
          · have T := T.2 h_1
            refine r_aload_n dX10_step_78 rfl ?_
            refine r_iload_n dX10_step_79 rfl ?_
            refine n_put dX10_step_80 pX10_92 rfl tX10_4 (fun M4 hM4 => ?_)
            have T := T M4 hM4
            refine r_aload_n dX10_step_83 rfl ?_
            refine r_iload dX10_step_84 rfl ?_
            refine n_put dX10_step_86 pX10_95 rfl tX10_5 (fun M5 hM5 => ?_)
            have T := T M5 hM5
            refine r_aload_n dX10_step_89 rfl ?_
            refine r_iload_n dX10_step_90 rfl ?_
            refine n_put dX10_step_91 pX10_27 rfl tX10_2 (fun M6 hM6 => ?_)
            have T := T M6 hM6
            refine r_aload_n dX10_step_94 rfl ?_
            refine r_iload dX10_step_95 rfl ?_
            refine r_aload_n dX10_step_97 rfl ?_
            refine r_getA dX10_step_98 fX10_75 h0 uX1_10 ?_
            refine r_iload_n dX10_step_101 rfl ?_
            refine s_iald dX10_step_102 h0 tX1_10 aX1_10 T.1 ?_
            have T := T.2
            refine r_iadd dX10_step_103 ?_
            refine n_put dX10_step_104 pX10_39 rfl tX10_3 (fun M7 hM7 => ?_)
            have T := T M7 hM7
            refine r_iconst dX10_step_107 (by decide) ?_
            exact r_zreturn dX10_step_108 rfl (by decide) ⟨_, rfl, T⟩
theorem eX10_step {G : Gx} {n : Nat} {M : Mem} {Q : Int → Mem → Prop} {o1 : Nat}  (h : ∀ K : Kx, CW G K mX10_step n 0 [some (vO 11), some (vO o1), none, none, none] [] M (qI Q)) : OkI G n mX10_step [vO 11, vO o1] M Q := Ok_of (by decide) (Nat.le_of_ble_eq_true rfl) rfl h
-- DownOnly$Lists copyFrom (LDownOnly$Lists;)V
set_option maxRecDepth 20000 in
set_option maxHeartbeats 1000000 in
theorem bX3_copyFrom_0 {G : Gx} {K : Kx} {n : Nat} {M : Mem} {Q : Mem → Prop} {o : Nat} {o1 : Nat}  (h0 : oc o1 = 3) (h1 : oc o = 3) (T : ∀ M1 : Mem, M1 = mset M o 0 0 (M o1 0 0) → ∀ M2 : Mem, M2 = mset M1 o 1 0 (M1 o1 1 0) → ∀ M3 : Mem, M3 = mset M2 o 2 0 (M2 o1 2 0) → ∀ M4 : Mem, M4 = mset M3 o 3 0 (M3 o1 3 0) → ∀ M5 : Mem, M5 = mset M4 o 4 0 (M4 o1 4 0) → OkV G n mX11_copyRow [vA o1 5, vA o 5] M5 (fun M6 => OkV G n mX11_copyRow [vA o1 6, vA o 6] M6 (fun M7 => OkV G n mX11_copyRow [vA o1 7, vA o 7] M7 (fun M8 => OkV G n mX11_copyRow [vA o1 8, vA o 8] M8 (fun M9 => OkV G n mX11_copyRow [vA o1 9, vA o 9] M9 (fun M10 => OkV G n mX11_copyRow [vA o1 10, vA o 10] M10 (fun M11 => OkV G n mX11_copyRow [vA o1 11, vA o 11] M11 (fun M12 => OkV G n mX11_copyRow [vA o1 12, vA o 12] M12 (fun M13 => OkV G n mX11_copyRow [vA o1 13, vA o 13] M13 (fun M14 => OkV G n mX11_copyRow [vA o1 14, vA o 14] M14 (fun M15 => OkV G n mX11_copyRow [vA o1 15, vA o 15] M15 (fun M16 => Q M16)))))))))))) : CW G K mX3_copyFrom (n + 1) 0 [some (vO o), some (vO o1)] [] M (qV Q) := by
  refine r_aload_n dX3_copyFrom_0 rfl ?_
  refine r_aload_n dX3_copyFrom_1 rfl ?_
  refine r_getI dX3_copyFrom_2 fX3_45 h0 tX3_0 ?_
  refine n_put dX3_copyFrom_5 pX3_45 h1 tX3_0 (fun M1 hM1 => ?_)
  have T := T M1 hM1
  refine r_aload_n dX3_copyFrom_8 rfl ?_
  refine r_aload_n dX3_copyFrom_9 rfl ?_
  refine r_getI dX3_copyFrom_10 fX3_49 h0 tX3_1 ?_
  refine n_put dX3_copyFrom_13 pX3_49 h1 tX3_1 (fun M2 hM2 => ?_)
  have T := T M2 hM2
  refine r_aload_n dX3_copyFrom_16 rfl ?_
  refine r_aload_n dX3_copyFrom_17 rfl ?_
  refine r_getI dX3_copyFrom_18 fX3_52 h0 tX3_2 ?_
  refine n_put dX3_copyFrom_21 pX3_52 h1 tX3_2 (fun M3 hM3 => ?_)
  have T := T M3 hM3
  refine r_aload_n dX3_copyFrom_24 rfl ?_
  refine r_aload_n dX3_copyFrom_25 rfl ?_
  refine r_getI dX3_copyFrom_26 fX3_55 h0 tX3_3 ?_
  refine n_put dX3_copyFrom_29 pX3_55 h1 tX3_3 (fun M4 hM4 => ?_)
  have T := T M4 hM4
  refine r_aload_n dX3_copyFrom_32 rfl ?_
  refine r_aload_n dX3_copyFrom_33 rfl ?_
  refine r_getI dX3_copyFrom_34 fX3_58 h0 tX3_4 ?_
  refine n_put dX3_copyFrom_37 pX3_58 h1 tX3_4 (fun M5 hM5 => ?_)
  have T := T M5 hM5
  refine r_aload_n dX3_copyFrom_40 rfl ?_
  refine r_getA dX3_copyFrom_41 fX3_9 h0 uX3_5 ?_
  refine r_aload_n dX3_copyFrom_44 rfl ?_
  refine r_getA dX3_copyFrom_45 fX3_9 h1 uX3_5 ?_
  refine r_callNV (md' := mX11_copyRow) (as := [vA o1 5, vA o 5]) dX3_copyFrom_48 nX3_61 iX11_copyRow rfl rfl (Nat.le_of_ble_eq_true rfl) T (fun M6 T => ?_)
  refine r_aload_n dX3_copyFrom_51 rfl ?_
  refine r_getA dX3_copyFrom_52 fX3_15 h0 uX3_6 ?_
  refine r_aload_n dX3_copyFrom_55 rfl ?_
  refine r_getA dX3_copyFrom_56 fX3_15 h1 uX3_6 ?_
  refine r_callNV (md' := mX11_copyRow) (as := [vA o1 6, vA o 6]) dX3_copyFrom_59 nX3_61 iX11_copyRow rfl rfl (Nat.le_of_ble_eq_true rfl) T (fun M7 T => ?_)
  refine r_aload_n dX3_copyFrom_62 rfl ?_
  refine r_getA dX3_copyFrom_63 fX3_18 h0 uX3_7 ?_
  refine r_aload_n dX3_copyFrom_66 rfl ?_
  refine r_getA dX3_copyFrom_67 fX3_18 h1 uX3_7 ?_
  refine r_callNV (md' := mX11_copyRow) (as := [vA o1 7, vA o 7]) dX3_copyFrom_70 nX3_61 iX11_copyRow rfl rfl (Nat.le_of_ble_eq_true rfl) T (fun M8 T => ?_)
  refine r_aload_n dX3_copyFrom_73 rfl ?_
  refine r_getA dX3_copyFrom_74 fX3_21 h0 uX3_8 ?_
  refine r_aload_n dX3_copyFrom_77 rfl ?_
  refine r_getA dX3_copyFrom_78 fX3_21 h1 uX3_8 ?_
  refine r_callNV (md' := mX11_copyRow) (as := [vA o1 8, vA o 8]) dX3_copyFrom_81 nX3_61 iX11_copyRow rfl rfl (Nat.le_of_ble_eq_true rfl) T (fun M9 T => ?_)
  refine r_aload_n dX3_copyFrom_84 rfl ?_
  refine r_getA dX3_copyFrom_85 fX3_24 h0 uX3_9 ?_
  refine r_aload_n dX3_copyFrom_88 rfl ?_
  refine r_getA dX3_copyFrom_89 fX3_24 h1 uX3_9 ?_
  refine r_callNV (md' := mX11_copyRow) (as := [vA o1 9, vA o 9]) dX3_copyFrom_92 nX3_61 iX11_copyRow rfl rfl (Nat.le_of_ble_eq_true rfl) T (fun M10 T => ?_)
  refine r_aload_n dX3_copyFrom_95 rfl ?_
  refine r_getA dX3_copyFrom_96 fX3_27 h0 uX3_10 ?_
  refine r_aload_n dX3_copyFrom_99 rfl ?_
  refine r_getA dX3_copyFrom_100 fX3_27 h1 uX3_10 ?_
  refine r_callNV (md' := mX11_copyRow) (as := [vA o1 10, vA o 10]) dX3_copyFrom_103 nX3_61 iX11_copyRow rfl rfl (Nat.le_of_ble_eq_true rfl) T (fun M11 T => ?_)
  refine r_aload_n dX3_copyFrom_106 rfl ?_
  refine r_getA dX3_copyFrom_107 fX3_30 h0 uX3_11 ?_
  refine r_aload_n dX3_copyFrom_110 rfl ?_
  refine r_getA dX3_copyFrom_111 fX3_30 h1 uX3_11 ?_
  refine r_callNV (md' := mX11_copyRow) (as := [vA o1 11, vA o 11]) dX3_copyFrom_114 nX3_61 iX11_copyRow rfl rfl (Nat.le_of_ble_eq_true rfl) T (fun M12 T => ?_)
  refine r_aload_n dX3_copyFrom_117 rfl ?_
  refine r_getA dX3_copyFrom_118 fX3_33 h0 uX3_12 ?_
  refine r_aload_n dX3_copyFrom_121 rfl ?_
  refine r_getA dX3_copyFrom_122 fX3_33 h1 uX3_12 ?_
  refine r_callNV (md' := mX11_copyRow) (as := [vA o1 12, vA o 12]) dX3_copyFrom_125 nX3_61 iX11_copyRow rfl rfl (Nat.le_of_ble_eq_true rfl) T (fun M13 T => ?_)
  refine r_aload_n dX3_copyFrom_128 rfl ?_
  refine r_getA dX3_copyFrom_129 fX3_36 h0 uX3_13 ?_
  refine r_aload_n dX3_copyFrom_132 rfl ?_
  refine r_getA dX3_copyFrom_133 fX3_36 h1 uX3_13 ?_
  refine r_callNV (md' := mX11_copyRow) (as := [vA o1 13, vA o 13]) dX3_copyFrom_136 nX3_61 iX11_copyRow rfl rfl (Nat.le_of_ble_eq_true rfl) T (fun M14 T => ?_)
  refine r_aload_n dX3_copyFrom_139 rfl ?_
  refine r_getA dX3_copyFrom_140 fX3_39 h0 uX3_14 ?_
  refine r_aload_n dX3_copyFrom_143 rfl ?_
  refine r_getA dX3_copyFrom_144 fX3_39 h1 uX3_14 ?_
  refine r_callNV (md' := mX11_copyRow) (as := [vA o1 14, vA o 14]) dX3_copyFrom_147 nX3_61 iX11_copyRow rfl rfl (Nat.le_of_ble_eq_true rfl) T (fun M15 T => ?_)
  refine r_aload_n dX3_copyFrom_150 rfl ?_
  refine r_getA dX3_copyFrom_151 fX3_42 h0 uX3_15 ?_
  refine r_aload_n dX3_copyFrom_154 rfl ?_
  refine r_getA dX3_copyFrom_155 fX3_42 h1 uX3_15 ?_
  refine r_callNV (md' := mX11_copyRow) (as := [vA o1 15, vA o 15]) dX3_copyFrom_158 nX3_61 iX11_copyRow rfl rfl (Nat.le_of_ble_eq_true rfl) T (fun M16 T => ?_)
  exact r_return dX3_copyFrom_161 rfl ⟨rfl, T⟩
theorem eX3_copyFrom {G : Gx} {n : Nat} {M : Mem} {Q : Mem → Prop} {o : Nat} {o1 : Nat}  (h : ∀ K : Kx, CW G K mX3_copyFrom n 0 [some (vO o), some (vO o1)] [] M (qV Q)) : OkV G n mX3_copyFrom [vO o, vO o1] M Q := Ok_of (by decide) (Nat.le_of_ble_eq_true rfl) rfl h
-- DownOnly$Lists addErrand (IIII)I
set_option maxRecDepth 20000 in
set_option maxHeartbeats 1000000 in
theorem bX3_addErrand_0 {G : Gx} {K : Kx} {n : Nat} {M : Mem} {Q : Int → Mem → Prop} {o : Nat} {x1 : Int} {x2 : Int} {x3 : Int} {x4 : Int} (h0 : oc o = 3) (T : (M o 1 0 < 10 → (0 ≤ M o 1 0 ∧ M o 1 0 < 10) ∧ (∀ M1 : Mem, M1 = mset M o 5 (M o 1 0).toNat x1 → (0 ≤ M1 o 1 0 ∧ M1 o 1 0 < 10) ∧ (∀ M2 : Mem, M2 = mset M1 o 6 (M1 o 1 0).toNat x2 → (0 ≤ M2 o 1 0 ∧ M2 o 1 0 < 10) ∧ (∀ M3 : Mem, M3 = mset M2 o 7 (M2 o 1 0).toNat x3 → (0 ≤ M3 o 1 0 ∧ M3 o 1 0 < 10) ∧ (∀ M4 : Mem, M4 = mset M3 o 8 (M3 o 1 0).toNat x4 → ∀ M5 : Mem, M5 = mset M4 o 1 0 (wr (M4 o 1 0 + 1)) → Q (wr (M5 o 1 0 - 1)) M5))))) ∧ (¬ (M o 1 0 < 10) → Q (-1) M)) : CW G K mX3_addErrand n 0 [some (vO o), some (vI x1), some (vI x2), some (vI x3), some (vI x4)] [] M (qI Q) := by
  refine r_aload_n dX3_addErrand_0 rfl ?_
  refine r_getI dX3_addErrand_1 fX3_49 h0 tX3_1 ?_
  refine r_bipush dX3_addErrand_4 (by decide) (by decide) ?_
  refine r_icmp_lt (tgt := 11) dX3_addErrand_6 (by decide) (fun h_1 => ?_) (fun h_1 => ?_)
  · have T := T.1 h_1
    refine r_aload_n dX3_addErrand_11 rfl ?_
    refine r_getA dX3_addErrand_12 fX3_9 h0 uX3_5 ?_
    refine r_aload_n dX3_addErrand_15 rfl ?_
    refine r_getI dX3_addErrand_16 fX3_49 h0 tX3_1 ?_
    refine r_iload_n dX3_addErrand_19 rfl ?_
    refine n_iast dX3_addErrand_20 h0 tX3_5 aX3_5 T.1 (fun M1 hM1 => ?_)
    have T := T.2 M1 hM1
    refine r_aload_n dX3_addErrand_21 rfl ?_
    refine r_getA dX3_addErrand_22 fX3_15 h0 uX3_6 ?_
    refine r_aload_n dX3_addErrand_25 rfl ?_
    refine r_getI dX3_addErrand_26 fX3_49 h0 tX3_1 ?_
    refine r_iload_n dX3_addErrand_29 rfl ?_
    refine n_iast dX3_addErrand_30 h0 tX3_6 aX3_6 T.1 (fun M2 hM2 => ?_)
    have T := T.2 M2 hM2
    refine r_aload_n dX3_addErrand_31 rfl ?_
    refine r_getA dX3_addErrand_32 fX3_18 h0 uX3_7 ?_
    refine r_aload_n dX3_addErrand_35 rfl ?_
    refine r_getI dX3_addErrand_36 fX3_49 h0 tX3_1 ?_
    refine r_iload_n dX3_addErrand_39 rfl ?_
    refine n_iast dX3_addErrand_40 h0 tX3_7 aX3_7 T.1 (fun M3 hM3 => ?_)
    have T := T.2 M3 hM3
    refine r_aload_n dX3_addErrand_41 rfl ?_
    refine r_getA dX3_addErrand_42 fX3_21 h0 uX3_8 ?_
    refine r_aload_n dX3_addErrand_45 rfl ?_
    refine r_getI dX3_addErrand_46 fX3_49 h0 tX3_1 ?_
    refine r_iload dX3_addErrand_49 rfl ?_
    refine n_iast dX3_addErrand_51 h0 tX3_8 aX3_8 T.1 (fun M4 hM4 => ?_)
    have T := T.2 M4 hM4
    refine r_aload_n dX3_addErrand_52 rfl ?_
    refine r_dup dX3_addErrand_53 rfl ?_
    refine r_getI dX3_addErrand_54 fX3_49 h0 tX3_1 ?_
    refine r_iconst dX3_addErrand_57 (by decide) ?_
    refine r_iadd dX3_addErrand_58 ?_
    refine n_put dX3_addErrand_59 pX3_49 h0 tX3_1 (fun M5 hM5 => ?_)
    have T := T M5 hM5
    refine r_aload_n dX3_addErrand_62 rfl ?_
    refine r_getI dX3_addErrand_63 fX3_49 h0 tX3_1 ?_
    refine r_iconst dX3_addErrand_66 (by decide) ?_
    refine r_isub dX3_addErrand_67 ?_
    exact r_ireturn dX3_addErrand_68 rfl ⟨_, rfl, T⟩
  · have T := T.2 h_1
    refine r_iconst dX3_addErrand_9 (by decide) ?_
    exact r_ireturn dX3_addErrand_10 rfl ⟨_, rfl, T⟩
theorem eX3_addErrand {G : Gx} {n : Nat} {M : Mem} {Q : Int → Mem → Prop} {o : Nat} {x1 : Int} {x2 : Int} {x3 : Int} {x4 : Int} (h : ∀ K : Kx, CW G K mX3_addErrand n 0 [some (vO o), some (vI x1), some (vI x2), some (vI x3), some (vI x4)] [] M (qI Q)) : OkI G n mX3_addErrand [vO o, vI x1, vI x2, vI x3, vI x4] M Q := Ok_of (by decide) (Nat.le_of_ble_eq_true rfl) rfl h
-- DownOnly$Lists addTrip (IIII)I
set_option maxRecDepth 20000 in
set_option maxHeartbeats 1000000 in
theorem bX3_addTrip_0 {G : Gx} {K : Kx} {n : Nat} {M : Mem} {Q : Int → Mem → Prop} {o : Nat} {x1 : Int} {x2 : Int} {x3 : Int} {x4 : Int} (h0 : oc o = 3) (T : (M o 2 0 < 12 → (0 ≤ M o 2 0 ∧ M o 2 0 < 12) ∧ (∀ M1 : Mem, M1 = mset M o 9 (M o 2 0).toNat x1 → (0 ≤ M1 o 2 0 ∧ M1 o 2 0 < 12) ∧ (∀ M2 : Mem, M2 = mset M1 o 10 (M1 o 2 0).toNat x2 → (0 ≤ M2 o 2 0 ∧ M2 o 2 0 < 12) ∧ (∀ M3 : Mem, M3 = mset M2 o 11 (M2 o 2 0).toNat x3 → (0 ≤ M3 o 2 0 ∧ M3 o 2 0 < 12) ∧ (∀ M4 : Mem, M4 = mset M3 o 12 (M3 o 2 0).toNat x4 → ∀ M5 : Mem, M5 = mset M4 o 2 0 (wr (M4 o 2 0 + 1)) → Q (M5 o 2 0) M5))))) ∧ (¬ (M o 2 0 < 12) → Q (-2) M)) : CW G K mX3_addTrip n 0 [some (vO o), some (vI x1), some (vI x2), some (vI x3), some (vI x4)] [] M (qI Q) := by
  refine r_aload_n dX3_addTrip_0 rfl ?_
  refine r_getI dX3_addTrip_1 fX3_52 h0 tX3_2 ?_
  refine r_bipush dX3_addTrip_4 (by decide) (by decide) ?_
  refine r_icmp_lt (tgt := 12) dX3_addTrip_6 (by decide) (fun h_1 => ?_) (fun h_1 => ?_)
  · have T := T.1 h_1
    refine r_aload_n dX3_addTrip_12 rfl ?_
    refine r_getA dX3_addTrip_13 fX3_24 h0 uX3_9 ?_
    refine r_aload_n dX3_addTrip_16 rfl ?_
    refine r_getI dX3_addTrip_17 fX3_52 h0 tX3_2 ?_
    refine r_iload_n dX3_addTrip_20 rfl ?_
    refine n_iast dX3_addTrip_21 h0 tX3_9 aX3_9 T.1 (fun M1 hM1 => ?_)
    have T := T.2 M1 hM1
    refine r_aload_n dX3_addTrip_22 rfl ?_
    refine r_getA dX3_addTrip_23 fX3_27 h0 uX3_10 ?_
    refine r_aload_n dX3_addTrip_26 rfl ?_
    refine r_getI dX3_addTrip_27 fX3_52 h0 tX3_2 ?_
    refine r_iload_n dX3_addTrip_30 rfl ?_
    refine n_iast dX3_addTrip_31 h0 tX3_10 aX3_10 T.1 (fun M2 hM2 => ?_)
    have T := T.2 M2 hM2
    refine r_aload_n dX3_addTrip_32 rfl ?_
    refine r_getA dX3_addTrip_33 fX3_30 h0 uX3_11 ?_
    refine r_aload_n dX3_addTrip_36 rfl ?_
    refine r_getI dX3_addTrip_37 fX3_52 h0 tX3_2 ?_
    refine r_iload_n dX3_addTrip_40 rfl ?_
    refine n_iast dX3_addTrip_41 h0 tX3_11 aX3_11 T.1 (fun M3 hM3 => ?_)
    have T := T.2 M3 hM3
    refine r_aload_n dX3_addTrip_42 rfl ?_
    refine r_getA dX3_addTrip_43 fX3_33 h0 uX3_12 ?_
    refine r_aload_n dX3_addTrip_46 rfl ?_
    refine r_getI dX3_addTrip_47 fX3_52 h0 tX3_2 ?_
    refine r_iload dX3_addTrip_50 rfl ?_
    refine n_iast dX3_addTrip_52 h0 tX3_12 aX3_12 T.1 (fun M4 hM4 => ?_)
    have T := T.2 M4 hM4
    refine r_aload_n dX3_addTrip_53 rfl ?_
    refine r_dup dX3_addTrip_54 rfl ?_
    refine r_getI dX3_addTrip_55 fX3_52 h0 tX3_2 ?_
    refine r_iconst dX3_addTrip_58 (by decide) ?_
    refine r_iadd dX3_addTrip_59 ?_
    refine n_put dX3_addTrip_60 pX3_52 h0 tX3_2 (fun M5 hM5 => ?_)
    have T := T M5 hM5
    refine r_aload_n dX3_addTrip_63 rfl ?_
    refine r_getI dX3_addTrip_64 fX3_52 h0 tX3_2 ?_
    exact r_ireturn dX3_addTrip_67 rfl ⟨_, rfl, T⟩
  · have T := T.2 h_1
    refine r_bipush dX3_addTrip_9 (by decide) (by decide) ?_
    exact r_ireturn dX3_addTrip_11 rfl ⟨_, rfl, T⟩
theorem eX3_addTrip {G : Gx} {n : Nat} {M : Mem} {Q : Int → Mem → Prop} {o : Nat} {x1 : Int} {x2 : Int} {x3 : Int} {x4 : Int} (h : ∀ K : Kx, CW G K mX3_addTrip n 0 [some (vO o), some (vI x1), some (vI x2), some (vI x3), some (vI x4)] [] M (qI Q)) : OkI G n mX3_addTrip [vO o, vI x1, vI x2, vI x3, vI x4] M Q := Ok_of (by decide) (Nat.le_of_ble_eq_true rfl) rfl h
-- DownOnly$Lists addRider (I)I
set_option maxRecDepth 20000 in
set_option maxHeartbeats 1000000 in
theorem bX3_addRider_0 {G : Gx} {K : Kx} {n : Nat} {M : Mem} {Q : Int → Mem → Prop} {o : Nat} {x1 : Int} (h0 : oc o = 3) (T : (M o 3 0 < 20 → (0 ≤ M o 3 0 ∧ M o 3 0 < 20) ∧ (∀ M1 : Mem, M1 = mset M o 13 (M o 3 0).toNat x1 → ∀ M2 : Mem, M2 = mset M1 o 3 0 (wr (M1 o 3 0 + 1)) → Q (M2 o 3 0) M2)) ∧ (¬ (M o 3 0 < 20) → Q (-2) M)) : CW G K mX3_addRider n 0 [some (vO o), some (vI x1)] [] M (qI Q) := by
  refine r_aload_n dX3_addRider_0 rfl ?_
  refine r_getI dX3_addRider_1 fX3_55 h0 tX3_3 ?_
  refine r_bipush dX3_addRider_4 (by decide) (by decide) ?_
  refine r_icmp_lt (tgt := 12) dX3_addRider_6 (by decide) (fun h_1 => ?_) (fun h_1 => ?_)
  · have T := T.1 h_1
    refine r_aload_n dX3_addRider_12 rfl ?_
    refine r_getA dX3_addRider_13 fX3_36 h0 uX3_13 ?_
    refine r_aload_n dX3_addRider_16 rfl ?_
    refine r_getI dX3_addRider_17 fX3_55 h0 tX3_3 ?_
    refine r_iload_n dX3_addRider_20 rfl ?_
    refine n_iast dX3_addRider_21 h0 tX3_13 aX3_13 T.1 (fun M1 hM1 => ?_)
    have T := T.2 M1 hM1
    refine r_aload_n dX3_addRider_22 rfl ?_
    refine r_dup dX3_addRider_23 rfl ?_
    refine r_getI dX3_addRider_24 fX3_55 h0 tX3_3 ?_
    refine r_iconst dX3_addRider_27 (by decide) ?_
    refine r_iadd dX3_addRider_28 ?_
    refine n_put dX3_addRider_29 pX3_55 h0 tX3_3 (fun M2 hM2 => ?_)
    have T := T M2 hM2
    refine r_aload_n dX3_addRider_32 rfl ?_
    refine r_getI dX3_addRider_33 fX3_55 h0 tX3_3 ?_
    exact r_ireturn dX3_addRider_36 rfl ⟨_, rfl, T⟩
  · have T := T.2 h_1
    refine r_bipush dX3_addRider_9 (by decide) (by decide) ?_
    exact r_ireturn dX3_addRider_11 rfl ⟨_, rfl, T⟩
theorem eX3_addRider {G : Gx} {n : Nat} {M : Mem} {Q : Int → Mem → Prop} {o : Nat} {x1 : Int} (h : ∀ K : Kx, CW G K mX3_addRider n 0 [some (vO o), some (vI x1)] [] M (qI Q)) : OkI G n mX3_addRider [vO o, vI x1] M Q := Ok_of (by decide) (Nat.le_of_ble_eq_true rfl) rfl h
-- DownOnly$Lists addCustomer (II)I
set_option maxRecDepth 20000 in
set_option maxHeartbeats 1000000 in
theorem bX3_addCustomer_0 {G : Gx} {K : Kx} {n : Nat} {M : Mem} {Q : Int → Mem → Prop} {o : Nat} {x1 : Int} {x2 : Int} (h0 : oc o = 3) (T : (M o 4 0 < 10 → (0 ≤ M o 4 0 ∧ M o 4 0 < 10) ∧ (∀ M1 : Mem, M1 = mset M o 14 (M o 4 0).toNat x1 → (0 ≤ M1 o 4 0 ∧ M1 o 4 0 < 10) ∧ (∀ M2 : Mem, M2 = mset M1 o 15 (M1 o 4 0).toNat x2 → ∀ M3 : Mem, M3 = mset M2 o 4 0 (wr (M2 o 4 0 + 1)) → Q (M3 o 4 0) M3))) ∧ (¬ (M o 4 0 < 10) → Q (-2) M)) : CW G K mX3_addCustomer n 0 [some (vO o), some (vI x1), some (vI x2)] [] M (qI Q) := by
  refine r_aload_n dX3_addCustomer_0 rfl ?_
  refine r_getI dX3_addCustomer_1 fX3_58 h0 tX3_4 ?_
  refine r_bipush dX3_addCustomer_4 (by decide) (by decide) ?_
  refine r_icmp_lt (tgt := 12) dX3_addCustomer_6 (by decide) (fun h_1 => ?_) (fun h_1 => ?_)
  · have T := T.1 h_1
    refine r_aload_n dX3_addCustomer_12 rfl ?_
    refine r_getA dX3_addCustomer_13 fX3_39 h0 uX3_14 ?_
    refine r_aload_n dX3_addCustomer_16 rfl ?_
    refine r_getI dX3_addCustomer_17 fX3_58 h0 tX3_4 ?_
    refine r_iload_n dX3_addCustomer_20 rfl ?_
    refine n_iast dX3_addCustomer_21 h0 tX3_14 aX3_14 T.1 (fun M1 hM1 => ?_)
    have T := T.2 M1 hM1
    refine r_aload_n dX3_addCustomer_22 rfl ?_
    refine r_getA dX3_addCustomer_23 fX3_42 h0 uX3_15 ?_
    refine r_aload_n dX3_addCustomer_26 rfl ?_
    refine r_getI dX3_addCustomer_27 fX3_58 h0 tX3_4 ?_
    refine r_iload_n dX3_addCustomer_30 rfl ?_
    refine n_iast dX3_addCustomer_31 h0 tX3_15 aX3_15 T.1 (fun M2 hM2 => ?_)
    have T := T.2 M2 hM2
    refine r_aload_n dX3_addCustomer_32 rfl ?_
    refine r_dup dX3_addCustomer_33 rfl ?_
    refine r_getI dX3_addCustomer_34 fX3_58 h0 tX3_4 ?_
    refine r_iconst dX3_addCustomer_37 (by decide) ?_
    refine r_iadd dX3_addCustomer_38 ?_
    refine n_put dX3_addCustomer_39 pX3_58 h0 tX3_4 (fun M3 hM3 => ?_)
    have T := T M3 hM3
    refine r_aload_n dX3_addCustomer_42 rfl ?_
    refine r_getI dX3_addCustomer_43 fX3_58 h0 tX3_4 ?_
    exact r_ireturn dX3_addCustomer_46 rfl ⟨_, rfl, T⟩
  · have T := T.2 h_1
    refine r_bipush dX3_addCustomer_9 (by decide) (by decide) ?_
    exact r_ireturn dX3_addCustomer_11 rfl ⟨_, rfl, T⟩
theorem eX3_addCustomer {G : Gx} {n : Nat} {M : Mem} {Q : Int → Mem → Prop} {o : Nat} {x1 : Int} {x2 : Int} (h : ∀ K : Kx, CW G K mX3_addCustomer n 0 [some (vO o), some (vI x1), some (vI x2)] [] M (qI Q)) : OkI G n mX3_addCustomer [vO o, vI x1, vI x2] M Q := Ok_of (by decide) (Nat.le_of_ble_eq_true rfl) rfl h
-- DownOnly$Lists firstWaiting ([I)I
set_option maxRecDepth 20000 in
set_option maxHeartbeats 1000000 in
theorem bX3_firstWaiting_0 {G : Gx} {K : Kx} {n : Nat} {M : Mem} {Q : Int → Mem → Prop} {o : Nat}   (T : CW G K mX3_firstWaiting n 4 [some (vO o), some (vA 1 15), some (vI (-1)), some (vI 0)] [] M (qI Q)) : CW G K mX3_firstWaiting n 0 [some (vO o), some (vA 1 15), none, none] [] M (qI Q) := by
  refine r_iconst dX3_firstWaiting_0 (by decide) ?_
  refine r_istore_n dX3_firstWaiting_1 (by decide) rfl ?_
  refine r_iconst dX3_firstWaiting_2 (by decide) ?_
  refine r_istore_n dX3_firstWaiting_3 (by decide) rfl ?_
  exact T
set_option maxRecDepth 20000 in
set_option maxHeartbeats 1000000 in
theorem bX3_firstWaiting_4 {G : Gx} {K : Kx} {n : Nat} {M : Mem} {Q : Int → Mem → Prop} {o : Nat} {x2 : Int} {x3 : Int} (h0 : oc o = 3) (T : (M o 3 0 ≤ x3 → Q x2 M) ∧ (¬ (M o 3 0 ≤ x3) → (20 ≤ x3 → Q x2 M) ∧ (¬ (20 ≤ x3) → (20 ≤ x3 → Q x2 M) ∧ (¬ (20 ≤ x3) → (0 ≤ x3 ∧ x3 < 20) ∧ ((¬ M 1 15 x3.toNat = (-1) → CW G K mX3_firstWaiting n 4 [some (vO o), some (vA 1 15), some (vI x2), some (vI (wr (x3 + 1)))] [] M (qI Q)) ∧ (M 1 15 x3.toNat = (-1) → (x2 = (-1) → CW G K mX3_firstWaiting n 4 [some (vO o), some (vA 1 15), some (vI x3), some (vI (wr (x3 + 1)))] [] M (qI Q)) ∧ (¬ (x2 = (-1)) → (0 ≤ x3 ∧ x3 < 20) ∧ ((0 ≤ x2 ∧ x2 < 20) ∧ ((M o 13 x2.toNat ≤ M o 13 x3.toNat → CW G K mX3_firstWaiting n 4 [some (vO o), some (vA 1 15), some (vI x2), some (vI (wr (x3 + 1)))] [] M (qI Q)) ∧ (¬ (M o 13 x2.toNat ≤ M o 13 x3.toNat) → CW G K mX3_firstWaiting n 4 [some (vO o), some (vA 1 15), some (vI x3), some (vI (wr (x3 + 1)))] [] M (qI Q))))))))))) : CW G K mX3_firstWaiting n 4 [some (vO o), some (vA 1 15), some (vI x2), some (vI x3)] [] M (qI Q) := by
  refine r_iload_n dX3_firstWaiting_4 rfl ?_
  refine r_aload_n dX3_firstWaiting_5 rfl ?_
  refine r_getI dX3_firstWaiting_6 fX3_55 h0 tX3_3 ?_
  refine r_icmp_ge (tgt := 59) dX3_firstWaiting_9 (by decide) (fun h_6 => ?_) (fun h_6 => ?_)
  · have T := T.1 h_6
    refine r_iload_n dX3_firstWaiting_59 rfl ?_
    exact r_ireturn dX3_firstWaiting_60 rfl ⟨_, rfl, T⟩
  · have T := T.2 h_6
    refine r_iload_n dX3_firstWaiting_12 rfl ?_
    refine r_bipush dX3_firstWaiting_13 (by decide) (by decide) ?_
    refine r_icmp_ge (tgt := 59) dX3_firstWaiting_15 (by decide) (fun h_5 => ?_) (fun h_5 => ?_)
    · have T := T.1 h_5
      refine r_iload_n dX3_firstWaiting_59 rfl ?_
      exact r_ireturn dX3_firstWaiting_60 rfl ⟨_, rfl, T⟩
    · have T := T.2 h_5
      refine r_iload_n dX3_firstWaiting_18 rfl ?_
      refine r_aload_n dX3_firstWaiting_19 rfl ?_
      refine s_alen dX3_firstWaiting_20 rfl uX11_15 aX11_15 (by decide) ?_
      refine r_icmp_ge (tgt := 59) dX3_firstWaiting_21 (by decide) (fun h_4 => ?_) (fun h_4 => ?_)
      · have T := T.1 h_4
        refine r_iload_n dX3_firstWaiting_59 rfl ?_
        exact r_ireturn dX3_firstWaiting_60 rfl ⟨_, rfl, T⟩
      · have T := T.2 h_4
        refine r_aload_n dX3_firstWaiting_24 rfl ?_
        refine r_iload_n dX3_firstWaiting_25 rfl ?_
        refine s_iald dX3_firstWaiting_26 rfl tX11_15 aX11_15 T.1 ?_
        have T := T.2
        refine r_iconst dX3_firstWaiting_27 (by decide) ?_
        refine r_icmp_ne (tgt := 53) dX3_firstWaiting_28 (by decide) (fun h_3 => ?_) (fun h_3 => ?_)
        · have T := T.1 h_3
          refine r_iinc dX3_firstWaiting_53 rfl (by decide) rfl ?_
          refine r_goto (tgt := 4) dX3_firstWaiting_56 (by decide) ?_
          exact T
        · have T := T.2 h_3
          refine r_iload_n dX3_firstWaiting_31 rfl ?_
          refine r_iconst dX3_firstWaiting_32 (by decide) ?_
          refine r_icmp_eq (tgt := 51) dX3_firstWaiting_33 (by decide) (fun h_2 => ?_) (fun h_2 => ?_)
          · have T := T.1 h_2
            refine r_iload_n dX3_firstWaiting_51 rfl ?_
            refine r_istore_n dX3_firstWaiting_52 (by decide) rfl ?_
            refine r_iinc dX3_firstWaiting_53 rfl (by decide) rfl ?_
            refine r_goto (tgt := 4) dX3_firstWaiting_56 (by decide) ?_
            exact T
          · have T := T.2 h_2
            refine r_aload_n dX3_firstWaiting_36 rfl ?_
            refine r_getA dX3_firstWaiting_37 fX3_36 h0 uX3_13 ?_
            refine r_iload_n dX3_firstWaiting_40 rfl ?_
            refine s_iald dX3_firstWaiting_41 h0 tX3_13 aX3_13 T.1 ?_
            have T := T.2
            refine r_aload_n dX3_firstWaiting_42 rfl ?_
            refine r_getA dX3_firstWaiting_43 fX3_36 h0 uX3_13 ?_
            refine r_iload_n dX3_firstWaiting_46 rfl ?_
            refine s_iald dX3_firstWaiting_47 h0 tX3_13 aX3_13 T.1 ?_
            have T := T.2
            refine r_icmp_ge (tgt := 53) dX3_firstWaiting_48 (by decide) (fun h_1 => ?_) (fun h_1 => ?_)
            · have T := T.1 h_1
              refine r_iinc dX3_firstWaiting_53 rfl (by decide) rfl ?_
              refine r_goto (tgt := 4) dX3_firstWaiting_56 (by decide) ?_
              exact T
            · have T := T.2 h_1
              refine r_iload_n dX3_firstWaiting_51 rfl ?_
              refine r_istore_n dX3_firstWaiting_52 (by decide) rfl ?_
              refine r_iinc dX3_firstWaiting_53 rfl (by decide) rfl ?_
              refine r_goto (tgt := 4) dX3_firstWaiting_56 (by decide) ?_
              exact T
theorem eX3_firstWaiting {G : Gx} {n : Nat} {M : Mem} {Q : Int → Mem → Prop} {o : Nat}  (h : ∀ K : Kx, CW G K mX3_firstWaiting n 0 [some (vO o), some (vA 1 15), none, none] [] M (qI Q)) : OkI G n mX3_firstWaiting [vO o, vA 1 15] M Q := Ok_of (by decide) (Nat.le_of_ble_eq_true rfl) rfl h
-- DownOnly$Lists customersFrom (II)I
set_option maxRecDepth 20000 in
set_option maxHeartbeats 1000000 in
theorem bX3_customersFrom_0 {G : Gx} {K : Kx} {n : Nat} {M : Mem} {Q : Int → Mem → Prop} {o : Nat} {x1 : Int} {x2 : Int}  (T : CW G K mX3_customersFrom n 5 [some (vO o), some (vI x1), some (vI x2), some (vI 0), some (vI 0)] [] M (qI Q)) : CW G K mX3_customersFrom n 0 [some (vO o), some (vI x1), some (vI x2), none, none] [] M (qI Q) := by
  refine r_iconst dX3_customersFrom_0 (by decide) ?_
  refine r_istore_n dX3_customersFrom_1 (by decide) rfl ?_
  refine r_iconst dX3_customersFrom_2 (by decide) ?_
  refine r_istore dX3_customersFrom_3 (by decide) rfl ?_
  exact T
set_option maxRecDepth 20000 in
set_option maxHeartbeats 1000000 in
theorem bX3_customersFrom_5 {G : Gx} {K : Kx} {n : Nat} {M : Mem} {Q : Int → Mem → Prop} {o : Nat} {x1 : Int} {x2 : Int} {x3 : Int} {x4 : Int} (h0 : oc o = 3) (T : (M o 4 0 ≤ x4 → Q x3 M) ∧ (¬ (M o 4 0 ≤ x4) → (10 ≤ x4 → Q x3 M) ∧ (¬ (10 ≤ x4) → (0 ≤ x4 ∧ x4 < 10) ∧ ((¬ M o 14 x4.toNat = x1 → CW G K mX3_customersFrom n 5 [some (vO o), some (vI x1), some (vI x2), some (vI x3), some (vI (wr (x4 + 1)))] [] M (qI Q)) ∧ (M o 14 x4.toNat = x1 → (0 ≤ x4 ∧ x4 < 10) ∧ ((¬ bAnd (bShr x2 (M o 15 x4.toNat)) 1 = 1 → CW G K mX3_customersFrom n 5 [some (vO o), some (vI x1), some (vI x2), some (vI x3), some (vI (wr (x4 + 1)))] [] M (qI Q)) ∧ (bAnd (bShr x2 (M o 15 x4.toNat)) 1 = 1 → CW G K mX3_customersFrom n 5 [some (vO o), some (vI x1), some (vI x2), some (vI (wr (x3 + 1))), some (vI (wr (x4 + 1)))] [] M (qI Q)))))))) : CW G K mX3_customersFrom n 5 [some (vO o), some (vI x1), some (vI x2), some (vI x3), some (vI x4)] [] M (qI Q) := by
  refine r_iload dX3_customersFrom_5 rfl ?_
  refine r_aload_n dX3_customersFrom_7 rfl ?_
  refine r_getI dX3_customersFrom_8 fX3_58 h0 tX3_4 ?_
  refine r_icmp_ge (tgt := 56) dX3_customersFrom_11 (by decide) (fun h_4 => ?_) (fun h_4 => ?_)
  · have T := T.1 h_4
    refine r_iload_n dX3_customersFrom_56 rfl ?_
    exact r_ireturn dX3_customersFrom_57 rfl ⟨_, rfl, T⟩
  · have T := T.2 h_4
    refine r_iload dX3_customersFrom_14 rfl ?_
    refine r_bipush dX3_customersFrom_16 (by decide) (by decide) ?_
    refine r_icmp_ge (tgt := 56) dX3_customersFrom_18 (by decide) (fun h_3 => ?_) (fun h_3 => ?_)
    · have T := T.1 h_3
      refine r_iload_n dX3_customersFrom_56 rfl ?_
      exact r_ireturn dX3_customersFrom_57 rfl ⟨_, rfl, T⟩
    · have T := T.2 h_3
      refine r_aload_n dX3_customersFrom_21 rfl ?_
      refine r_getA dX3_customersFrom_22 fX3_39 h0 uX3_14 ?_
      refine r_iload dX3_customersFrom_25 rfl ?_
      refine s_iald dX3_customersFrom_27 h0 tX3_14 aX3_14 T.1 ?_
      have T := T.2
      refine r_iload_n dX3_customersFrom_28 rfl ?_
      refine r_icmp_ne (tgt := 50) dX3_customersFrom_29 (by decide) (fun h_2 => ?_) (fun h_2 => ?_)
      · have T := T.1 h_2
        refine r_iinc dX3_customersFrom_50 rfl (by decide) rfl ?_
        refine r_goto (tgt := 5) dX3_customersFrom_53 (by decide) ?_
        exact T
      · have T := T.2 h_2
        refine r_iload_n dX3_customersFrom_32 rfl ?_
        refine r_aload_n dX3_customersFrom_33 rfl ?_
        refine r_getA dX3_customersFrom_34 fX3_42 h0 uX3_15 ?_
        refine r_iload dX3_customersFrom_37 rfl ?_
        refine s_iald dX3_customersFrom_39 h0 tX3_15 aX3_15 T.1 ?_
        have T := T.2
        refine r_ishr dX3_customersFrom_40 ?_
        refine r_iconst dX3_customersFrom_41 (by decide) ?_
        refine r_iand dX3_customersFrom_42 ?_
        refine r_iconst dX3_customersFrom_43 (by decide) ?_
        refine r_icmp_ne (tgt := 50) dX3_customersFrom_44 (by decide) (fun h_1 => ?_) (fun h_1 => ?_)
        · have T := T.1 h_1
          refine r_iinc dX3_customersFrom_50 rfl (by decide) rfl ?_
          refine r_goto (tgt := 5) dX3_customersFrom_53 (by decide) ?_
          exact T
        · have T := T.2 h_1
          refine r_iinc dX3_customersFrom_47 rfl (by decide) rfl ?_
          refine r_iinc dX3_customersFrom_50 rfl (by decide) rfl ?_
          refine r_goto (tgt := 5) dX3_customersFrom_53 (by decide) ?_
          exact T
theorem eX3_customersFrom {G : Gx} {n : Nat} {M : Mem} {Q : Int → Mem → Prop} {o : Nat} {x1 : Int} {x2 : Int} (h : ∀ K : Kx, CW G K mX3_customersFrom n 0 [some (vO o), some (vI x1), some (vI x2), none, none] [] M (qI Q)) : OkI G n mX3_customersFrom [vO o, vI x1, vI x2] M Q := Ok_of (by decide) (Nat.le_of_ble_eq_true rfl) rfl h
-- DownOnly$Planner plan (LDownOnly$State;IIZ)V
set_option maxRecDepth 20000 in
set_option maxHeartbeats 1000000 in
theorem bX4_plan_0 {G : Gx} {K : Kx} {n : Nat} {M : Mem} {Q : Mem → Prop} {o1 : Nat} {x2 : Int} {x3 : Int} {x4 : Int} (h0 : oc o1 = 8) (h1 : oc (o1 + 3) = 3) (T : OkV G n mJ7_fill_fda19 [vA 12 1, vI 0, vI (if wr ((bShl 1 (if 10 < M (o1 + 3) 1 0 then 10 else M (o1 + 3) 1 0)) * 20) < 20480 then wr ((bShl 1 (if 10 < M (o1 + 3) 1 0 then 10 else M (o1 + 3) 1 0)) * 20) else 20480), vI 1000000] M (fun M1 => ∀ M2 : Mem, M2 = mset M1 12 2 0 (-1) → CW G K mX4_plan (n + 1) 51 [some (vO 12), some (vO o1), some (vI x2), some (vI x3), some (vI x4), some (vO (o1 + 3)), some (vI (bShl 1 (if 10 < M (o1 + 3) 1 0 then 10 else M (o1 + 3) 1 0))), some (vI 0), none] [] M2 (qV Q))) : CW G K mX4_plan (n + 1) 0 [some (vO 12), some (vO o1), some (vI x2), some (vI x3), some (vI x4), none, none, none, none] [] M (qV Q) := by
  refine r_aload_n dX4_plan_0 rfl ?_
  refine r_getO (o' := o1 + 3) dX4_plan_1 fX4_22 h0 tX8_2 (by simp [lk, h0]) ?_
  refine r_astore dX4_plan_4 (by decide) rfl ?_
  refine r_iconst dX4_plan_6 (by decide) ?_
  refine r_aload dX4_plan_7 rfl ?_
  refine r_getI dX4_plan_9 fX4_28 h1 tX3_1 ?_
  refine r_bipush dX4_plan_12 (by decide) (by decide) ?_
  refine r_min dX4_plan_14 lX4_34 wmin2 wmath wmin4 (Nat.le_of_ble_eq_true rfl) ?_
  refine r_ishl dX4_plan_17 ?_
  refine r_istore dX4_plan_18 (by decide) rfl ?_
  refine r_aload_n dX4_plan_20 rfl ?_
  refine r_getA dX4_plan_21 fX4_18 rfl uX4_1 ?_
  refine r_iconst dX4_plan_24 (by decide) ?_
  refine r_aload_n dX4_plan_25 rfl ?_
  refine r_getA dX4_plan_26 fX4_18 rfl uX4_1 ?_
  refine s_alen dX4_plan_29 rfl uX4_1 aX4_1 (by decide) ?_
  refine r_iload dX4_plan_30 rfl ?_
  refine r_bipush dX4_plan_32 (by decide) (by decide) ?_
  refine r_imul dX4_plan_34 ?_
  refine r_min dX4_plan_35 lX4_34 wmin2 wmath wmin4 (Nat.le_of_ble_eq_true rfl) ?_
  refine r_ldc (z := 1000000) dX4_plan_38 kX4_40 (by decide) (by decide) ?_
  refine r_callSV (md' := mJ7_fill_fda19) (as := [vA 12 1, vI 0, vI (if wr ((bShl 1 (if 10 < M (o1 + 3) 1 0 then 10 else M (o1 + 3) 1 0)) * 20) < 20480 then wr ((bShl 1 (if 10 < M (o1 + 3) 1 0 then 10 else M (o1 + 3) 1 0)) * 20) else 20480), vI 1000000]) dX4_plan_40 lX4_41 iJ7_fill_fda19 rfl rfl (Nat.le_of_ble_eq_true rfl) T (fun M1 T => ?_)
  refine r_aload_n dX4_plan_43 rfl ?_
  refine r_iconst dX4_plan_44 (by decide) ?_
  refine n_put dX4_plan_45 pX4_47 rfl tX4_2 (fun M2 hM2 => ?_)
  have T := T M2 hM2
  refine r_iconst dX4_plan_48 (by decide) ?_
  refine r_istore dX4_plan_49 (by decide) rfl ?_
  exact T
set_option maxRecDepth 20000 in
set_option maxHeartbeats 1000000 in
theorem bX4_plan_51 {G : Gx} {K : Kx} {n : Nat} {M : Mem} {Q : Mem → Prop} {o1 : Nat} {x2 : Int} {x3 : Int} {x4 : Int} {x6 : Int} {x7 : Int}  (T : (x6 ≤ x7 → Q M) ∧ (¬ (x6 ≤ x7) → OkV G n mX5_clear [vO 13] M (fun M1 => (¬ x7 = 0 → OkI G n mX4_layOut [vO 12, vO (o1 + 3), vI x7] M1 (fun r_1 M2 => CW G K mX4_plan (n + 1) 106 [some (vO 12), some (vO o1), some (vI x2), some (vI x3), some (vI x4), some (vO (o1 + 3)), some (vI x6), some (vI x7), some (vI r_1)] [] M2 (qV Q))) ∧ (x7 = 0 → (x4 = 0 → OkI G n mX5_put [vO 13, vI x2, vI 1, vI x3] M1 (fun r_2 M3 => CW G K mX4_plan (n + 1) 106 [some (vO 12), some (vO o1), some (vI x2), some (vI x3), some (vI x4), some (vO (o1 + 3)), some (vI x6), some (vI x7), some (vI x3)] [] M3 (qV Q))) ∧ (¬ (x4 = 0) → OkI G n mX5_put [vO 13, vI x2, vI 0, vI x3] M1 (fun r_3 M4 => CW G K mX4_plan (n + 1) 106 [some (vO 12), some (vO o1), some (vI x2), some (vI x3), some (vI x4), some (vO (o1 + 3)), some (vI x6), some (vI x7), some (vI x3)] [] M4 (qV Q))))))) : CW G K mX4_plan (n + 1) 51 [some (vO 12), some (vO o1), some (vI x2), some (vI x3), some (vI x4), some (vO (o1 + 3)), some (vI x6), some (vI x7), none] [] M (qV Q) := by
  refine r_iload dX4_plan_51 rfl ?_
  refine r_iload dX4_plan_53 rfl ?_
  refine r_icmp_ge (tgt := 149) dX4_plan_55 (by decide) (fun h_3 => ?_) (fun h_3 => ?_)
  · have T := T.1 h_3
    exact r_return dX4_plan_149 rfl ⟨rfl, T⟩
  · have T := T.2 h_3
    refine r_aload_n dX4_plan_58 rfl ?_
    refine r_getO (o' := 13) dX4_plan_59 fX4_12 rfl tX4_0 rfl ?_
    refine r_callVV (md' := mX5_clear) (as := []) dX4_plan_62 lX4_50 iX5_clear rfl rfl rfl (Nat.le_of_ble_eq_true rfl) T (fun M1 T => ?_)
    refine r_iload_n dX4_plan_65 rfl ?_
    refine r_istore dX4_plan_66 (by decide) rfl ?_
    refine r_iload dX4_plan_68 rfl ?_
    refine r_if_ne (tgt := 96) dX4_plan_70 (by decide) (fun h_2 => ?_) (fun h_2 => ?_)
    · have T := T.1 h_2
      refine r_aload_n dX4_plan_96 rfl ?_
      refine r_aload dX4_plan_97 rfl ?_
      refine r_iload dX4_plan_99 rfl ?_
      refine r_callVI (md' := mX4_layOut) (as := [vO (o1 + 3), vI x7]) dX4_plan_101 lX4_57 iX4_layOut rfl rfl rfl (Nat.le_of_ble_eq_true rfl) T (fun r_1 M2 T => ?_)
      refine r_istore dX4_plan_104 (by decide) rfl ?_
      exact T
    · have T := T.2 h_2
      refine r_aload_n dX4_plan_73 rfl ?_
      refine r_getO (o' := 13) dX4_plan_74 fX4_12 rfl tX4_0 rfl ?_
      refine r_iload_n dX4_plan_77 rfl ?_
      refine r_iload dX4_plan_78 rfl ?_
      refine r_if_eq (tgt := 87) dX4_plan_80 (by decide) (fun h_1 => ?_) (fun h_1 => ?_)
      · have T := T.1 h_1
        refine r_iconst dX4_plan_87 (by decide) ?_
        refine r_iload_n dX4_plan_88 rfl ?_
        refine r_callVI (md' := mX5_put) (as := [vI x2, vI 1, vI x3]) dX4_plan_89 lX4_53 iX5_put rfl rfl rfl (Nat.le_of_ble_eq_true rfl) T (fun r_2 M3 T => ?_)
        refine r_pop dX4_plan_92 rfl ?_
        refine r_goto (tgt := 106) dX4_plan_93 (by decide) ?_
        exact T
      · have T := T.2 h_1
        refine r_iconst dX4_plan_83 (by decide) ?_
        refine r_goto (tgt := 88) dX4_plan_84 (by decide) ?_
        refine r_iload_n dX4_plan_88 rfl ?_
        refine r_callVI (md' := mX5_put) (as := [vI x2, vI 0, vI x3]) dX4_plan_89 lX4_53 iX5_put rfl rfl rfl (Nat.le_of_ble_eq_true rfl) T (fun r_3 M4 T => ?_)
        refine r_pop dX4_plan_92 rfl ?_
        refine r_goto (tgt := 106) dX4_plan_93 (by decide) ?_
        exact T
set_option maxRecDepth 20000 in
set_option maxHeartbeats 1000000 in
theorem bX4_plan_106 {G : Gx} {K : Kx} {n : Nat} {M : Mem} {Q : Mem → Prop} {o1 : Nat} {x2 : Int} {x3 : Int} {x4 : Int} {x6 : Int} {x7 : Int} {x8 : Int} (h0 : oc o1 = 8) (T : (1439 < x8 → CW G K mX4_plan (n + 1) 51 [some (vO 12), some (vO o1), some (vI x2), some (vI x3), some (vI x4), some (vO (o1 + 3)), some (vI x6), some (vI (wr (x7 + 1))), none] [] M (qV Q)) ∧ (¬ (1439 < x8) → OkV G n mX4_weigh [vO 12, vO (o1 + 3), vI x7, vI x8] M (fun M1 => OkV G n mX5_spread [vO 13, vO (o1 + 1)] M1 (fun M2 => OkV G n mX4_goOn [vO 12, vO (o1 + 3), vI x7] M2 (fun M3 => CW G K mX4_plan (n + 1) 51 [some (vO 12), some (vO o1), some (vI x2), some (vI x3), some (vI x4), some (vO (o1 + 3)), some (vI x6), some (vI (wr (x7 + 1))), none] [] M3 (qV Q)))))) : CW G K mX4_plan (n + 1) 106 [some (vO 12), some (vO o1), some (vI x2), some (vI x3), some (vI x4), some (vO (o1 + 3)), some (vI x6), some (vI x7), some (vI x8)] [] M (qV Q) := by
  refine r_iload dX4_plan_106 rfl ?_
  refine r_sipush dX4_plan_108 (by decide) (by decide) ?_
  refine r_icmp_gt (tgt := 143) dX4_plan_111 (by decide) (fun h_1 => ?_) (fun h_1 => ?_)
  · have T := T.1 h_1
    refine r_iinc dX4_plan_143 rfl (by decide) rfl ?_
    refine r_goto (tgt := 51) dX4_plan_146 (by decide) ?_
    exact CW_msk [true, true, true, true, true, true, true, true, false] rfl T
  · have T := T.2 h_1
    refine r_aload_n dX4_plan_114 rfl ?_
    refine r_aload dX4_plan_115 rfl ?_
    refine r_iload dX4_plan_117 rfl ?_
    refine r_iload dX4_plan_119 rfl ?_
    refine r_callVV (md' := mX4_weigh) (as := [vO (o1 + 3), vI x7, vI x8]) dX4_plan_121 lX4_61 iX4_weigh rfl rfl rfl (Nat.le_of_ble_eq_true rfl) T (fun M1 T => ?_)
    refine r_aload_n dX4_plan_124 rfl ?_
    refine r_getO (o' := 13) dX4_plan_125 fX4_12 rfl tX4_0 rfl ?_
    refine r_aload_n dX4_plan_128 rfl ?_
    refine r_getO (o' := o1 + 1) dX4_plan_129 fX4_65 h0 tX8_0 (by simp [lk, h0]) ?_
    refine r_callVV (md' := mX5_spread) (as := [vO (o1 + 1)]) dX4_plan_132 lX4_69 iX5_spread rfl rfl rfl (Nat.le_of_ble_eq_true rfl) T (fun M2 T => ?_)
    refine r_aload_n dX4_plan_135 rfl ?_
    refine r_aload dX4_plan_136 rfl ?_
    refine r_iload dX4_plan_138 rfl ?_
    refine r_callVV (md' := mX4_goOn) (as := [vO (o1 + 3), vI x7]) dX4_plan_140 lX4_73 iX4_goOn rfl rfl rfl (Nat.le_of_ble_eq_true rfl) T (fun M3 T => ?_)
    refine r_iinc dX4_plan_143 rfl (by decide) rfl ?_
    refine r_goto (tgt := 51) dX4_plan_146 (by decide) ?_
    exact CW_msk [true, true, true, true, true, true, true, true, false] rfl T
theorem eX4_plan {G : Gx} {n : Nat} {M : Mem} {Q : Mem → Prop} {o1 : Nat} {x2 : Int} {x3 : Int} {x4 : Int} (h : ∀ K : Kx, CW G K mX4_plan n 0 [some (vO 12), some (vO o1), some (vI x2), some (vI x3), some (vI x4), none, none, none, none] [] M (qV Q)) : OkV G n mX4_plan [vO 12, vO o1, vI x2, vI x3, vI x4] M Q := Ok_of (by decide) (Nat.le_of_ble_eq_true rfl) rfl h
-- DownOnly$Planner layOut (LDownOnly$Lists;I)I
set_option maxRecDepth 20000 in
set_option maxHeartbeats 1000000 in
theorem bX4_layOut_0 {G : Gx} {K : Kx} {n : Nat} {M : Mem} {Q : Int → Mem → Prop} {o1 : Nat} {x2 : Int}  (T : CW G K mX4_layOut (n + 1) 6 [some (vO 12), some (vO o1), some (vI x2), some (vI 1000000), some (vI 0), none, none] [] M (qI Q)) : CW G K mX4_layOut (n + 1) 0 [some (vO 12), some (vO o1), some (vI x2), none, none, none, none] [] M (qI Q) := by
  refine r_ldc (z := 1000000) dX4_layOut_0 kX4_40 (by decide) (by decide) ?_
  refine r_istore_n dX4_layOut_2 (by decide) rfl ?_
  refine r_iconst dX4_layOut_3 (by decide) ?_
  refine r_istore dX4_layOut_4 (by decide) rfl ?_
  exact T
set_option maxRecDepth 20000 in
set_option maxHeartbeats 1000000 in
theorem bX4_layOut_6 {G : Gx} {K : Kx} {n : Nat} {M : Mem} {Q : Int → Mem → Prop} {o1 : Nat} {x2 : Int} {x3 : Int} {x4 : Int} (h0 : oc o1 = 3) (T : (20 ≤ x4 → Q x3 M) ∧ (¬ (20 ≤ x4) → (wr (wr (x2 * 20) + x4) < 0 → CW G K mX4_layOut (n + 1) 6 [some (vO 12), some (vO o1), some (vI x2), some (vI x3), some (vI (wr (x4 + 1))), none, none] [] M (qI Q)) ∧ (¬ (wr (wr (x2 * 20) + x4) < 0) → (20480 ≤ wr (wr (x2 * 20) + x4) → CW G K mX4_layOut (n + 1) 6 [some (vO 12), some (vO o1), some (vI x2), some (vI x3), some (vI (wr (x4 + 1))), none, none] [] M (qI Q)) ∧ (¬ (20480 ≤ wr (wr (x2 * 20) + x4)) → (0 ≤ wr (wr (x2 * 20) + x4) ∧ wr (wr (x2 * 20) + x4) < 20480) ∧ ((1439 < M 12 1 (wr (wr (x2 * 20) + x4)).toNat → CW G K mX4_layOut (n + 1) 6 [some (vO 12), some (vO o1), some (vI x2), some (vI x3), some (vI (wr (x4 + 1))), none, none] [] M (qI Q)) ∧ (¬ (1439 < M 12 1 (wr (wr (x2 * 20) + x4)).toNat) → (0 ≤ wr (Int.tdiv x4 2) ∧ wr (Int.tdiv x4 2) < 10) ∧ ((0 ≤ wr (wr (x2 * 20) + x4) ∧ wr (wr (x2 * 20) + x4) < 20480) ∧ (OkI G n mX5_put [vO 13, vI (M o1 5 (wr (Int.tdiv x4 2)).toNat), vI (wr (Int.tmod x4 2)), vI (M 12 1 (wr (wr (x2 * 20) + x4)).toNat)] M (fun r_1 M1 => (0 ≤ wr (wr (x2 * 20) + x4) ∧ wr (wr (x2 * 20) + x4) < 20480) ∧ (CW G K mX4_layOut (n + 1) 6 [some (vO 12), some (vO o1), some (vI x2), some (vI (if M1 12 1 (wr (wr (x2 * 20) + x4)).toNat < x3 then M1 12 1 (wr (wr (x2 * 20) + x4)).toNat else x3)), some (vI (wr (x4 + 1))), none, none] [] M1 (qI Q))))))))))) : CW G K mX4_layOut (n + 1) 6 [some (vO 12), some (vO o1), some (vI x2), some (vI x3), some (vI x4), none, none] [] M (qI Q) := by
  refine r_iload dX4_layOut_6 rfl ?_
  refine r_bipush dX4_layOut_8 (by decide) (by decide) ?_
  refine r_icmp_ge (tgt := 100) dX4_layOut_10 (by decide) (fun h_4 => ?_) (fun h_4 => ?_)
  · have T := T.1 h_4
    refine r_iload_n dX4_layOut_100 rfl ?_
    exact r_ireturn dX4_layOut_101 rfl ⟨_, rfl, T⟩
  · have T := T.2 h_4
    refine r_iload_n dX4_layOut_13 rfl ?_
    refine r_bipush dX4_layOut_14 (by decide) (by decide) ?_
    refine r_imul dX4_layOut_16 ?_
    refine r_iload dX4_layOut_17 rfl ?_
    refine r_iadd dX4_layOut_19 ?_
    refine r_istore dX4_layOut_20 (by decide) rfl ?_
    refine r_iload dX4_layOut_22 rfl ?_
    refine r_iconst dX4_layOut_24 (by decide) ?_
    refine r_idiv dX4_layOut_25 (by decide) ?_
    refine r_istore dX4_layOut_26 (by decide) rfl ?_
    refine r_iload dX4_layOut_28 rfl ?_
    refine r_if_lt (tgt := 94) dX4_layOut_30 (by decide) (fun h_3 => ?_) (fun h_3 => ?_)
    · have T := T.1 h_3
      refine r_iinc dX4_layOut_94 rfl (by decide) rfl ?_
      refine r_goto (tgt := 6) dX4_layOut_97 (by decide) ?_
      exact CW_msk [true, true, true, true, true, false, false] rfl T
    · have T := T.2 h_3
      refine r_iload dX4_layOut_33 rfl ?_
      refine r_aload_n dX4_layOut_35 rfl ?_
      refine r_getA dX4_layOut_36 fX4_18 rfl uX4_1 ?_
      refine s_alen dX4_layOut_39 rfl uX4_1 aX4_1 (by decide) ?_
      refine r_icmp_ge (tgt := 94) dX4_layOut_40 (by decide) (fun h_2 => ?_) (fun h_2 => ?_)
      · have T := T.1 h_2
        refine r_iinc dX4_layOut_94 rfl (by decide) rfl ?_
        refine r_goto (tgt := 6) dX4_layOut_97 (by decide) ?_
        exact CW_msk [true, true, true, true, true, false, false] rfl T
      · have T := T.2 h_2
        refine r_aload_n dX4_layOut_43 rfl ?_
        refine r_getA dX4_layOut_44 fX4_18 rfl uX4_1 ?_
        refine r_iload dX4_layOut_47 rfl ?_
        refine s_iald dX4_layOut_49 rfl tX4_1 aX4_1 T.1 ?_
        have T := T.2
        refine r_sipush dX4_layOut_50 (by decide) (by decide) ?_
        refine r_icmp_gt (tgt := 94) dX4_layOut_53 (by decide) (fun h_1 => ?_) (fun h_1 => ?_)
        · have T := T.1 h_1
          refine r_iinc dX4_layOut_94 rfl (by decide) rfl ?_
          refine r_goto (tgt := 6) dX4_layOut_97 (by decide) ?_
          exact CW_msk [true, true, true, true, true, false, false] rfl T
        · have T := T.2 h_1
          refine r_aload_n dX4_layOut_56 rfl ?_
          refine r_getO (o' := 13) dX4_layOut_57 fX4_12 rfl tX4_0 rfl ?_
          refine r_aload_n dX4_layOut_60 rfl ?_
          refine r_getA dX4_layOut_61 fX4_77 h0 uX3_5 ?_
          refine r_iload dX4_layOut_64 rfl ?_
          refine s_iald dX4_layOut_66 h0 tX3_5 aX3_5 T.1 ?_
          have T := T.2
          refine r_iload dX4_layOut_67 rfl ?_
          refine r_iconst dX4_layOut_69 (by decide) ?_
          refine r_irem dX4_layOut_70 (by decide) ?_
          refine r_aload_n dX4_layOut_71 rfl ?_
          refine r_getA dX4_layOut_72 fX4_18 rfl uX4_1 ?_
          refine r_iload dX4_layOut_75 rfl ?_
          refine s_iald dX4_layOut_77 rfl tX4_1 aX4_1 T.1 ?_
          have T := T.2
          refine r_callVI (md' := mX5_put) (as := [vI (M o1 5 (wr (Int.tdiv x4 2)).toNat), vI (wr (Int.tmod x4 2)), vI (M 12 1 (wr (wr (x2 * 20) + x4)).toNat)]) dX4_layOut_78 lX4_53 iX5_put rfl rfl rfl (Nat.le_of_ble_eq_true rfl) T (fun r_1 M1 T => ?_)
          refine r_pop dX4_layOut_81 rfl ?_
          refine r_iload_n dX4_layOut_82 rfl ?_
          refine r_aload_n dX4_layOut_83 rfl ?_
          refine r_getA dX4_layOut_84 fX4_18 rfl uX4_1 ?_
          refine r_iload dX4_layOut_87 rfl ?_
          refine s_iald dX4_layOut_89 rfl tX4_1 aX4_1 T.1 ?_
          have T := T.2
          refine r_min dX4_layOut_90 lX4_34 wmin2 wmath wmin4 (Nat.le_of_ble_eq_true rfl) ?_
          refine r_istore_n dX4_layOut_93 (by decide) rfl ?_
          refine r_iinc dX4_layOut_94 rfl (by decide) rfl ?_
          refine r_goto (tgt := 6) dX4_layOut_97 (by decide) ?_
          exact CW_msk [true, true, true, true, true, false, false] rfl T
theorem eX4_layOut {G : Gx} {n : Nat} {M : Mem} {Q : Int → Mem → Prop} {o1 : Nat} {x2 : Int} (h : ∀ K : Kx, CW G K mX4_layOut n 0 [some (vO 12), some (vO o1), some (vI x2), none, none, none, none] [] M (qI Q)) : OkI G n mX4_layOut [vO 12, vO o1, vI x2] M Q := Ok_of (by decide) (Nat.le_of_ble_eq_true rfl) rfl h
-- DownOnly$Planner weigh (LDownOnly$Lists;II)V
set_option maxRecDepth 20000 in
set_option maxHeartbeats 1000000 in
theorem bX4_weigh_0 {G : Gx} {K : Kx} {n : Nat} {M : Mem} {Q : Mem → Prop} {o1 : Nat} {x2 : Int} {x3 : Int}  (T : CW G K mX4_weigh n 6 [some (vO 12), some (vO o1), some (vI x2), some (vI x3), some (vI 0), some (vI 0)] [] M (qV Q)) : CW G K mX4_weigh n 0 [some (vO 12), some (vO o1), some (vI x2), some (vI x3), none, none] [] M (qV Q) := by
  refine r_iconst dX4_weigh_0 (by decide) ?_
  refine r_istore dX4_weigh_1 (by decide) rfl ?_
  refine r_iconst dX4_weigh_3 (by decide) ?_
  refine r_istore dX4_weigh_4 (by decide) rfl ?_
  exact T
set_option maxRecDepth 20000 in
set_option maxHeartbeats 1000000 in
theorem bX4_weigh_6 {G : Gx} {K : Kx} {n : Nat} {M : Mem} {Q : Mem → Prop} {o1 : Nat} {x2 : Int} {x3 : Int} {x4 : Int} {x5 : Int} (h0 : oc o1 = 3) (T : (M o1 1 0 ≤ x5 → CW G K mX4_weigh n 47 [some (vO 12), none, some (vI x2), some (vI x3), some (vI x4), none] [] M (qV Q)) ∧ (¬ (M o1 1 0 ≤ x5) → (10 ≤ x5 → CW G K mX4_weigh n 47 [some (vO 12), none, some (vI x2), some (vI x3), some (vI x4), none] [] M (qV Q)) ∧ (¬ (10 ≤ x5) → (0 ≤ x5 ∧ x5 < 10) ∧ (CW G K mX4_weigh n 6 [some (vO 12), some (vO o1), some (vI x2), some (vI x3), some (vI (wr (x4 + (wr ((bAnd (bShr x2 x5) 1) * (M o1 8 x5.toNat)))))), some (vI (wr (x5 + 1)))] [] M (qV Q))))) : CW G K mX4_weigh n 6 [some (vO 12), some (vO o1), some (vI x2), some (vI x3), some (vI x4), some (vI x5)] [] M (qV Q) := by
  refine r_iload dX4_weigh_6 rfl ?_
  refine r_aload_n dX4_weigh_8 rfl ?_
  refine r_getI dX4_weigh_9 fX4_28 h0 tX3_1 ?_
  refine r_icmp_ge (tgt := 47) dX4_weigh_12 (by decide) (fun h_2 => ?_) (fun h_2 => ?_)
  · have T := T.1 h_2
    exact CW_msk [true, false, true, true, true, false] rfl T
  · have T := T.2 h_2
    refine r_iload dX4_weigh_15 rfl ?_
    refine r_bipush dX4_weigh_17 (by decide) (by decide) ?_
    refine r_icmp_ge (tgt := 47) dX4_weigh_19 (by decide) (fun h_1 => ?_) (fun h_1 => ?_)
    · have T := T.1 h_1
      exact CW_msk [true, false, true, true, true, false] rfl T
    · have T := T.2 h_1
      refine r_iload dX4_weigh_22 rfl ?_
      refine r_iload_n dX4_weigh_24 rfl ?_
      refine r_iload dX4_weigh_25 rfl ?_
      refine r_ishr dX4_weigh_27 ?_
      refine r_iconst dX4_weigh_28 (by decide) ?_
      refine r_iand dX4_weigh_29 ?_
      refine r_aload_n dX4_weigh_30 rfl ?_
      refine r_getA dX4_weigh_31 fX4_80 h0 uX3_8 ?_
      refine r_iload dX4_weigh_34 rfl ?_
      refine s_iald dX4_weigh_36 h0 tX3_8 aX3_8 T.1 ?_
      have T := T.2
      refine r_imul dX4_weigh_37 ?_
      refine r_iadd dX4_weigh_38 ?_
      refine r_istore dX4_weigh_39 (by decide) rfl ?_
      refine r_iinc dX4_weigh_41 rfl (by decide) rfl ?_
      refine r_goto (tgt := 6) dX4_weigh_44 (by decide) ?_
      exact T
set_option maxRecDepth 20000 in
set_option maxHeartbeats 1000000 in
theorem bX4_weigh_47 {G : Gx} {K : Kx} {n : Nat} {M : Mem} {Q : Mem → Prop}  {x2 : Int} {x3 : Int} {x4 : Int}  (T : (M 12 2 0 < x4 → ∀ M1 : Mem, M1 = mset M 12 2 0 x4 → ∀ M2 : Mem, M2 = mset M1 12 3 0 x2 → ∀ M3 : Mem, M3 = mset M2 12 4 0 x3 → Q M3) ∧ (¬ (M 12 2 0 < x4) → (¬ x4 = M 12 2 0 → Q M) ∧ (x4 = M 12 2 0 → (M 12 4 0 ≤ x3 → Q M) ∧ (¬ (M 12 4 0 ≤ x3) → ∀ M4 : Mem, M4 = mset M 12 2 0 x4 → ∀ M5 : Mem, M5 = mset M4 12 3 0 x2 → ∀ M6 : Mem, M6 = mset M5 12 4 0 x3 → Q M6)))) : CW G K mX4_weigh n 47 [some (vO 12), none, some (vI x2), some (vI x3), some (vI x4), none] [] M (qV Q) := by
  refine r_iload dX4_weigh_47 rfl ?_
  refine r_aload_n dX4_weigh_49 rfl ?_
  refine r_getI dX4_weigh_50 fX4_47 rfl tX4_2 ?_
  refine r_icmp_gt (tgt := 73) dX4_weigh_53 (by decide) (fun h_3 => ?_) (fun h_3 => ?_)
  · have T := T.1 h_3
    refine r_aload_n dX4_weigh_73 rfl ?_
    refine r_iload dX4_weigh_74 rfl ?_
    refine n_put dX4_weigh_76 pX4_47 rfl tX4_2 (fun M1 hM1 => ?_)
    have T := T M1 hM1
    refine r_aload_n dX4_weigh_79 rfl ?_
    refine r_iload_n dX4_weigh_80 rfl ?_
    refine n_put dX4_weigh_81 pX4_86 rfl tX4_3 (fun M2 hM2 => ?_)
    have T := T M2 hM2
    refine r_aload_n dX4_weigh_84 rfl ?_
    refine r_iload_n dX4_weigh_85 rfl ?_
    refine n_put dX4_weigh_86 pX4_83 rfl tX4_4 (fun M3 hM3 => ?_)
    have T := T M3 hM3
    exact r_return dX4_weigh_89 rfl ⟨rfl, T⟩
  · have T := T.2 h_3
    refine r_iload dX4_weigh_56 rfl ?_
    refine r_aload_n dX4_weigh_58 rfl ?_
    refine r_getI dX4_weigh_59 fX4_47 rfl tX4_2 ?_
    refine r_icmp_ne (tgt := 89) dX4_weigh_62 (by decide) (fun h_2 => ?_) (fun h_2 => ?_)
    · have T := T.1 h_2
      exact r_return dX4_weigh_89 rfl ⟨rfl, T⟩
    · have T := T.2 h_2
      refine r_iload_n dX4_weigh_65 rfl ?_
      refine r_aload_n dX4_weigh_66 rfl ?_
      refine r_getI dX4_weigh_67 fX4_83 rfl tX4_4 ?_
      refine r_icmp_ge (tgt := 89) dX4_weigh_70 (by decide) (fun h_1 => ?_) (fun h_1 => ?_)
      · have T := T.1 h_1
        exact r_return dX4_weigh_89 rfl ⟨rfl, T⟩
      · have T := T.2 h_1
        refine r_aload_n dX4_weigh_73 rfl ?_
        refine r_iload dX4_weigh_74 rfl ?_
        refine n_put dX4_weigh_76 pX4_47 rfl tX4_2 (fun M4 hM4 => ?_)
        have T := T M4 hM4
        refine r_aload_n dX4_weigh_79 rfl ?_
        refine r_iload_n dX4_weigh_80 rfl ?_
        refine n_put dX4_weigh_81 pX4_86 rfl tX4_3 (fun M5 hM5 => ?_)
        have T := T M5 hM5
        refine r_aload_n dX4_weigh_84 rfl ?_
        refine r_iload_n dX4_weigh_85 rfl ?_
        refine n_put dX4_weigh_86 pX4_83 rfl tX4_4 (fun M6 hM6 => ?_)
        have T := T M6 hM6
        exact r_return dX4_weigh_89 rfl ⟨rfl, T⟩
theorem eX4_weigh {G : Gx} {n : Nat} {M : Mem} {Q : Mem → Prop} {o1 : Nat} {x2 : Int} {x3 : Int} (h : ∀ K : Kx, CW G K mX4_weigh n 0 [some (vO 12), some (vO o1), some (vI x2), some (vI x3), none, none] [] M (qV Q)) : OkV G n mX4_weigh [vO 12, vO o1, vI x2, vI x3] M Q := Ok_of (by decide) (Nat.le_of_ble_eq_true rfl) rfl h
-- DownOnly$Planner goOn (LDownOnly$Lists;I)V
set_option maxRecDepth 20000 in
set_option maxHeartbeats 1000000 in
theorem bX4_goOn_0 {G : Gx} {K : Kx} {n : Nat} {M : Mem} {Q : Mem → Prop} {o1 : Nat} {x2 : Int}  (T : CW G K mX4_goOn (n + 1) 2 [some (vO 12), some (vO o1), some (vI x2), some (vI 0), none, none, none] [] M (qV Q)) : CW G K mX4_goOn (n + 1) 0 [some (vO 12), some (vO o1), some (vI x2), none, none, none, none] [] M (qV Q) := by
  refine r_iconst dX4_goOn_0 (by decide) ?_
  refine r_istore_n dX4_goOn_1 (by decide) rfl ?_
  exact T
set_option maxRecDepth 20000 in
set_option maxHeartbeats 1000000 in
theorem bX4_goOn_2 {G : Gx} {K : Kx} {n : Nat} {M : Mem} {Q : Mem → Prop} {o1 : Nat} {x2 : Int} {x3 : Int} (h0 : oc o1 = 3) (T : (20 ≤ x3 → Q M) ∧ (¬ (20 ≤ x3) → (M o1 1 0 ≤ wr (Int.tdiv x3 2) → CW G K mX4_goOn (n + 1) 2 [some (vO 12), some (vO o1), some (vI x2), some (vI (wr (x3 + 1))), none, none, none] [] M (qV Q)) ∧ (¬ (M o1 1 0 ≤ wr (Int.tdiv x3 2)) → (¬ bAnd (bShr x2 (wr (Int.tdiv x3 2))) 1 = 0 → CW G K mX4_goOn (n + 1) 2 [some (vO 12), some (vO o1), some (vI x2), some (vI (wr (x3 + 1))), none, none, none] [] M (qV Q)) ∧ (bAnd (bShr x2 (wr (Int.tdiv x3 2))) 1 = 0 → (0 ≤ wr (Int.tdiv x3 2) ∧ wr (Int.tdiv x3 2) < 10) ∧ (OkI G n mX5_get [vO 13, vI (M o1 5 (wr (Int.tdiv x3 2)).toNat), vI (wr (Int.tmod x3 2))] M (fun r_1 M1 => (0 ≤ wr (Int.tdiv x3 2) ∧ wr (Int.tdiv x3 2) < 10) ∧ ((0 ≤ wr (Int.tdiv x3 2) ∧ wr (Int.tdiv x3 2) < 10) ∧ ((M1 o1 7 (wr (Int.tdiv x3 2)).toNat < (if r_1 < M1 o1 6 (wr (Int.tdiv x3 2)).toNat then M1 o1 6 (wr (Int.tdiv x3 2)).toNat else r_1) → CW G K mX4_goOn (n + 1) 2 [some (vO 12), some (vO o1), some (vI x2), some (vI (wr (x3 + 1))), none, none, none] [] M1 (qV Q)) ∧ (¬ (M1 o1 7 (wr (Int.tdiv x3 2)).toNat < (if r_1 < M1 o1 6 (wr (Int.tdiv x3 2)).toNat then M1 o1 6 (wr (Int.tdiv x3 2)).toNat else r_1)) → (wr (wr ((bOr x2 (bShl 1 (wr (Int.tdiv x3 2)))) * 20) + x3) < 0 → CW G K mX4_goOn (n + 1) 2 [some (vO 12), some (vO o1), some (vI x2), some (vI (wr (x3 + 1))), none, none, none] [] M1 (qV Q)) ∧ (¬ (wr (wr ((bOr x2 (bShl 1 (wr (Int.tdiv x3 2)))) * 20) + x3) < 0) → (20480 ≤ wr (wr ((bOr x2 (bShl 1 (wr (Int.tdiv x3 2)))) * 20) + x3) → CW G K mX4_goOn (n + 1) 2 [some (vO 12), some (vO o1), some (vI x2), some (vI (wr (x3 + 1))), none, none, none] [] M1 (qV Q)) ∧ (¬ (20480 ≤ wr (wr ((bOr x2 (bShl 1 (wr (Int.tdiv x3 2)))) * 20) + x3)) → (0 ≤ wr (wr ((bOr x2 (bShl 1 (wr (Int.tdiv x3 2)))) * 20) + x3) ∧ wr (wr ((bOr x2 (bShl 1 (wr (Int.tdiv x3 2)))) * 20) + x3) < 20480) ∧ ((0 ≤ wr (wr ((bOr x2 (bShl 1 (wr (Int.tdiv x3 2)))) * 20) + x3) ∧ wr (wr ((bOr x2 (bShl 1 (wr (Int.tdiv x3 2)))) * 20) + x3) < 20480) ∧ (∀ M2 : Mem, M2 = mset M1 12 1 (wr (wr ((bOr x2 (bShl 1 (wr (Int.tdiv x3 2)))) * 20) + x3)).toNat (if (if r_1 < M1 o1 6 (wr (Int.tdiv x3 2)).toNat then M1 o1 6 (wr (Int.tdiv x3 2)).toNat else r_1) < M1 12 1 (wr (wr ((bOr x2 (bShl 1 (wr (Int.tdiv x3 2)))) * 20) + x3)).toNat then (if r_1 < M1 o1 6 (wr (Int.tdiv x3 2)).toNat then M1 o1 6 (wr (Int.tdiv x3 2)).toNat else r_1) else M1 12 1 (wr (wr ((bOr x2 (bShl 1 (wr (Int.tdiv x3 2)))) * 20) + x3)).toNat) → CW G K mX4_goOn (n + 1) 2 [some (vO 12), some (vO o1), some (vI x2), some (vI (wr (x3 + 1))), none, none, none] [] M2 (qV Q)))))))))))))) : CW G K mX4_goOn (n + 1) 2 [some (vO 12), some (vO o1), some (vI x2), some (vI x3), none, none, none] [] M (qV Q) := by
  refine r_iload_n dX4_goOn_2 rfl ?_
  refine r_bipush dX4_goOn_3 (by decide) (by decide) ?_
  refine r_icmp_ge (tgt := 125) dX4_goOn_5 (by decide) (fun h_6 => ?_) (fun h_6 => ?_)
  · have T := T.1 h_6
    exact r_return dX4_goOn_125 rfl ⟨rfl, T⟩
  · have T := T.2 h_6
    refine r_iload_n dX4_goOn_8 rfl ?_
    refine r_iconst dX4_goOn_9 (by decide) ?_
    refine r_idiv dX4_goOn_10 (by decide) ?_
    refine r_istore dX4_goOn_11 (by decide) rfl ?_
    refine r_iload dX4_goOn_13 rfl ?_
    refine r_aload_n dX4_goOn_15 rfl ?_
    refine r_getI dX4_goOn_16 fX4_28 h0 tX3_1 ?_
    refine r_icmp_ge (tgt := 119) dX4_goOn_19 (by decide) (fun h_5 => ?_) (fun h_5 => ?_)
    · have T := T.1 h_5
      refine r_iinc dX4_goOn_119 rfl (by decide) rfl ?_
      refine r_goto (tgt := 2) dX4_goOn_122 (by decide) ?_
      exact CW_msk [true, true, true, true, false, false, false] rfl T
    · have T := T.2 h_5
      refine r_iload_n dX4_goOn_22 rfl ?_
      refine r_iload dX4_goOn_23 rfl ?_
      refine r_ishr dX4_goOn_25 ?_
      refine r_iconst dX4_goOn_26 (by decide) ?_
      refine r_iand dX4_goOn_27 ?_
      refine r_if_ne (tgt := 119) dX4_goOn_28 (by decide) (fun h_4 => ?_) (fun h_4 => ?_)
      · have T := T.1 h_4
        refine r_iinc dX4_goOn_119 rfl (by decide) rfl ?_
        refine r_goto (tgt := 2) dX4_goOn_122 (by decide) ?_
        exact CW_msk [true, true, true, true, false, false, false] rfl T
      · have T := T.2 h_4
        refine r_aload_n dX4_goOn_31 rfl ?_
        refine r_getO (o' := 13) dX4_goOn_32 fX4_12 rfl tX4_0 rfl ?_
        refine r_aload_n dX4_goOn_35 rfl ?_
        refine r_getA dX4_goOn_36 fX4_77 h0 uX3_5 ?_
        refine r_iload dX4_goOn_39 rfl ?_
        refine s_iald dX4_goOn_41 h0 tX3_5 aX3_5 T.1 ?_
        have T := T.2
        refine r_iload_n dX4_goOn_42 rfl ?_
        refine r_iconst dX4_goOn_43 (by decide) ?_
        refine r_irem dX4_goOn_44 (by decide) ?_
        refine r_callVI (md' := mX5_get) (as := [vI (M o1 5 (wr (Int.tdiv x3 2)).toNat), vI (wr (Int.tmod x3 2))]) dX4_goOn_45 lX4_89 iX5_get rfl rfl rfl (Nat.le_of_ble_eq_true rfl) T (fun r_1 M1 T => ?_)
        refine r_aload_n dX4_goOn_48 rfl ?_
        refine r_getA dX4_goOn_49 fX4_92 h0 uX3_6 ?_
        refine r_iload dX4_goOn_52 rfl ?_
        refine s_iald dX4_goOn_54 h0 tX3_6 aX3_6 T.1 ?_
        have T := T.2
        refine r_max dX4_goOn_55 lX4_95 wmax2 wmath wmax4 (Nat.le_of_ble_eq_true rfl) ?_
        refine r_istore dX4_goOn_58 (by decide) rfl ?_
        refine r_iload_n dX4_goOn_60 rfl ?_
        refine r_iconst dX4_goOn_61 (by decide) ?_
        refine r_iload dX4_goOn_62 rfl ?_
        refine r_ishl dX4_goOn_64 ?_
        refine r_ior dX4_goOn_65 ?_
        refine r_bipush dX4_goOn_66 (by decide) (by decide) ?_
        refine r_imul dX4_goOn_68 ?_
        refine r_iload_n dX4_goOn_69 rfl ?_
        refine r_iadd dX4_goOn_70 ?_
        refine r_istore dX4_goOn_71 (by decide) rfl ?_
        refine r_iload dX4_goOn_73 rfl ?_
        refine r_aload_n dX4_goOn_75 rfl ?_
        refine r_getA dX4_goOn_76 fX4_98 h0 uX3_7 ?_
        refine r_iload dX4_goOn_79 rfl ?_
        refine s_iald dX4_goOn_81 h0 tX3_7 aX3_7 T.1 ?_
        have T := T.2
        refine r_icmp_gt (tgt := 119) dX4_goOn_82 (by decide) (fun h_3 => ?_) (fun h_3 => ?_)
        · have T := T.1 h_3
          refine r_iinc dX4_goOn_119 rfl (by decide) rfl ?_
          refine r_goto (tgt := 2) dX4_goOn_122 (by decide) ?_
          exact CW_msk [true, true, true, true, false, false, false] rfl T
        · have T := T.2 h_3
          refine r_iload dX4_goOn_85 rfl ?_
          refine r_if_lt (tgt := 119) dX4_goOn_87 (by decide) (fun h_2 => ?_) (fun h_2 => ?_)
          · have T := T.1 h_2
            refine r_iinc dX4_goOn_119 rfl (by decide) rfl ?_
            refine r_goto (tgt := 2) dX4_goOn_122 (by decide) ?_
            exact CW_msk [true, true, true, true, false, false, false] rfl T
          · have T := T.2 h_2
            refine r_iload dX4_goOn_90 rfl ?_
            refine r_aload_n dX4_goOn_92 rfl ?_
            refine r_getA dX4_goOn_93 fX4_18 rfl uX4_1 ?_
            refine s_alen dX4_goOn_96 rfl uX4_1 aX4_1 (by decide) ?_
            refine r_icmp_ge (tgt := 119) dX4_goOn_97 (by decide) (fun h_1 => ?_) (fun h_1 => ?_)
            · have T := T.1 h_1
              refine r_iinc dX4_goOn_119 rfl (by decide) rfl ?_
              refine r_goto (tgt := 2) dX4_goOn_122 (by decide) ?_
              exact CW_msk [true, true, true, true, false, false, false] rfl T
            · have T := T.2 h_1
              refine r_aload_n dX4_goOn_100 rfl ?_
              refine r_getA dX4_goOn_101 fX4_18 rfl uX4_1 ?_
              refine r_iload dX4_goOn_104 rfl ?_
              refine r_aload_n dX4_goOn_106 rfl ?_
              refine r_getA dX4_goOn_107 fX4_18 rfl uX4_1 ?_
              refine r_iload dX4_goOn_110 rfl ?_
              refine s_iald dX4_goOn_112 rfl tX4_1 aX4_1 T.1 ?_
              have T := T.2
              refine r_iload dX4_goOn_113 rfl ?_
              refine r_min dX4_goOn_115 lX4_34 wmin2 wmath wmin4 (Nat.le_of_ble_eq_true rfl) ?_
              refine n_iast dX4_goOn_118 rfl tX4_1 aX4_1 T.1 (fun M2 hM2 => ?_)
              have T := T.2 M2 hM2
              refine r_iinc dX4_goOn_119 rfl (by decide) rfl ?_
              refine r_goto (tgt := 2) dX4_goOn_122 (by decide) ?_
              exact CW_msk [true, true, true, true, false, false, false] rfl T
theorem eX4_goOn {G : Gx} {n : Nat} {M : Mem} {Q : Mem → Prop} {o1 : Nat} {x2 : Int} (h : ∀ K : Kx, CW G K mX4_goOn n 0 [some (vO 12), some (vO o1), some (vI x2), none, none, none, none] [] M (qV Q)) : OkV G n mX4_goOn [vO 12, vO o1, vI x2] M Q := Ok_of (by decide) (Nat.le_of_ble_eq_true rfl) rfl h
-- DownOnly$State copyFrom (LDownOnly$State;)V
set_option maxRecDepth 20000 in
set_option maxHeartbeats 1000000 in
theorem bX8_copyFrom_0 {G : Gx} {K : Kx} {n : Nat} {M : Mem} {Q : Mem → Prop} {o : Nat} {o1 : Nat}  (h0 : oc o = 8) (h1 : oc o1 = 8) (h2 : oc (o + 1) = 1) (h3 : oc (o + 2) = 0) (h4 : oc (o + 3) = 3) (T : OkV G n mX1_copyFrom [vO (o + 1), vO (o1 + 1)] M (fun M1 => OkV G n mX0_copyFrom [vO (o + 2), vO (o1 + 2)] M1 (fun M2 => OkV G n mX3_copyFrom [vO (o + 3), vO (o1 + 3)] M2 (fun M3 => Q M3)))) : CW G K mX8_copyFrom (n + 1) 0 [some (vO o), some (vO o1)] [] M (qV Q) := by
  refine r_aload_n dX8_copyFrom_0 rfl ?_
  refine r_getO (o' := o + 1) dX8_copyFrom_1 fX8_10 h0 tX8_0 (by simp [lk, h0]) ?_
  refine r_aload_n dX8_copyFrom_4 rfl ?_
  refine r_getO (o' := o1 + 1) dX8_copyFrom_5 fX8_10 h1 tX8_0 (by simp [lk, h1]) ?_
  refine r_callVV (md' := mX1_copyFrom) (as := [vO (o1 + 1)]) dX8_copyFrom_8 lX8_30 iX1_copyFrom h2 rfl rfl (Nat.le_of_ble_eq_true rfl) T (fun M1 T => ?_)
  refine r_aload_n dX8_copyFrom_11 rfl ?_
  refine r_getO (o' := o + 2) dX8_copyFrom_12 fX8_19 h0 tX8_1 (by simp [lk, h0]) ?_
  refine r_aload_n dX8_copyFrom_15 rfl ?_
  refine r_getO (o' := o1 + 2) dX8_copyFrom_16 fX8_19 h1 tX8_1 (by simp [lk, h1]) ?_
  refine r_callVV (md' := mX0_copyFrom) (as := [vO (o1 + 2)]) dX8_copyFrom_19 lX8_34 iX0_copyFrom h3 rfl rfl (Nat.le_of_ble_eq_true rfl) T (fun M2 T => ?_)
  refine r_aload_n dX8_copyFrom_22 rfl ?_
  refine r_getO (o' := o + 3) dX8_copyFrom_23 fX8_26 h0 tX8_2 (by simp [lk, h0]) ?_
  refine r_aload_n dX8_copyFrom_26 rfl ?_
  refine r_getO (o' := o1 + 3) dX8_copyFrom_27 fX8_26 h1 tX8_2 (by simp [lk, h1]) ?_
  refine r_callVV (md' := mX3_copyFrom) (as := [vO (o1 + 3)]) dX8_copyFrom_30 lX8_37 iX3_copyFrom h4 rfl rfl (Nat.le_of_ble_eq_true rfl) T (fun M3 T => ?_)
  exact r_return dX8_copyFrom_33 rfl ⟨rfl, T⟩
theorem eX8_copyFrom {G : Gx} {n : Nat} {M : Mem} {Q : Mem → Prop} {o : Nat} {o1 : Nat}  (h : ∀ K : Kx, CW G K mX8_copyFrom n 0 [some (vO o), some (vO o1)] [] M (qV Q)) : OkV G n mX8_copyFrom [vO o, vO o1] M Q := Ok_of (by decide) (Nat.le_of_ble_eq_true rfl) rfl h
-- DownOnly$State moveInto (LDownOnly$House;)V
set_option maxRecDepth 20000 in
set_option maxHeartbeats 1000000 in
theorem bX8_moveInto_0 {G : Gx} {K : Kx} {n : Nat} {M : Mem} {Q : Mem → Prop} {o : Nat} {o1 : Nat}  (h0 : oc o = 8) (h1 : oc (o + 1) = 1) (h2 : oc (o + 2) = 0) (h3 : oc (o + 3) = 3) (T : OkV G n mX1_copyFrom [vO (o + 1), vO o1] M (fun M1 => OkV G n mX0_begin [vO (o + 2), vO (o + 1)] M1 (fun M2 => ∀ M3 : Mem, M3 = mset M2 (o + 3) 1 0 0 → ∀ M4 : Mem, M4 = mset M3 (o + 3) 2 0 0 → Q M4))) : CW G K mX8_moveInto (n + 1) 0 [some (vO o), some (vO o1)] [] M (qV Q) := by
  refine r_aload_n dX8_moveInto_0 rfl ?_
  refine r_getO (o' := o + 1) dX8_moveInto_1 fX8_10 h0 tX8_0 (by simp [lk, h0]) ?_
  refine r_aload_n dX8_moveInto_4 rfl ?_
  refine r_callVV (md' := mX1_copyFrom) (as := [vO o1]) dX8_moveInto_5 lX8_30 iX1_copyFrom h1 rfl rfl (Nat.le_of_ble_eq_true rfl) T (fun M1 T => ?_)
  refine r_aload_n dX8_moveInto_8 rfl ?_
  refine r_getO (o' := o + 2) dX8_moveInto_9 fX8_19 h0 tX8_1 (by simp [lk, h0]) ?_
  refine r_aload_n dX8_moveInto_12 rfl ?_
  refine r_getO (o' := o + 1) dX8_moveInto_13 fX8_10 h0 tX8_0 (by simp [lk, h0]) ?_
  refine r_callVV (md' := mX0_begin) (as := [vO (o + 1)]) dX8_moveInto_16 lX8_40 iX0_begin h2 rfl rfl (Nat.le_of_ble_eq_true rfl) T (fun M2 T => ?_)
  refine r_aload_n dX8_moveInto_19 rfl ?_
  refine r_getO (o' := o + 3) dX8_moveInto_20 fX8_26 h0 tX8_2 (by simp [lk, h0]) ?_
  refine r_iconst dX8_moveInto_23 (by decide) ?_
  refine n_put dX8_moveInto_24 pX8_43 h3 tX3_1 (fun M3 hM3 => ?_)
  have T := T M3 hM3
  refine r_aload_n dX8_moveInto_27 rfl ?_
  refine r_getO (o' := o + 3) dX8_moveInto_28 fX8_26 h0 tX8_2 (by simp [lk, h0]) ?_
  refine r_iconst dX8_moveInto_31 (by decide) ?_
  refine n_put dX8_moveInto_32 pX8_47 h3 tX3_2 (fun M4 hM4 => ?_)
  have T := T M4 hM4
  exact r_return dX8_moveInto_35 rfl ⟨rfl, T⟩
theorem eX8_moveInto {G : Gx} {n : Nat} {M : Mem} {Q : Mem → Prop} {o : Nat} {o1 : Nat}  (h : ∀ K : Kx, CW G K mX8_moveInto n 0 [some (vO o), some (vO o1)] [] M (qV Q)) : OkV G n mX8_moveInto [vO o, vO o1] M Q := Ok_of (by decide) (Nat.le_of_ble_eq_true rfl) rfl h
-- DownOnly$HouseReader readAll ()Z
set_option maxRecDepth 20000 in
set_option maxHeartbeats 1000000 in
theorem bX2_readAll_0 {G : Gx} {K : Kx} {n : Nat} {M : Mem} {Q : Int → Mem → Prop}    (T : OkV G n mX1_clear [vO 7] M (fun M1 => ∀ M2 : Mem, M2 = mset M1 14 2 0 0 → OkV G n mX9_begin [vO 2] M2 (fun M3 => CW G K mX2_readAll (n + 1) 21 [some (vO 14), some (vI 0)] [] M3 (qI Q)))) : CW G K mX2_readAll (n + 1) 0 [some (vO 14), none] [] M (qI Q) := by
  refine r_aload_n dX2_readAll_0 rfl ?_
  refine r_getO (o' := 7) dX2_readAll_1 fX2_15 rfl tX2_1 rfl ?_
  refine r_callVV (md' := mX1_clear) (as := []) dX2_readAll_4 lX2_19 iX1_clear rfl rfl rfl (Nat.le_of_ble_eq_true rfl) T (fun M1 T => ?_)
  refine r_aload_n dX2_readAll_7 rfl ?_
  refine r_iconst dX2_readAll_8 (by decide) ?_
  refine n_put dX2_readAll_9 pX2_24 rfl tX2_2 (fun M2 hM2 => ?_)
  have T := T M2 hM2
  refine r_aload_n dX2_readAll_12 rfl ?_
  refine r_getO (o' := 2) dX2_readAll_13 fX2_9 rfl tX2_0 rfl ?_
  refine r_callVV (md' := mX9_begin) (as := []) dX2_readAll_16 lX2_28 iX9_begin rfl rfl rfl (Nat.le_of_ble_eq_true rfl) T (fun M3 T => ?_)
  refine r_iconst dX2_readAll_19 (by decide) ?_
  refine r_istore_n dX2_readAll_20 (by decide) rfl ?_
  exact T
set_option maxRecDepth 20000 in
set_option maxHeartbeats 1000000 in
theorem bX2_readAll_21 {G : Gx} {K : Kx} {n : Nat} {M : Mem} {Q : Int → Mem → Prop}  {x1 : Int}  (T : (40 < x1 → OkI G n mX9_refuse [vO 2, vI 4] M (fun r_1 M1 => (r_1 = 0 ∨ r_1 = 1) ∧ Q r_1 M1)) ∧ (¬ (40 < x1) → OkI G n mX2_readClause [vO 14] M (fun r_2 M2 => (¬ r_2 = 0 → (¬ M2 2 2 0 = 0 → OkI G n mX9_passSign [vO 2, vI 59] M2 (fun r_3 M3 => (¬ r_3 = 0 → CW G K mX2_readAll (n + 1) 21 [some (vO 14), some (vI (wr (x1 + 1)))] [] M3 (qI Q)) ∧ (r_3 = 0 → Q 0 M3))) ∧ (M2 2 2 0 = 0 → (0 < M2 7 0 0 → Q 1 M2) ∧ (¬ (0 < M2 7 0 0) → OkI G n mX9_refuse [vO 2, vI 0] M2 (fun r_4 M4 => (r_4 = 0 → Q 0 M4) ∧ (¬ (r_4 = 0) → Q 1 M4))))) ∧ (r_2 = 0 → Q 0 M2)))) : CW G K mX2_readAll (n + 1) 21 [some (vO 14), some (vI x1)] [] M (qI Q) := by
  refine r_iload_n dX2_readAll_21 rfl ?_
  refine r_bipush dX2_readAll_22 (by decide) (by decide) ?_
  refine r_icmp_gt (tgt := 93) dX2_readAll_24 (by decide) (fun h_6 => ?_) (fun h_6 => ?_)
  · have T := T.1 h_6
    refine r_aload_n dX2_readAll_93 rfl ?_
    refine r_getO (o' := 2) dX2_readAll_94 fX2_9 rfl tX2_0 rfl ?_
    refine r_iconst dX2_readAll_97 (by decide) ?_
    refine r_callVI (md' := mX9_refuse) (as := [vI 4]) dX2_readAll_98 lX2_43 iX9_refuse rfl rfl rfl (Nat.le_of_ble_eq_true rfl) T (fun r_1 M1 T => ?_)
    exact r_zreturn dX2_readAll_101 rfl T.1 ⟨_, rfl, T.2⟩
  · have T := T.2 h_6
    refine r_aload_n dX2_readAll_27 rfl ?_
    refine r_callVI (md' := mX2_readClause) (as := []) dX2_readAll_28 lX2_33 iX2_readClause rfl rfl rfl (Nat.le_of_ble_eq_true rfl) T (fun r_2 M2 T => ?_)
    refine r_if_ne (tgt := 36) dX2_readAll_31 (by decide) (fun h_5 => ?_) (fun h_5 => ?_)
    · have T := T.1 h_5
      refine r_aload_n dX2_readAll_36 rfl ?_
      refine r_getO (o' := 2) dX2_readAll_37 fX2_9 rfl tX2_0 rfl ?_
      refine r_getI dX2_readAll_40 fX2_37 rfl tX9_2 ?_
      refine r_if_ne (tgt := 73) dX2_readAll_43 (by decide) (fun h_4 => ?_) (fun h_4 => ?_)
      · have T := T.1 h_4
        refine r_aload_n dX2_readAll_73 rfl ?_
        refine r_getO (o' := 2) dX2_readAll_74 fX2_9 rfl tX2_0 rfl ?_
        refine r_bipush dX2_readAll_77 (by decide) (by decide) ?_
        refine r_callVI (md' := mX9_passSign) (as := [vI 59]) dX2_readAll_79 lX2_47 iX9_passSign rfl rfl rfl (Nat.le_of_ble_eq_true rfl) T (fun r_3 M3 T => ?_)
        refine r_if_ne (tgt := 87) dX2_readAll_82 (by decide) (fun h_1 => ?_) (fun h_1 => ?_)
        · have T := T.1 h_1
          refine r_iinc dX2_readAll_87 rfl (by decide) rfl ?_
          refine r_goto (tgt := 21) dX2_readAll_90 (by decide) ?_
          exact T
        · have T := T.2 h_1
          refine r_iconst dX2_readAll_85 (by decide) ?_
          exact r_zreturn dX2_readAll_86 rfl (by decide) ⟨_, rfl, T⟩
      · have T := T.2 h_4
        refine r_aload_n dX2_readAll_46 rfl ?_
        refine r_getO (o' := 7) dX2_readAll_47 fX2_15 rfl tX2_1 rfl ?_
        refine r_getI dX2_readAll_50 fX2_40 rfl tX1_0 ?_
        refine r_if_gt (tgt := 67) dX2_readAll_53 (by decide) (fun h_3 => ?_) (fun h_3 => ?_)
        · have T := T.1 h_3
          refine r_iconst dX2_readAll_67 (by decide) ?_
          refine r_goto (tgt := 72) dX2_readAll_68 (by decide) ?_
          exact r_zreturn dX2_readAll_72 rfl (by decide) ⟨_, rfl, T⟩
        · have T := T.2 h_3
          refine r_aload_n dX2_readAll_56 rfl ?_
          refine r_getO (o' := 2) dX2_readAll_57 fX2_9 rfl tX2_0 rfl ?_
          refine r_iconst dX2_readAll_60 (by decide) ?_
          refine r_callVI (md' := mX9_refuse) (as := [vI 0]) dX2_readAll_61 lX2_43 iX9_refuse rfl rfl rfl (Nat.le_of_ble_eq_true rfl) T (fun r_4 M4 T => ?_)
          refine r_if_eq (tgt := 71) dX2_readAll_64 (by decide) (fun h_2 => ?_) (fun h_2 => ?_)
          · have T := T.1 h_2
            refine r_iconst dX2_readAll_71 (by decide) ?_
            exact r_zreturn dX2_readAll_72 rfl (by decide) ⟨_, rfl, T⟩
          · have T := T.2 h_2
            refine r_iconst dX2_readAll_67 (by decide) ?_
            refine r_goto (tgt := 72) dX2_readAll_68 (by decide) ?_
            exact r_zreturn dX2_readAll_72 rfl (by decide) ⟨_, rfl, T⟩
    · have T := T.2 h_5
      refine r_iconst dX2_readAll_34 (by decide) ?_
      exact r_zreturn dX2_readAll_35 rfl (by decide) ⟨_, rfl, T⟩
theorem eX2_readAll {G : Gx} {n : Nat} {M : Mem} {Q : Int → Mem → Prop}   (h : ∀ K : Kx, CW G K mX2_readAll n 0 [some (vO 14), none] [] M (qI Q)) : OkI G n mX2_readAll [vO 14] M Q := Ok_of (by decide) (Nat.le_of_ble_eq_true rfl) rfl h
-- DownOnly$HouseReader readClause ()Z
set_option maxRecDepth 20000 in
set_option maxHeartbeats 1000000 in
theorem bX2_readClause_0 {G : Gx} {K : Kx} {n : Nat} {M : Mem} {Q : Int → Mem → Prop}    (T : OkI G n mX9_isWord [vO 2, vO (1000 + 0)] M (fun r_1 M1 => (r_1 = 0 → OkI G n mX9_isWord [vO 2, vO (1000 + 1)] M1 (fun r_2 M2 => (r_2 = 0 → OkI G n mX9_isWord [vO 2, vO (1000 + 2)] M2 (fun r_3 M3 => (r_3 = 0 → OkI G n mX9_isWord [vO 2, vO (1000 + 3)] M3 (fun r_4 M4 => (r_4 = 0 → OkI G n mX9_isWord [vO 2, vO (1000 + 4)] M4 (fun r_5 M5 => (r_5 = 0 → OkI G n mX9_isWord [vO 2, vO (1000 + 5)] M5 (fun r_6 M6 => (r_6 = 0 → OkI G n mX9_refuse [vO 2, vI 0] M6 (fun r_7 M7 => (r_7 = 0 ∨ r_7 = 1) ∧ Q r_7 M7)) ∧ (¬ (r_6 = 0) → (8 ≤ M6 7 2 0 → OkI G n mX2_opens [vO 14, vI 0] M6 (fun r_8 M8 => (r_8 = 0 → Q 0 M8) ∧ (¬ (r_8 = 0) → OkI G n mX2_readPerson [vO 14] M8 (fun r_9 M9 => (r_9 = 0 → Q 0 M9) ∧ (¬ (r_9 = 0) → Q 1 M9))))) ∧ (¬ (8 ≤ M6 7 2 0) → OkI G n mX2_opens [vO 14, vI 1] M6 (fun r_10 M10 => (r_10 = 0 → Q 0 M10) ∧ (¬ (r_10 = 0) → OkI G n mX2_readPerson [vO 14] M10 (fun r_11 M11 => (r_11 = 0 → Q 0 M11) ∧ (¬ (r_11 = 0) → Q 1 M11)))))))) ∧ (¬ (r_5 = 0) → (¬ M5 7 6 0 = 0 → OkI G n mX2_opens [vO 14, vI 0] M5 (fun r_12 M12 => (r_12 = 0 → Q 0 M12) ∧ (¬ (r_12 = 0) → OkI G n mX2_readHoist [vO 14] M12 (fun r_13 M13 => (r_13 = 0 → Q 0 M13) ∧ (¬ (r_13 = 0) → Q 1 M13))))) ∧ (M5 7 6 0 = 0 → OkI G n mX2_opens [vO 14, vI 1] M5 (fun r_14 M14 => (r_14 = 0 → Q 0 M14) ∧ (¬ (r_14 = 0) → OkI G n mX2_readHoist [vO 14] M14 (fun r_15 M15 => (r_15 = 0 → Q 0 M15) ∧ (¬ (r_15 = 0) → Q 1 M15)))))))) ∧ (¬ (r_4 = 0) → OkI G n mX2_opens [vO 14, vI 1] M4 (fun r_16 M16 => (r_16 = 0 → Q 0 M16) ∧ (¬ (r_16 = 0) → OkI G n mX2_readDoor [vO 14] M16 (fun r_17 M17 => (r_17 = 0 → Q 0 M17) ∧ (¬ (r_17 = 0) → Q 1 M17))))))) ∧ (¬ (r_3 = 0) → (24 ≤ M3 7 1 0 → OkI G n mX2_opens [vO 14, vI 0] M3 (fun r_18 M18 => (r_18 = 0 → Q 0 M18) ∧ (¬ (r_18 = 0) → OkI G n mX2_readWay [vO 14, vI 1] M18 (fun r_19 M19 => (r_19 = 0 → Q 0 M19) ∧ (¬ (r_19 = 0) → Q 1 M19))))) ∧ (¬ (24 ≤ M3 7 1 0) → OkI G n mX2_opens [vO 14, vI 1] M3 (fun r_20 M20 => (r_20 = 0 → Q 0 M20) ∧ (¬ (r_20 = 0) → OkI G n mX2_readWay [vO 14, vI 1] M20 (fun r_21 M21 => (r_21 = 0 → Q 0 M21) ∧ (¬ (r_21 = 0) → Q 1 M21)))))))) ∧ (¬ (r_2 = 0) → (24 ≤ M2 7 1 0 → OkI G n mX2_opens [vO 14, vI 0] M2 (fun r_22 M22 => (r_22 = 0 → Q 0 M22) ∧ (¬ (r_22 = 0) → OkI G n mX2_readWay [vO 14, vI 0] M22 (fun r_23 M23 => (r_23 = 0 → Q 0 M23) ∧ (¬ (r_23 = 0) → Q 1 M23))))) ∧ (¬ (24 ≤ M2 7 1 0) → OkI G n mX2_opens [vO 14, vI 1] M2 (fun r_24 M24 => (r_24 = 0 → Q 0 M24) ∧ (¬ (r_24 = 0) → OkI G n mX2_readWay [vO 14, vI 0] M24 (fun r_25 M25 => (r_25 = 0 → Q 0 M25) ∧ (¬ (r_25 = 0) → Q 1 M25)))))))) ∧ (¬ (r_1 = 0) → (16 ≤ M1 7 0 0 → OkI G n mX2_opens [vO 14, vI 0] M1 (fun r_26 M26 => (r_26 = 0 → Q 0 M26) ∧ (¬ (r_26 = 0) → OkI G n mX2_readRoom [vO 14] M26 (fun r_27 M27 => (r_27 = 0 → Q 0 M27) ∧ (¬ (r_27 = 0) → Q 1 M27))))) ∧ (¬ (16 ≤ M1 7 0 0) → OkI G n mX2_opens [vO 14, vI 1] M1 (fun r_28 M28 => (r_28 = 0 → Q 0 M28) ∧ (¬ (r_28 = 0) → OkI G n mX2_readRoom [vO 14] M28 (fun r_29 M29 => (r_29 = 0 → Q 0 M29) ∧ (¬ (r_29 = 0) → Q 1 M29)))))))) : CW G K mX2_readClause (n + 1) 0 [some (vO 14)] [] M (qI Q) := by
  refine r_aload_n dX2_readClause_0 rfl ?_
  refine r_getO (o' := 2) dX2_readClause_1 fX2_9 rfl tX2_0 rfl ?_
  refine r_lds (j := 0) dX2_readClause_4 sX2_51 ?_
  refine r_callVI (md' := mX9_isWord) (as := [vO (1000 + 0)]) dX2_readClause_6 lX2_53 iX9_isWord rfl rfl rfl (Nat.le_of_ble_eq_true rfl) T (fun r_1 M1 T => ?_)
  refine r_if_eq (tgt := 49) dX2_readClause_9 (by decide) (fun h_33 => ?_) (fun h_33 => ?_)
  · have T := T.1 h_33
    refine r_aload_n dX2_readClause_49 rfl ?_
    refine r_getO (o' := 2) dX2_readClause_50 fX2_9 rfl tX2_0 rfl ?_
    refine r_lds (j := 1) dX2_readClause_53 sX2_64 ?_
    refine r_callVI (md' := mX9_isWord) (as := [vO (1000 + 1)]) dX2_readClause_55 lX2_53 iX9_isWord rfl rfl rfl (Nat.le_of_ble_eq_true rfl) T (fun r_2 M2 T => ?_)
    refine r_if_eq (tgt := 99) dX2_readClause_58 (by decide) (fun h_27 => ?_) (fun h_27 => ?_)
    · have T := T.1 h_27
      refine r_aload_n dX2_readClause_99 rfl ?_
      refine r_getO (o' := 2) dX2_readClause_100 fX2_9 rfl tX2_0 rfl ?_
      refine r_lds (j := 2) dX2_readClause_103 sX2_72 ?_
      refine r_callVI (md' := mX9_isWord) (as := [vO (1000 + 2)]) dX2_readClause_105 lX2_53 iX9_isWord rfl rfl rfl (Nat.le_of_ble_eq_true rfl) T (fun r_3 M3 T => ?_)
      refine r_if_eq (tgt := 149) dX2_readClause_108 (by decide) (fun h_21 => ?_) (fun h_21 => ?_)
      · have T := T.1 h_21
        refine r_aload_n dX2_readClause_149 rfl ?_
        refine r_getO (o' := 2) dX2_readClause_150 fX2_9 rfl tX2_0 rfl ?_
        refine r_lds (j := 3) dX2_readClause_153 sX2_74 ?_
        refine r_callVI (md' := mX9_isWord) (as := [vO (1000 + 3)]) dX2_readClause_155 lX2_53 iX9_isWord rfl rfl rfl (Nat.le_of_ble_eq_true rfl) T (fun r_4 M4 T => ?_)
        refine r_if_eq (tgt := 182) dX2_readClause_158 (by decide) (fun h_15 => ?_) (fun h_15 => ?_)
        · have T := T.1 h_15
          refine r_aload_n dX2_readClause_182 rfl ?_
          refine r_getO (o' := 2) dX2_readClause_183 fX2_9 rfl tX2_0 rfl ?_
          refine r_lds (j := 4) dX2_readClause_186 sX2_79 ?_
          refine r_callVI (md' := mX9_isWord) (as := [vO (1000 + 4)]) dX2_readClause_188 lX2_53 iX9_isWord rfl rfl rfl (Nat.le_of_ble_eq_true rfl) T (fun r_5 M5 T => ?_)
          refine r_if_eq (tgt := 229) dX2_readClause_191 (by decide) (fun h_12 => ?_) (fun h_12 => ?_)
          · have T := T.1 h_12
            refine r_aload_n dX2_readClause_229 rfl ?_
            refine r_getO (o' := 2) dX2_readClause_230 fX2_9 rfl tX2_0 rfl ?_
            refine r_lds (j := 5) dX2_readClause_233 sX2_87 ?_
            refine r_callVI (md' := mX9_isWord) (as := [vO (1000 + 5)]) dX2_readClause_235 lX2_53 iX9_isWord rfl rfl rfl (Nat.le_of_ble_eq_true rfl) T (fun r_6 M6 T => ?_)
            refine r_if_eq (tgt := 278) dX2_readClause_238 (by decide) (fun h_6 => ?_) (fun h_6 => ?_)
            · have T := T.1 h_6
              refine r_aload_n dX2_readClause_278 rfl ?_
              refine r_getO (o' := 2) dX2_readClause_279 fX2_9 rfl tX2_0 rfl ?_
              refine r_iconst dX2_readClause_282 (by decide) ?_
              refine r_callVI (md' := mX9_refuse) (as := [vI 0]) dX2_readClause_283 lX2_43 iX9_refuse rfl rfl rfl (Nat.le_of_ble_eq_true rfl) T (fun r_7 M7 T => ?_)
              exact r_zreturn dX2_readClause_286 rfl T.1 ⟨_, rfl, T.2⟩
            · have T := T.2 h_6
              refine r_aload_n dX2_readClause_241 rfl ?_
              refine r_aload_n dX2_readClause_242 rfl ?_
              refine r_getO (o' := 7) dX2_readClause_243 fX2_15 rfl tX2_1 rfl ?_
              refine r_getI dX2_readClause_246 fX2_89 rfl tX1_2 ?_
              refine r_bipush dX2_readClause_249 (by decide) (by decide) ?_
              refine r_icmp_ge (tgt := 258) dX2_readClause_251 (by decide) (fun h_5 => ?_) (fun h_5 => ?_)
              · have T := T.1 h_5
                refine r_iconst dX2_readClause_258 (by decide) ?_
                refine r_callVI (md' := mX2_opens) (as := [vI 0]) dX2_readClause_259 lX2_57 iX2_opens rfl rfl rfl (Nat.le_of_ble_eq_true rfl) T (fun r_8 M8 T => ?_)
                refine r_if_eq (tgt := 276) dX2_readClause_262 (by decide) (fun h_2 => ?_) (fun h_2 => ?_)
                · have T := T.1 h_2
                  refine r_iconst dX2_readClause_276 (by decide) ?_
                  exact r_zreturn dX2_readClause_277 rfl (by decide) ⟨_, rfl, T⟩
                · have T := T.2 h_2
                  refine r_aload_n dX2_readClause_265 rfl ?_
                  refine r_callVI (md' := mX2_readPerson) (as := []) dX2_readClause_266 lX2_92 iX2_readPerson rfl rfl rfl (Nat.le_of_ble_eq_true rfl) T (fun r_9 M9 T => ?_)
                  refine r_if_eq (tgt := 276) dX2_readClause_269 (by decide) (fun h_1 => ?_) (fun h_1 => ?_)
                  · have T := T.1 h_1
                    refine r_iconst dX2_readClause_276 (by decide) ?_
                    exact r_zreturn dX2_readClause_277 rfl (by decide) ⟨_, rfl, T⟩
                  · have T := T.2 h_1
                    refine r_iconst dX2_readClause_272 (by decide) ?_
                    refine r_goto (tgt := 277) dX2_readClause_273 (by decide) ?_
                    exact r_zreturn dX2_readClause_277 rfl (by decide) ⟨_, rfl, T⟩
              · have T := T.2 h_5
                refine r_iconst dX2_readClause_254 (by decide) ?_
                refine r_goto (tgt := 259) dX2_readClause_255 (by decide) ?_
                refine r_callVI (md' := mX2_opens) (as := [vI 1]) dX2_readClause_259 lX2_57 iX2_opens rfl rfl rfl (Nat.le_of_ble_eq_true rfl) T (fun r_10 M10 T => ?_)
                refine r_if_eq (tgt := 276) dX2_readClause_262 (by decide) (fun h_4 => ?_) (fun h_4 => ?_)
                · have T := T.1 h_4
                  refine r_iconst dX2_readClause_276 (by decide) ?_
                  exact r_zreturn dX2_readClause_277 rfl (by decide) ⟨_, rfl, T⟩
                · have T := T.2 h_4
                  refine r_aload_n dX2_readClause_265 rfl ?_
                  refine r_callVI (md' := mX2_readPerson) (as := []) dX2_readClause_266 lX2_92 iX2_readPerson rfl rfl rfl (Nat.le_of_ble_eq_true rfl) T (fun r_11 M11 T => ?_)
                  refine r_if_eq (tgt := 276) dX2_readClause_269 (by decide) (fun h_3 => ?_) (fun h_3 => ?_)
                  · have T := T.1 h_3
                    refine r_iconst dX2_readClause_276 (by decide) ?_
                    exact r_zreturn dX2_readClause_277 rfl (by decide) ⟨_, rfl, T⟩
                  · have T := T.2 h_3
                    refine r_iconst dX2_readClause_272 (by decide) ?_
                    refine r_goto (tgt := 277) dX2_readClause_273 (by decide) ?_
                    exact r_zreturn dX2_readClause_277 rfl (by decide) ⟨_, rfl, T⟩
          · have T := T.2 h_12
            refine r_aload_n dX2_readClause_194 rfl ?_
            refine r_aload_n dX2_readClause_195 rfl ?_
            refine r_getO (o' := 7) dX2_readClause_196 fX2_15 rfl tX2_1 rfl ?_
            refine r_getI dX2_readClause_199 fX2_81 rfl tX1_6 ?_
            refine r_if_ne (tgt := 209) dX2_readClause_202 (by decide) (fun h_11 => ?_) (fun h_11 => ?_)
            · have T := T.1 h_11
              refine r_iconst dX2_readClause_209 (by decide) ?_
              refine r_callVI (md' := mX2_opens) (as := [vI 0]) dX2_readClause_210 lX2_57 iX2_opens rfl rfl rfl (Nat.le_of_ble_eq_true rfl) T (fun r_12 M12 T => ?_)
              refine r_if_eq (tgt := 227) dX2_readClause_213 (by decide) (fun h_8 => ?_) (fun h_8 => ?_)
              · have T := T.1 h_8
                refine r_iconst dX2_readClause_227 (by decide) ?_
                exact r_zreturn dX2_readClause_228 rfl (by decide) ⟨_, rfl, T⟩
              · have T := T.2 h_8
                refine r_aload_n dX2_readClause_216 rfl ?_
                refine r_callVI (md' := mX2_readHoist) (as := []) dX2_readClause_217 lX2_84 iX2_readHoist rfl rfl rfl (Nat.le_of_ble_eq_true rfl) T (fun r_13 M13 T => ?_)
                refine r_if_eq (tgt := 227) dX2_readClause_220 (by decide) (fun h_7 => ?_) (fun h_7 => ?_)
                · have T := T.1 h_7
                  refine r_iconst dX2_readClause_227 (by decide) ?_
                  exact r_zreturn dX2_readClause_228 rfl (by decide) ⟨_, rfl, T⟩
                · have T := T.2 h_7
                  refine r_iconst dX2_readClause_223 (by decide) ?_
                  refine r_goto (tgt := 228) dX2_readClause_224 (by decide) ?_
                  exact r_zreturn dX2_readClause_228 rfl (by decide) ⟨_, rfl, T⟩
            · have T := T.2 h_11
              refine r_iconst dX2_readClause_205 (by decide) ?_
              refine r_goto (tgt := 210) dX2_readClause_206 (by decide) ?_
              refine r_callVI (md' := mX2_opens) (as := [vI 1]) dX2_readClause_210 lX2_57 iX2_opens rfl rfl rfl (Nat.le_of_ble_eq_true rfl) T (fun r_14 M14 T => ?_)
              refine r_if_eq (tgt := 227) dX2_readClause_213 (by decide) (fun h_10 => ?_) (fun h_10 => ?_)
              · have T := T.1 h_10
                refine r_iconst dX2_readClause_227 (by decide) ?_
                exact r_zreturn dX2_readClause_228 rfl (by decide) ⟨_, rfl, T⟩
              · have T := T.2 h_10
                refine r_aload_n dX2_readClause_216 rfl ?_
                refine r_callVI (md' := mX2_readHoist) (as := []) dX2_readClause_217 lX2_84 iX2_readHoist rfl rfl rfl (Nat.le_of_ble_eq_true rfl) T (fun r_15 M15 T => ?_)
                refine r_if_eq (tgt := 227) dX2_readClause_220 (by decide) (fun h_9 => ?_) (fun h_9 => ?_)
                · have T := T.1 h_9
                  refine r_iconst dX2_readClause_227 (by decide) ?_
                  exact r_zreturn dX2_readClause_228 rfl (by decide) ⟨_, rfl, T⟩
                · have T := T.2 h_9
                  refine r_iconst dX2_readClause_223 (by decide) ?_
                  refine r_goto (tgt := 228) dX2_readClause_224 (by decide) ?_
                  exact r_zreturn dX2_readClause_228 rfl (by decide) ⟨_, rfl, T⟩
        · have T := T.2 h_15
          refine r_aload_n dX2_readClause_161 rfl ?_
          refine r_iconst dX2_readClause_162 (by decide) ?_
          refine r_callVI (md' := mX2_opens) (as := [vI 1]) dX2_readClause_163 lX2_57 iX2_opens rfl rfl rfl (Nat.le_of_ble_eq_true rfl) T (fun r_16 M16 T => ?_)
          refine r_if_eq (tgt := 180) dX2_readClause_166 (by decide) (fun h_14 => ?_) (fun h_14 => ?_)
          · have T := T.1 h_14
            refine r_iconst dX2_readClause_180 (by decide) ?_
            exact r_zreturn dX2_readClause_181 rfl (by decide) ⟨_, rfl, T⟩
          · have T := T.2 h_14
            refine r_aload_n dX2_readClause_169 rfl ?_
            refine r_callVI (md' := mX2_readDoor) (as := []) dX2_readClause_170 lX2_76 iX2_readDoor rfl rfl rfl (Nat.le_of_ble_eq_true rfl) T (fun r_17 M17 T => ?_)
            refine r_if_eq (tgt := 180) dX2_readClause_173 (by decide) (fun h_13 => ?_) (fun h_13 => ?_)
            · have T := T.1 h_13
              refine r_iconst dX2_readClause_180 (by decide) ?_
              exact r_zreturn dX2_readClause_181 rfl (by decide) ⟨_, rfl, T⟩
            · have T := T.2 h_13
              refine r_iconst dX2_readClause_176 (by decide) ?_
              refine r_goto (tgt := 181) dX2_readClause_177 (by decide) ?_
              exact r_zreturn dX2_readClause_181 rfl (by decide) ⟨_, rfl, T⟩
      · have T := T.2 h_21
        refine r_aload_n dX2_readClause_111 rfl ?_
        refine r_aload_n dX2_readClause_112 rfl ?_
        refine r_getO (o' := 7) dX2_readClause_113 fX2_15 rfl tX2_1 rfl ?_
        refine r_getI dX2_readClause_116 fX2_66 rfl tX1_1 ?_
        refine r_bipush dX2_readClause_119 (by decide) (by decide) ?_
        refine r_icmp_ge (tgt := 128) dX2_readClause_121 (by decide) (fun h_20 => ?_) (fun h_20 => ?_)
        · have T := T.1 h_20
          refine r_iconst dX2_readClause_128 (by decide) ?_
          refine r_callVI (md' := mX2_opens) (as := [vI 0]) dX2_readClause_129 lX2_57 iX2_opens rfl rfl rfl (Nat.le_of_ble_eq_true rfl) T (fun r_18 M18 T => ?_)
          refine r_if_eq (tgt := 147) dX2_readClause_132 (by decide) (fun h_17 => ?_) (fun h_17 => ?_)
          · have T := T.1 h_17
            refine r_iconst dX2_readClause_147 (by decide) ?_
            exact r_zreturn dX2_readClause_148 rfl (by decide) ⟨_, rfl, T⟩
          · have T := T.2 h_17
            refine r_aload_n dX2_readClause_135 rfl ?_
            refine r_iconst dX2_readClause_136 (by decide) ?_
            refine r_callVI (md' := mX2_readWay) (as := [vI 1]) dX2_readClause_137 lX2_69 iX2_readWay rfl rfl rfl (Nat.le_of_ble_eq_true rfl) T (fun r_19 M19 T => ?_)
            refine r_if_eq (tgt := 147) dX2_readClause_140 (by decide) (fun h_16 => ?_) (fun h_16 => ?_)
            · have T := T.1 h_16
              refine r_iconst dX2_readClause_147 (by decide) ?_
              exact r_zreturn dX2_readClause_148 rfl (by decide) ⟨_, rfl, T⟩
            · have T := T.2 h_16
              refine r_iconst dX2_readClause_143 (by decide) ?_
              refine r_goto (tgt := 148) dX2_readClause_144 (by decide) ?_
              exact r_zreturn dX2_readClause_148 rfl (by decide) ⟨_, rfl, T⟩
        · have T := T.2 h_20
          refine r_iconst dX2_readClause_124 (by decide) ?_
          refine r_goto (tgt := 129) dX2_readClause_125 (by decide) ?_
          refine r_callVI (md' := mX2_opens) (as := [vI 1]) dX2_readClause_129 lX2_57 iX2_opens rfl rfl rfl (Nat.le_of_ble_eq_true rfl) T (fun r_20 M20 T => ?_)
          refine r_if_eq (tgt := 147) dX2_readClause_132 (by decide) (fun h_19 => ?_) (fun h_19 => ?_)
          · have T := T.1 h_19
            refine r_iconst dX2_readClause_147 (by decide) ?_
            exact r_zreturn dX2_readClause_148 rfl (by decide) ⟨_, rfl, T⟩
          · have T := T.2 h_19
            refine r_aload_n dX2_readClause_135 rfl ?_
            refine r_iconst dX2_readClause_136 (by decide) ?_
            refine r_callVI (md' := mX2_readWay) (as := [vI 1]) dX2_readClause_137 lX2_69 iX2_readWay rfl rfl rfl (Nat.le_of_ble_eq_true rfl) T (fun r_21 M21 T => ?_)
            refine r_if_eq (tgt := 147) dX2_readClause_140 (by decide) (fun h_18 => ?_) (fun h_18 => ?_)
            · have T := T.1 h_18
              refine r_iconst dX2_readClause_147 (by decide) ?_
              exact r_zreturn dX2_readClause_148 rfl (by decide) ⟨_, rfl, T⟩
            · have T := T.2 h_18
              refine r_iconst dX2_readClause_143 (by decide) ?_
              refine r_goto (tgt := 148) dX2_readClause_144 (by decide) ?_
              exact r_zreturn dX2_readClause_148 rfl (by decide) ⟨_, rfl, T⟩
    · have T := T.2 h_27
      refine r_aload_n dX2_readClause_61 rfl ?_
      refine r_aload_n dX2_readClause_62 rfl ?_
      refine r_getO (o' := 7) dX2_readClause_63 fX2_15 rfl tX2_1 rfl ?_
      refine r_getI dX2_readClause_66 fX2_66 rfl tX1_1 ?_
      refine r_bipush dX2_readClause_69 (by decide) (by decide) ?_
      refine r_icmp_ge (tgt := 78) dX2_readClause_71 (by decide) (fun h_26 => ?_) (fun h_26 => ?_)
      · have T := T.1 h_26
        refine r_iconst dX2_readClause_78 (by decide) ?_
        refine r_callVI (md' := mX2_opens) (as := [vI 0]) dX2_readClause_79 lX2_57 iX2_opens rfl rfl rfl (Nat.le_of_ble_eq_true rfl) T (fun r_22 M22 T => ?_)
        refine r_if_eq (tgt := 97) dX2_readClause_82 (by decide) (fun h_23 => ?_) (fun h_23 => ?_)
        · have T := T.1 h_23
          refine r_iconst dX2_readClause_97 (by decide) ?_
          exact r_zreturn dX2_readClause_98 rfl (by decide) ⟨_, rfl, T⟩
        · have T := T.2 h_23
          refine r_aload_n dX2_readClause_85 rfl ?_
          refine r_iconst dX2_readClause_86 (by decide) ?_
          refine r_callVI (md' := mX2_readWay) (as := [vI 0]) dX2_readClause_87 lX2_69 iX2_readWay rfl rfl rfl (Nat.le_of_ble_eq_true rfl) T (fun r_23 M23 T => ?_)
          refine r_if_eq (tgt := 97) dX2_readClause_90 (by decide) (fun h_22 => ?_) (fun h_22 => ?_)
          · have T := T.1 h_22
            refine r_iconst dX2_readClause_97 (by decide) ?_
            exact r_zreturn dX2_readClause_98 rfl (by decide) ⟨_, rfl, T⟩
          · have T := T.2 h_22
            refine r_iconst dX2_readClause_93 (by decide) ?_
            refine r_goto (tgt := 98) dX2_readClause_94 (by decide) ?_
            exact r_zreturn dX2_readClause_98 rfl (by decide) ⟨_, rfl, T⟩
      · have T := T.2 h_26
        refine r_iconst dX2_readClause_74 (by decide) ?_
        refine r_goto (tgt := 79) dX2_readClause_75 (by decide) ?_
        refine r_callVI (md' := mX2_opens) (as := [vI 1]) dX2_readClause_79 lX2_57 iX2_opens rfl rfl rfl (Nat.le_of_ble_eq_true rfl) T (fun r_24 M24 T => ?_)
        refine r_if_eq (tgt := 97) dX2_readClause_82 (by decide) (fun h_25 => ?_) (fun h_25 => ?_)
        · have T := T.1 h_25
          refine r_iconst dX2_readClause_97 (by decide) ?_
          exact r_zreturn dX2_readClause_98 rfl (by decide) ⟨_, rfl, T⟩
        · have T := T.2 h_25
          refine r_aload_n dX2_readClause_85 rfl ?_
          refine r_iconst dX2_readClause_86 (by decide) ?_
          refine r_callVI (md' := mX2_readWay) (as := [vI 0]) dX2_readClause_87 lX2_69 iX2_readWay rfl rfl rfl (Nat.le_of_ble_eq_true rfl) T (fun r_25 M25 T => ?_)
          refine r_if_eq (tgt := 97) dX2_readClause_90 (by decide) (fun h_24 => ?_) (fun h_24 => ?_)
          · have T := T.1 h_24
            refine r_iconst dX2_readClause_97 (by decide) ?_
            exact r_zreturn dX2_readClause_98 rfl (by decide) ⟨_, rfl, T⟩
          · have T := T.2 h_24
            refine r_iconst dX2_readClause_93 (by decide) ?_
            refine r_goto (tgt := 98) dX2_readClause_94 (by decide) ?_
            exact r_zreturn dX2_readClause_98 rfl (by decide) ⟨_, rfl, T⟩
  · have T := T.2 h_33
    refine r_aload_n dX2_readClause_12 rfl ?_
    refine r_aload_n dX2_readClause_13 rfl ?_
    refine r_getO (o' := 7) dX2_readClause_14 fX2_15 rfl tX2_1 rfl ?_
    refine r_getI dX2_readClause_17 fX2_40 rfl tX1_0 ?_
    refine r_bipush dX2_readClause_20 (by decide) (by decide) ?_
    refine r_icmp_ge (tgt := 29) dX2_readClause_22 (by decide) (fun h_32 => ?_) (fun h_32 => ?_)
    · have T := T.1 h_32
      refine r_iconst dX2_readClause_29 (by decide) ?_
      refine r_callVI (md' := mX2_opens) (as := [vI 0]) dX2_readClause_30 lX2_57 iX2_opens rfl rfl rfl (Nat.le_of_ble_eq_true rfl) T (fun r_26 M26 T => ?_)
      refine r_if_eq (tgt := 47) dX2_readClause_33 (by decide) (fun h_29 => ?_) (fun h_29 => ?_)
      · have T := T.1 h_29
        refine r_iconst dX2_readClause_47 (by decide) ?_
        exact r_zreturn dX2_readClause_48 rfl (by decide) ⟨_, rfl, T⟩
      · have T := T.2 h_29
        refine r_aload_n dX2_readClause_36 rfl ?_
        refine r_callVI (md' := mX2_readRoom) (as := []) dX2_readClause_37 lX2_61 iX2_readRoom rfl rfl rfl (Nat.le_of_ble_eq_true rfl) T (fun r_27 M27 T => ?_)
        refine r_if_eq (tgt := 47) dX2_readClause_40 (by decide) (fun h_28 => ?_) (fun h_28 => ?_)
        · have T := T.1 h_28
          refine r_iconst dX2_readClause_47 (by decide) ?_
          exact r_zreturn dX2_readClause_48 rfl (by decide) ⟨_, rfl, T⟩
        · have T := T.2 h_28
          refine r_iconst dX2_readClause_43 (by decide) ?_
          refine r_goto (tgt := 48) dX2_readClause_44 (by decide) ?_
          exact r_zreturn dX2_readClause_48 rfl (by decide) ⟨_, rfl, T⟩
    · have T := T.2 h_32
      refine r_iconst dX2_readClause_25 (by decide) ?_
      refine r_goto (tgt := 30) dX2_readClause_26 (by decide) ?_
      refine r_callVI (md' := mX2_opens) (as := [vI 1]) dX2_readClause_30 lX2_57 iX2_opens rfl rfl rfl (Nat.le_of_ble_eq_true rfl) T (fun r_28 M28 T => ?_)
      refine r_if_eq (tgt := 47) dX2_readClause_33 (by decide) (fun h_31 => ?_) (fun h_31 => ?_)
      · have T := T.1 h_31
        refine r_iconst dX2_readClause_47 (by decide) ?_
        exact r_zreturn dX2_readClause_48 rfl (by decide) ⟨_, rfl, T⟩
      · have T := T.2 h_31
        refine r_aload_n dX2_readClause_36 rfl ?_
        refine r_callVI (md' := mX2_readRoom) (as := []) dX2_readClause_37 lX2_61 iX2_readRoom rfl rfl rfl (Nat.le_of_ble_eq_true rfl) T (fun r_29 M29 T => ?_)
        refine r_if_eq (tgt := 47) dX2_readClause_40 (by decide) (fun h_30 => ?_) (fun h_30 => ?_)
        · have T := T.1 h_30
          refine r_iconst dX2_readClause_47 (by decide) ?_
          exact r_zreturn dX2_readClause_48 rfl (by decide) ⟨_, rfl, T⟩
        · have T := T.2 h_30
          refine r_iconst dX2_readClause_43 (by decide) ?_
          refine r_goto (tgt := 48) dX2_readClause_44 (by decide) ?_
          exact r_zreturn dX2_readClause_48 rfl (by decide) ⟨_, rfl, T⟩
theorem eX2_readClause {G : Gx} {n : Nat} {M : Mem} {Q : Int → Mem → Prop}   (h : ∀ K : Kx, CW G K mX2_readClause n 0 [some (vO 14)] [] M (qI Q)) : OkI G n mX2_readClause [vO 14] M Q := Ok_of (by decide) (Nat.le_of_ble_eq_true rfl) rfl h
