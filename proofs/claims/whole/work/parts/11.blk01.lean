-- DownOnly$House widen (II[I)Z
set_option maxRecDepth 20000 in
set_option maxHeartbeats 1000000 in
theorem bX1_widen_0 {G : Gx} {K : Kx} {n : Nat} {M : Mem} {Q : Int → Mem → Prop}  {x0 : Int} {x1 : Int}  (T : (x0 < 0 → Q 0 M) ∧ (¬ (x0 < 0) → (16 ≤ x0 → Q 0 M) ∧ (¬ (16 ≤ x0) → (x1 < 0 → Q 0 M) ∧ (¬ (x1 < 0) → (x1 < 16 → (0 ≤ x0 ∧ x0 < 16) ∧ ((0 ≤ x1 ∧ x1 < 16) ∧ ((0 ≤ x0 ∧ x0 < 16) ∧ (∀ M1 : Mem, M1 = mset M 1 14 x0.toNat (bOr (M 1 14 x0.toNat) (M 1 14 x1.toNat)) → (0 ≤ x0 ∧ x0 < 16) ∧ ((M1 1 14 x0.toNat = M 1 14 x0.toNat → Q 0 M1) ∧ (¬ (M1 1 14 x0.toNat = M 1 14 x0.toNat) → Q 1 M1)))))) ∧ (¬ (x1 < 16) → Q 0 M))))) : CW G K mX1_widen n 0 [some (vI x0), some (vI x1), some (vA 1 14), none] [] M (qI Q) := by
  refine r_iload_n dX1_widen_0 rfl ?_
  refine r_if_lt (tgt := 20) dX1_widen_1 (by decide) (fun h_5 => ?_) (fun h_5 => ?_)
  · have T := T.1 h_5
    refine r_iconst dX1_widen_20 (by decide) ?_
    exact r_zreturn dX1_widen_21 rfl (by decide) ⟨_, rfl, T⟩
  · have T := T.2 h_5
    refine r_iload_n dX1_widen_4 rfl ?_
    refine r_aload_n dX1_widen_5 rfl ?_
    refine s_alen dX1_widen_6 rfl uX11_14 aX11_14 (by decide) ?_
    refine r_icmp_ge (tgt := 20) dX1_widen_7 (by decide) (fun h_4 => ?_) (fun h_4 => ?_)
    · have T := T.1 h_4
      refine r_iconst dX1_widen_20 (by decide) ?_
      exact r_zreturn dX1_widen_21 rfl (by decide) ⟨_, rfl, T⟩
    · have T := T.2 h_4
      refine r_iload_n dX1_widen_10 rfl ?_
      refine r_if_lt (tgt := 20) dX1_widen_11 (by decide) (fun h_3 => ?_) (fun h_3 => ?_)
      · have T := T.1 h_3
        refine r_iconst dX1_widen_20 (by decide) ?_
        exact r_zreturn dX1_widen_21 rfl (by decide) ⟨_, rfl, T⟩
      · have T := T.2 h_3
        refine r_iload_n dX1_widen_14 rfl ?_
        refine r_aload_n dX1_widen_15 rfl ?_
        refine s_alen dX1_widen_16 rfl uX11_14 aX11_14 (by decide) ?_
        refine r_icmp_lt (tgt := 22) dX1_widen_17 (by decide) (fun h_2 => ?_) (fun h_2 => ?_)
        · have T := T.1 h_2
          refine r_aload_n dX1_widen_22 rfl ?_
          refine r_iload_n dX1_widen_23 rfl ?_
          refine s_iald dX1_widen_24 rfl tX11_14 aX11_14 T.1 ?_
          have T := T.2
          refine r_istore_n dX1_widen_25 (by decide) rfl ?_
          refine r_aload_n dX1_widen_26 rfl ?_
          refine r_iload_n dX1_widen_27 rfl ?_
          refine r_iload_n dX1_widen_28 rfl ?_
          refine r_aload_n dX1_widen_29 rfl ?_
          refine r_iload_n dX1_widen_30 rfl ?_
          refine s_iald dX1_widen_31 rfl tX11_14 aX11_14 T.1 ?_
          have T := T.2
          refine r_ior dX1_widen_32 ?_
          refine n_iast dX1_widen_33 rfl tX11_14 aX11_14 T.1 (fun M1 hM1 => ?_)
          have T := T.2 M1 hM1
          refine r_aload_n dX1_widen_34 rfl ?_
          refine r_iload_n dX1_widen_35 rfl ?_
          refine s_iald dX1_widen_36 rfl tX11_14 aX11_14 T.1 ?_
          have T := T.2
          refine r_iload_n dX1_widen_37 rfl ?_
          refine r_icmp_eq (tgt := 45) dX1_widen_38 (by decide) (fun h_1 => ?_) (fun h_1 => ?_)
          · have T := T.1 h_1
            refine r_iconst dX1_widen_45 (by decide) ?_
            exact r_zreturn dX1_widen_46 rfl (by decide) ⟨_, rfl, T⟩
          · have T := T.2 h_1
            refine r_iconst dX1_widen_41 (by decide) ?_
            refine r_goto (tgt := 46) dX1_widen_42 (by decide) ?_
            exact r_zreturn dX1_widen_46 rfl (by decide) ⟨_, rfl, T⟩
        · have T := T.2 h_2
          refine r_iconst dX1_widen_20 (by decide) ?_
          exact r_zreturn dX1_widen_21 rfl (by decide) ⟨_, rfl, T⟩
theorem eX1_widen {G : Gx} {n : Nat} {M : Mem} {Q : Int → Mem → Prop}  {x0 : Int} {x1 : Int} (h : ∀ K : Kx, CW G K mX1_widen n 0 [some (vI x0), some (vI x1), some (vA 1 14), none] [] M (qI Q)) : OkI G n mX1_widen [vI x0, vI x1, vA 1 14] M Q := Ok_of (by decide) (Nat.le_of_ble_eq_true rfl) rfl h
-- DownOnly$Day copyFrom (LDownOnly$Day;)V
set_option maxRecDepth 20000 in
set_option maxHeartbeats 1000000 in
theorem bX0_copyFrom_0 {G : Gx} {K : Kx} {n : Nat} {M : Mem} {Q : Mem → Prop} {o : Nat} {o1 : Nat}  (h0 : oc o1 = 0) (h1 : oc o = 0) (T : ∀ M1 : Mem, M1 = mset M o 0 0 (M o1 0 0) → ∀ M2 : Mem, M2 = mset M1 o 1 0 (M1 o1 1 0) → OkV G n mX11_copyRow [vA o1 2, vA o 2] M2 (fun M3 => OkV G n mX11_copyRow [vA o1 3, vA o 3] M3 (fun M4 => OkV G n mX11_copyRow [vA o1 4, vA o 4] M4 (fun M5 => OkV G n mX11_copyRow [vA o1 5, vA o 5] M5 (fun M6 => Q M6))))) : CW G K mX0_copyFrom (n + 1) 0 [some (vO o), some (vO o1)] [] M (qV Q) := by
  refine r_aload_n dX0_copyFrom_0 rfl ?_
  refine r_aload_n dX0_copyFrom_1 rfl ?_
  refine r_getI dX0_copyFrom_2 fX0_24 h0 tX0_0 ?_
  refine n_put dX0_copyFrom_5 pX0_24 h1 tX0_0 (fun M1 hM1 => ?_)
  have T := T M1 hM1
  refine r_aload_n dX0_copyFrom_8 rfl ?_
  refine r_aload_n dX0_copyFrom_9 rfl ?_
  refine r_getI dX0_copyFrom_10 fX0_28 h0 tX0_1 ?_
  refine n_put dX0_copyFrom_13 pX0_28 h1 tX0_1 (fun M2 hM2 => ?_)
  have T := T M2 hM2
  refine r_aload_n dX0_copyFrom_16 rfl ?_
  refine r_getA dX0_copyFrom_17 fX0_9 h0 uX0_2 ?_
  refine r_aload_n dX0_copyFrom_20 rfl ?_
  refine r_getA dX0_copyFrom_21 fX0_9 h1 uX0_2 ?_
  refine r_callNV (md' := mX11_copyRow) (as := [vA o1 2, vA o 2]) dX0_copyFrom_24 nX0_31 iX11_copyRow rfl rfl (Nat.le_of_ble_eq_true rfl) T (fun M3 T => ?_)
  refine r_aload_n dX0_copyFrom_27 rfl ?_
  refine r_getA dX0_copyFrom_28 fX0_15 h0 uX0_3 ?_
  refine r_aload_n dX0_copyFrom_31 rfl ?_
  refine r_getA dX0_copyFrom_32 fX0_15 h1 uX0_3 ?_
  refine r_callNV (md' := mX11_copyRow) (as := [vA o1 3, vA o 3]) dX0_copyFrom_35 nX0_31 iX11_copyRow rfl rfl (Nat.le_of_ble_eq_true rfl) T (fun M4 T => ?_)
  refine r_aload_n dX0_copyFrom_38 rfl ?_
  refine r_getA dX0_copyFrom_39 fX0_18 h0 uX0_4 ?_
  refine r_aload_n dX0_copyFrom_42 rfl ?_
  refine r_getA dX0_copyFrom_43 fX0_18 h1 uX0_4 ?_
  refine r_callNV (md' := mX11_copyRow) (as := [vA o1 4, vA o 4]) dX0_copyFrom_46 nX0_31 iX11_copyRow rfl rfl (Nat.le_of_ble_eq_true rfl) T (fun M5 T => ?_)
  refine r_aload_n dX0_copyFrom_49 rfl ?_
  refine r_getA dX0_copyFrom_50 fX0_21 h0 uX0_5 ?_
  refine r_aload_n dX0_copyFrom_53 rfl ?_
  refine r_getA dX0_copyFrom_54 fX0_21 h1 uX0_5 ?_
  refine r_callNV (md' := mX11_copyRow) (as := [vA o1 5, vA o 5]) dX0_copyFrom_57 nX0_31 iX11_copyRow rfl rfl (Nat.le_of_ble_eq_true rfl) T (fun M6 T => ?_)
  exact r_return dX0_copyFrom_60 rfl ⟨rfl, T⟩
theorem eX0_copyFrom {G : Gx} {n : Nat} {M : Mem} {Q : Mem → Prop} {o : Nat} {o1 : Nat}  (h : ∀ K : Kx, CW G K mX0_copyFrom n 0 [some (vO o), some (vO o1)] [] M (qV Q)) : OkV G n mX0_copyFrom [vO o, vO o1] M Q := Ok_of (by decide) (Nat.le_of_ble_eq_true rfl) rfl h
-- DownOnly$Day begin (LDownOnly$House;)V
set_option maxRecDepth 20000 in
set_option maxHeartbeats 1000000 in
theorem bX0_begin_0 {G : Gx} {K : Kx} {n : Nat} {M : Mem} {Q : Mem → Prop} {o : Nat} {o1 : Nat}  (h0 : oc o = 0) (h1 : oc o1 = 1) (T : ∀ M1 : Mem, M1 = mset M o 0 0 0 → ∀ M2 : Mem, M2 = mset M1 o 1 0 0 → OkV G n mX11_copyRow [vA o1 14, vA o 2] M2 (fun M3 => OkV G n mJ7_fill_53178 [vA o 3, vI 0] M3 (fun M4 => OkV G n mJ7_fill_53178 [vA o 4, vI (-1)] M4 (fun M5 => OkV G n mJ7_fill_53178 [vA o 5, vI (-1)] M5 (fun M6 => Q M6))))) : CW G K mX0_begin (n + 1) 0 [some (vO o), some (vO o1)] [] M (qV Q) := by
  refine r_aload_n dX0_begin_0 rfl ?_
  refine r_iconst dX0_begin_1 (by decide) ?_
  refine n_put dX0_begin_2 pX0_24 h0 tX0_0 (fun M1 hM1 => ?_)
  have T := T M1 hM1
  refine r_aload_n dX0_begin_5 rfl ?_
  refine r_iconst dX0_begin_6 (by decide) ?_
  refine n_put dX0_begin_7 pX0_28 h0 tX0_1 (fun M2 hM2 => ?_)
  have T := T M2 hM2
  refine r_aload_n dX0_begin_10 rfl ?_
  refine r_getA dX0_begin_11 fX0_35 h1 uX1_14 ?_
  refine r_aload_n dX0_begin_14 rfl ?_
  refine r_getA dX0_begin_15 fX0_9 h0 uX0_2 ?_
  refine r_callNV (md' := mX11_copyRow) (as := [vA o1 14, vA o 2]) dX0_begin_18 nX0_31 iX11_copyRow rfl rfl (Nat.le_of_ble_eq_true rfl) T (fun M3 T => ?_)
  refine r_aload_n dX0_begin_21 rfl ?_
  refine r_getA dX0_begin_22 fX0_15 h0 uX0_3 ?_
  refine r_iconst dX0_begin_25 (by decide) ?_
  refine r_callSV (md' := mJ7_fill_53178) (as := [vA o 3, vI 0]) dX0_begin_26 lX0_40 iJ7_fill_53178 rfl rfl (Nat.le_of_ble_eq_true rfl) T (fun M4 T => ?_)
  refine r_aload_n dX0_begin_29 rfl ?_
  refine r_getA dX0_begin_30 fX0_18 h0 uX0_4 ?_
  refine r_iconst dX0_begin_33 (by decide) ?_
  refine r_callSV (md' := mJ7_fill_53178) (as := [vA o 4, vI (-1)]) dX0_begin_34 lX0_40 iJ7_fill_53178 rfl rfl (Nat.le_of_ble_eq_true rfl) T (fun M5 T => ?_)
  refine r_aload_n dX0_begin_37 rfl ?_
  refine r_getA dX0_begin_38 fX0_21 h0 uX0_5 ?_
  refine r_iconst dX0_begin_41 (by decide) ?_
  refine r_callSV (md' := mJ7_fill_53178) (as := [vA o 5, vI (-1)]) dX0_begin_42 lX0_40 iJ7_fill_53178 rfl rfl (Nat.le_of_ble_eq_true rfl) T (fun M6 T => ?_)
  exact r_return dX0_begin_45 rfl ⟨rfl, T⟩
theorem eX0_begin {G : Gx} {n : Nat} {M : Mem} {Q : Mem → Prop} {o : Nat} {o1 : Nat}  (h : ∀ K : Kx, CW G K mX0_begin n 0 [some (vO o), some (vO o1)] [] M (qV Q)) : OkV G n mX0_begin [vO o, vO o1] M Q := Ok_of (by decide) (Nat.le_of_ble_eq_true rfl) rfl h
-- DownOnly$Day beginDrawn (LDownOnly$House;I)I
set_option maxRecDepth 20000 in
set_option maxHeartbeats 1000000 in
theorem bX0_beginDrawn_0 {G : Gx} {K : Kx} {n : Nat} {M : Mem} {Q : Int → Mem → Prop} {o : Nat} {o1 : Nat} {x2 : Int} (h0 : oc o = 0) (T : OkV G n mX0_begin [vO o, vO o1] M (fun M1 => CW G K mX0_beginDrawn (n + 1) 11 [some (vO o), some (vO o1), none, some (vL x2), none, some (vI 0)] [] M1 (qI Q))) : CW G K mX0_beginDrawn (n + 1) 0 [some (vO o), some (vO o1), some (vI x2), none, none, none] [] M (qI Q) := by
  refine r_aload_n dX0_beginDrawn_0 rfl ?_
  refine r_aload_n dX0_beginDrawn_1 rfl ?_
  refine r_callVV (md' := mX0_begin) (as := [vO o1]) dX0_beginDrawn_2 lX0_46 iX0_begin h0 rfl rfl (Nat.le_of_ble_eq_true rfl) T (fun M1 T => ?_)
  refine r_iload_n dX0_beginDrawn_5 rfl ?_
  refine r_i2l dX0_beginDrawn_6 ?_
  refine r_lstore_n dX0_beginDrawn_7 (by decide) rfl ?_
  refine r_iconst dX0_beginDrawn_8 (by decide) ?_
  refine r_istore dX0_beginDrawn_9 (by decide) rfl ?_
  exact CW_msk [true, true, false, true, false, true] rfl T
set_option maxRecDepth 20000 in
set_option maxHeartbeats 1000000 in
theorem bX0_beginDrawn_11 {G : Gx} {K : Kx} {n : Nat} {M : Mem} {Q : Int → Mem → Prop} {o : Nat} {o1 : Nat} {x3 : Int} {x5 : Int} (h0 : oc o = 0) (h1 : oc o1 = 1) (T : (M o1 2 0 ≤ x5 → Q (wr x3) M) ∧ (¬ (M o1 2 0 ≤ x5) → (8 ≤ x5 → Q (wr x3) M) ∧ (¬ (8 ≤ x5) → (M o1 0 0 ≤ 0 → (0 ≤ x5 ∧ x5 < 8) ∧ (∀ M1 : Mem, M1 = mset M o 2 x5.toNat (-1) → CW G K mX0_beginDrawn (n + 1) 11 [some (vO o), some (vO o1), none, some (vL (wl (Int.tmod (wl (wl (x3 * 1103515245) + 12345)) 2147483648))), none, some (vI (wr (x5 + 1)))] [] M1 (qI Q))) ∧ (¬ (M o1 0 0 ≤ 0) → ((M o1 0 0) ≠ 0) ∧ ((0 ≤ x5 ∧ x5 < 8) ∧ (∀ M2 : Mem, M2 = mset M o 2 x5.toNat (wr (Int.tmod (wr (wl (Int.tdiv (wl (Int.tmod (wl (wl (x3 * 1103515245) + 12345)) 2147483648)) 65536))) (M o1 0 0))) → CW G K mX0_beginDrawn (n + 1) 11 [some (vO o), some (vO o1), none, some (vL (wl (Int.tmod (wl (wl (x3 * 1103515245) + 12345)) 2147483648))), none, some (vI (wr (x5 + 1)))] [] M2 (qI Q))))))) : CW G K mX0_beginDrawn (n + 1) 11 [some (vO o), some (vO o1), none, some (vL x3), none, some (vI x5)] [] M (qI Q) := by
  refine r_iload dX0_beginDrawn_11 rfl ?_
  refine r_aload_n dX0_beginDrawn_13 rfl ?_
  refine r_getI dX0_beginDrawn_14 fX0_50 h1 tX1_2 ?_
  refine r_icmp_ge (tgt := 76) dX0_beginDrawn_17 (by decide) (fun h_3 => ?_) (fun h_3 => ?_)
  · have T := T.1 h_3
    refine r_lload_n dX0_beginDrawn_76 rfl ?_
    refine r_l2i dX0_beginDrawn_77 ?_
    exact r_ireturn dX0_beginDrawn_78 rfl ⟨_, rfl, T⟩
  · have T := T.2 h_3
    refine r_iload dX0_beginDrawn_20 rfl ?_
    refine r_bipush dX0_beginDrawn_22 (by decide) (by decide) ?_
    refine r_icmp_ge (tgt := 76) dX0_beginDrawn_24 (by decide) (fun h_2 => ?_) (fun h_2 => ?_)
    · have T := T.1 h_2
      refine r_lload_n dX0_beginDrawn_76 rfl ?_
      refine r_l2i dX0_beginDrawn_77 ?_
      exact r_ireturn dX0_beginDrawn_78 rfl ⟨_, rfl, T⟩
    · have T := T.2 h_2
      refine r_lload_n dX0_beginDrawn_27 rfl ?_
      refine r_ldc2 (z := 1103515245) dX0_beginDrawn_28 kX0_53 (by decide) (by decide) ?_
      refine r_lmul dX0_beginDrawn_31 ?_
      refine r_ldc2 (z := 12345) dX0_beginDrawn_32 kX0_55 (by decide) (by decide) ?_
      refine r_ladd dX0_beginDrawn_35 ?_
      refine r_ldc2 (z := 2147483648) dX0_beginDrawn_36 kX0_57 (by decide) (by decide) ?_
      refine r_lrem dX0_beginDrawn_39 (by decide) ?_
      refine r_lstore_n dX0_beginDrawn_40 (by decide) rfl ?_
      refine r_aload_n dX0_beginDrawn_41 rfl ?_
      refine r_getA dX0_beginDrawn_42 fX0_9 h0 uX0_2 ?_
      refine r_iload dX0_beginDrawn_45 rfl ?_
      refine r_aload_n dX0_beginDrawn_47 rfl ?_
      refine r_getI dX0_beginDrawn_48 fX0_59 h1 tX1_0 ?_
      refine r_if_le (tgt := 68) dX0_beginDrawn_51 (by decide) (fun h_1 => ?_) (fun h_1 => ?_)
      · have T := T.1 h_1
        refine r_iconst dX0_beginDrawn_68 (by decide) ?_
        refine n_iast dX0_beginDrawn_69 h0 tX0_2 aX0_2 T.1 (fun M1 hM1 => ?_)
        have T := T.2 M1 hM1
        refine r_iinc dX0_beginDrawn_70 rfl (by decide) rfl ?_
        refine r_goto (tgt := 11) dX0_beginDrawn_73 (by decide) ?_
        exact T
      · have T := T.2 h_1
        refine r_lload_n dX0_beginDrawn_54 rfl ?_
        refine r_ldc2 (z := 65536) dX0_beginDrawn_55 kX0_62 (by decide) (by decide) ?_
        refine r_ldiv dX0_beginDrawn_58 (by decide) ?_
        refine r_l2i dX0_beginDrawn_59 ?_
        refine r_aload_n dX0_beginDrawn_60 rfl ?_
        refine r_getI dX0_beginDrawn_61 fX0_59 h1 tX1_0 ?_
        refine r_irem dX0_beginDrawn_64 T.1 ?_
        have T := T.2
        refine r_goto (tgt := 69) dX0_beginDrawn_65 (by decide) ?_
        refine n_iast dX0_beginDrawn_69 h0 tX0_2 aX0_2 T.1 (fun M2 hM2 => ?_)
        have T := T.2 M2 hM2
        refine r_iinc dX0_beginDrawn_70 rfl (by decide) rfl ?_
        refine r_goto (tgt := 11) dX0_beginDrawn_73 (by decide) ?_
        exact T
theorem eX0_beginDrawn {G : Gx} {n : Nat} {M : Mem} {Q : Int → Mem → Prop} {o : Nat} {o1 : Nat} {x2 : Int} (h : ∀ K : Kx, CW G K mX0_beginDrawn n 0 [some (vO o), some (vO o1), some (vI x2), none, none, none] [] M (qI Q)) : OkI G n mX0_beginDrawn [vO o, vO o1, vI x2] M Q := Ok_of (by decide) (Nat.le_of_ble_eq_true rfl) rfl h
-- DownOnly$Day peopleIn (LDownOnly$House;I)I
set_option maxRecDepth 20000 in
set_option maxHeartbeats 1000000 in
theorem bX0_peopleIn_0 {G : Gx} {K : Kx} {n : Nat} {M : Mem} {Q : Int → Mem → Prop} {o : Nat} {o1 : Nat} {x2 : Int}  (T : CW G K mX0_peopleIn n 5 [some (vO o), some (vO o1), some (vI x2), some (vI 0), some (vI 0)] [] M (qI Q)) : CW G K mX0_peopleIn n 0 [some (vO o), some (vO o1), some (vI x2), none, none] [] M (qI Q) := by
  refine r_iconst dX0_peopleIn_0 (by decide) ?_
  refine r_istore_n dX0_peopleIn_1 (by decide) rfl ?_
  refine r_iconst dX0_peopleIn_2 (by decide) ?_
  refine r_istore dX0_peopleIn_3 (by decide) rfl ?_
  exact T
set_option maxRecDepth 20000 in
set_option maxHeartbeats 1000000 in
theorem bX0_peopleIn_5 {G : Gx} {K : Kx} {n : Nat} {M : Mem} {Q : Int → Mem → Prop} {o : Nat} {o1 : Nat} {x2 : Int} {x3 : Int} {x4 : Int} (h0 : oc o1 = 1) (h1 : oc o = 0) (T : (M o1 2 0 ≤ x4 → Q x3 M) ∧ (¬ (M o1 2 0 ≤ x4) → (8 ≤ x4 → Q x3 M) ∧ (¬ (8 ≤ x4) → (0 ≤ x4 ∧ x4 < 8) ∧ ((¬ M o 2 x4.toNat = x2 → CW G K mX0_peopleIn n 5 [some (vO o), some (vO o1), some (vI x2), some (vI x3), some (vI (wr (x4 + 1)))] [] M (qI Q)) ∧ (M o 2 x4.toNat = x2 → CW G K mX0_peopleIn n 5 [some (vO o), some (vO o1), some (vI x2), some (vI (bOr x3 (bShl 1 x4))), some (vI (wr (x4 + 1)))] [] M (qI Q)))))) : CW G K mX0_peopleIn n 5 [some (vO o), some (vO o1), some (vI x2), some (vI x3), some (vI x4)] [] M (qI Q) := by
  refine r_iload dX0_peopleIn_5 rfl ?_
  refine r_aload_n dX0_peopleIn_7 rfl ?_
  refine r_getI dX0_peopleIn_8 fX0_50 h0 tX1_2 ?_
  refine r_icmp_ge (tgt := 45) dX0_peopleIn_11 (by decide) (fun h_3 => ?_) (fun h_3 => ?_)
  · have T := T.1 h_3
    refine r_iload_n dX0_peopleIn_45 rfl ?_
    exact r_ireturn dX0_peopleIn_46 rfl ⟨_, rfl, T⟩
  · have T := T.2 h_3
    refine r_iload dX0_peopleIn_14 rfl ?_
    refine r_bipush dX0_peopleIn_16 (by decide) (by decide) ?_
    refine r_icmp_ge (tgt := 45) dX0_peopleIn_18 (by decide) (fun h_2 => ?_) (fun h_2 => ?_)
    · have T := T.1 h_2
      refine r_iload_n dX0_peopleIn_45 rfl ?_
      exact r_ireturn dX0_peopleIn_46 rfl ⟨_, rfl, T⟩
    · have T := T.2 h_2
      refine r_aload_n dX0_peopleIn_21 rfl ?_
      refine r_getA dX0_peopleIn_22 fX0_9 h1 uX0_2 ?_
      refine r_iload dX0_peopleIn_25 rfl ?_
      refine s_iald dX0_peopleIn_27 h1 tX0_2 aX0_2 T.1 ?_
      have T := T.2
      refine r_iload_n dX0_peopleIn_28 rfl ?_
      refine r_icmp_ne (tgt := 39) dX0_peopleIn_29 (by decide) (fun h_1 => ?_) (fun h_1 => ?_)
      · have T := T.1 h_1
        refine r_iinc dX0_peopleIn_39 rfl (by decide) rfl ?_
        refine r_goto (tgt := 5) dX0_peopleIn_42 (by decide) ?_
        exact T
      · have T := T.2 h_1
        refine r_iload_n dX0_peopleIn_32 rfl ?_
        refine r_iconst dX0_peopleIn_33 (by decide) ?_
        refine r_iload dX0_peopleIn_34 rfl ?_
        refine r_ishl dX0_peopleIn_36 ?_
        refine r_ior dX0_peopleIn_37 ?_
        refine r_istore_n dX0_peopleIn_38 (by decide) rfl ?_
        refine r_iinc dX0_peopleIn_39 rfl (by decide) rfl ?_
        refine r_goto (tgt := 5) dX0_peopleIn_42 (by decide) ?_
        exact T
theorem eX0_peopleIn {G : Gx} {n : Nat} {M : Mem} {Q : Int → Mem → Prop} {o : Nat} {o1 : Nat} {x2 : Int} (h : ∀ K : Kx, CW G K mX0_peopleIn n 0 [some (vO o), some (vO o1), some (vI x2), none, none] [] M (qI Q)) : OkI G n mX0_peopleIn [vO o, vO o1, vI x2] M Q := Ok_of (by decide) (Nat.le_of_ble_eq_true rfl) rfl h
-- DownOnly$Day tally (LDownOnly$House;I)I
set_option maxRecDepth 20000 in
set_option maxHeartbeats 1000000 in
theorem bX0_tally_0 {G : Gx} {K : Kx} {n : Nat} {M : Mem} {Q : Int → Mem → Prop} {o : Nat} {o1 : Nat} {x2 : Int}  (T : CW G K mX0_tally n 5 [some (vO o), some (vO o1), some (vI x2), some (vI 0), some (vI 0), none] [] M (qI Q)) : CW G K mX0_tally n 0 [some (vO o), some (vO o1), some (vI x2), none, none, none] [] M (qI Q) := by
  refine r_iconst dX0_tally_0 (by decide) ?_
  refine r_istore_n dX0_tally_1 (by decide) rfl ?_
  refine r_iconst dX0_tally_2 (by decide) ?_
  refine r_istore dX0_tally_3 (by decide) rfl ?_
  exact T
set_option maxRecDepth 20000 in
set_option maxHeartbeats 1000000 in
theorem bX0_tally_5 {G : Gx} {K : Kx} {n : Nat} {M : Mem} {Q : Int → Mem → Prop} {o : Nat} {o1 : Nat} {x2 : Int} {x3 : Int} {x4 : Int} (h0 : oc o1 = 1) (h1 : oc o = 0) (T : (M o1 2 0 ≤ x4 → Q x3 M) ∧ (¬ (M o1 2 0 ≤ x4) → (8 ≤ x4 → Q x3 M) ∧ (¬ (8 ≤ x4) → (¬ x2 = 0 → (¬ x2 = 1 → (0 ≤ x4 ∧ x4 < 8) ∧ ((¬ M o 3 x4.toNat = 1 → CW G K mX0_tally n 90 [some (vO o), some (vO o1), some (vI x2), some (vI x3), some (vI x4), none] [vI 0] M (qI Q)) ∧ (M o 3 x4.toNat = 1 → CW G K mX0_tally n 90 [some (vO o), some (vO o1), some (vI x2), some (vI x3), some (vI x4), none] [vI 1] M (qI Q)))) ∧ (x2 = 1 → (0 ≤ x4 ∧ x4 < 8) ∧ ((¬ M o 2 x4.toNat = (-1) → CW G K mX0_tally n 90 [some (vO o), some (vO o1), some (vI x2), some (vI x3), some (vI x4), none] [vI 0] M (qI Q)) ∧ (M o 2 x4.toNat = (-1) → CW G K mX0_tally n 90 [some (vO o), some (vO o1), some (vI x2), some (vI x3), some (vI x4), none] [vI 1] M (qI Q))))) ∧ (x2 = 0 → (0 ≤ x4 ∧ x4 < 8) ∧ ((0 ≤ x4 ∧ x4 < 8) ∧ ((¬ M o 2 x4.toNat = M o1 14 x4.toNat → CW G K mX0_tally n 90 [some (vO o), some (vO o1), some (vI x2), some (vI x3), some (vI x4), none] [vI 0] M (qI Q)) ∧ (M o 2 x4.toNat = M o1 14 x4.toNat → CW G K mX0_tally n 90 [some (vO o), some (vO o1), some (vI x2), some (vI x3), some (vI x4), none] [vI 1] M (qI Q)))))))) : CW G K mX0_tally n 5 [some (vO o), some (vO o1), some (vI x2), some (vI x3), some (vI x4), none] [] M (qI Q) := by
  refine r_iload dX0_tally_5 rfl ?_
  refine r_aload_n dX0_tally_7 rfl ?_
  refine r_getI dX0_tally_8 fX0_50 h0 tX1_2 ?_
  refine r_icmp_ge (tgt := 111) dX0_tally_11 (by decide) (fun h_7 => ?_) (fun h_7 => ?_)
  · have T := T.1 h_7
    refine r_iload_n dX0_tally_111 rfl ?_
    exact r_ireturn dX0_tally_112 rfl ⟨_, rfl, T⟩
  · have T := T.2 h_7
    refine r_iload dX0_tally_14 rfl ?_
    refine r_bipush dX0_tally_16 (by decide) (by decide) ?_
    refine r_icmp_ge (tgt := 111) dX0_tally_18 (by decide) (fun h_6 => ?_) (fun h_6 => ?_)
    · have T := T.1 h_6
      refine r_iload_n dX0_tally_111 rfl ?_
      exact r_ireturn dX0_tally_112 rfl ⟨_, rfl, T⟩
    · have T := T.2 h_6
      refine r_iload_n dX0_tally_21 rfl ?_
      refine r_if_ne (tgt := 50) dX0_tally_22 (by decide) (fun h_5 => ?_) (fun h_5 => ?_)
      · have T := T.1 h_5
        refine r_iload_n dX0_tally_50 rfl ?_
        refine r_iconst dX0_tally_51 (by decide) ?_
        refine r_icmp_ne (tgt := 74) dX0_tally_52 (by decide) (fun h_3 => ?_) (fun h_3 => ?_)
        · have T := T.1 h_3
          refine r_aload_n dX0_tally_74 rfl ?_
          refine r_getA dX0_tally_75 fX0_15 h1 uX0_3 ?_
          refine r_iload dX0_tally_78 rfl ?_
          refine s_iald dX0_tally_80 h1 tX0_3 aX0_3 T.1 ?_
          have T := T.2
          refine r_iconst dX0_tally_81 (by decide) ?_
          refine r_icmp_ne (tgt := 89) dX0_tally_82 (by decide) (fun h_1 => ?_) (fun h_1 => ?_)
          · have T := T.1 h_1
            refine r_iconst dX0_tally_89 (by decide) ?_
            exact T
          · have T := T.2 h_1
            refine r_iconst dX0_tally_85 (by decide) ?_
            refine r_goto (tgt := 90) dX0_tally_86 (by decide) ?_
            exact T
        · have T := T.2 h_3
          refine r_aload_n dX0_tally_55 rfl ?_
          refine r_getA dX0_tally_56 fX0_9 h1 uX0_2 ?_
          refine r_iload dX0_tally_59 rfl ?_
          refine s_iald dX0_tally_61 h1 tX0_2 aX0_2 T.1 ?_
          have T := T.2
          refine r_iconst dX0_tally_62 (by decide) ?_
          refine r_icmp_ne (tgt := 70) dX0_tally_63 (by decide) (fun h_2 => ?_) (fun h_2 => ?_)
          · have T := T.1 h_2
            refine r_iconst dX0_tally_70 (by decide) ?_
            refine r_goto (tgt := 90) dX0_tally_71 (by decide) ?_
            exact T
          · have T := T.2 h_2
            refine r_iconst dX0_tally_66 (by decide) ?_
            refine r_goto (tgt := 90) dX0_tally_67 (by decide) ?_
            exact T
      · have T := T.2 h_5
        refine r_aload_n dX0_tally_25 rfl ?_
        refine r_getA dX0_tally_26 fX0_9 h1 uX0_2 ?_
        refine r_iload dX0_tally_29 rfl ?_
        refine s_iald dX0_tally_31 h1 tX0_2 aX0_2 T.1 ?_
        have T := T.2
        refine r_aload_n dX0_tally_32 rfl ?_
        refine r_getA dX0_tally_33 fX0_35 h0 uX1_14 ?_
        refine r_iload dX0_tally_36 rfl ?_
        refine s_iald dX0_tally_38 h0 tX1_14 aX1_14 T.1 ?_
        have T := T.2
        refine r_icmp_ne (tgt := 46) dX0_tally_39 (by decide) (fun h_4 => ?_) (fun h_4 => ?_)
        · have T := T.1 h_4
          refine r_iconst dX0_tally_46 (by decide) ?_
          refine r_goto (tgt := 90) dX0_tally_47 (by decide) ?_
          exact T
        · have T := T.2 h_4
          refine r_iconst dX0_tally_42 (by decide) ?_
          refine r_goto (tgt := 90) dX0_tally_43 (by decide) ?_
          exact T
set_option maxRecDepth 20000 in
set_option maxHeartbeats 1000000 in
theorem bX0_tally_90 {G : Gx} {K : Kx} {n : Nat} {M : Mem} {Q : Int → Mem → Prop} {o : Nat} {o1 : Nat} {x2 : Int} {x3 : Int} {x4 : Int} {z0 : Int}  (T : (z0 = 0 → CW G K mX0_tally n 5 [some (vO o), some (vO o1), some (vI x2), some (vI (wr (x3 + 0))), some (vI (wr (x4 + 1))), none] [] M (qI Q)) ∧ (¬ (z0 = 0) → CW G K mX0_tally n 5 [some (vO o), some (vO o1), some (vI x2), some (vI (wr (x3 + 1))), some (vI (wr (x4 + 1))), none] [] M (qI Q))) : CW G K mX0_tally n 90 [some (vO o), some (vO o1), some (vI x2), some (vI x3), some (vI x4), none] [vI z0] M (qI Q) := by
  refine r_istore dX0_tally_90 (by decide) rfl ?_
  refine r_iload_n dX0_tally_92 rfl ?_
  refine r_iload dX0_tally_93 rfl ?_
  refine r_if_eq (tgt := 102) dX0_tally_95 (by decide) (fun h_1 => ?_) (fun h_1 => ?_)
  · have T := T.1 h_1
    refine r_iconst dX0_tally_102 (by decide) ?_
    refine r_iadd dX0_tally_103 ?_
    refine r_istore_n dX0_tally_104 (by decide) rfl ?_
    refine r_iinc dX0_tally_105 rfl (by decide) rfl ?_
    refine r_goto (tgt := 5) dX0_tally_108 (by decide) ?_
    exact CW_msk [true, true, true, true, true, false] rfl T
  · have T := T.2 h_1
    refine r_iconst dX0_tally_98 (by decide) ?_
    refine r_goto (tgt := 103) dX0_tally_99 (by decide) ?_
    refine r_iadd dX0_tally_103 ?_
    refine r_istore_n dX0_tally_104 (by decide) rfl ?_
    refine r_iinc dX0_tally_105 rfl (by decide) rfl ?_
    refine r_goto (tgt := 5) dX0_tally_108 (by decide) ?_
    exact CW_msk [true, true, true, true, true, false] rfl T
theorem eX0_tally {G : Gx} {n : Nat} {M : Mem} {Q : Int → Mem → Prop} {o : Nat} {o1 : Nat} {x2 : Int} (h : ∀ K : Kx, CW G K mX0_tally n 0 [some (vO o), some (vO o1), some (vI x2), none, none, none] [] M (qI Q)) : OkI G n mX0_tally [vO o, vO o1, vI x2] M Q := Ok_of (by decide) (Nat.le_of_ble_eq_true rfl) rfl h
-- DownOnly$Day canTake (LDownOnly$House;II)Z
set_option maxRecDepth 20000 in
set_option maxHeartbeats 1000000 in
theorem bX0_canTake_0 {G : Gx} {K : Kx} {n : Nat} {M : Mem} {Q : Int → Mem → Prop} {o : Nat} {o1 : Nat} {x2 : Int} {x3 : Int} (h0 : oc o1 = 1) (h1 : oc o = 0) (T : OkI G n mX1_isPerson [vO o1, vI x2] M (fun r_1 M1 => (r_1 = 0 → Q 0 M1) ∧ (¬ (r_1 = 0) → OkI G n mX1_isWay [vO o1, vI x3] M1 (fun r_2 M2 => (¬ r_2 = 0 → (0 ≤ x2 ∧ x2 < 8) ∧ (OkI G n mX1_leadsTo [vO o1, vI x3, vI (M2 o 2 x2.toNat)] M2 (fun r_3 M3 => (r_3 = (-1) → Q 0 M3) ∧ (¬ (r_3 = (-1)) → OkI G n mX1_openFrom [vO o1, vI x3, vI (M3 o 0 0)] M3 (fun r_4 M4 => (¬ r_4 = M4 o 0 0 → Q 0 M4) ∧ (r_4 = M4 o 0 0 → Q 1 M4)))))) ∧ (r_2 = 0 → Q 0 M2))))) : CW G K mX0_canTake (n + 1) 0 [some (vO o), some (vO o1), some (vI x2), some (vI x3)] [] M (qI Q) := by
  refine r_aload_n dX0_canTake_0 rfl ?_
  refine r_iload_n dX0_canTake_1 rfl ?_
  refine r_callVI (md' := mX1_isPerson) (as := [vI x2]) dX0_canTake_2 lX0_64 iX1_isPerson h0 rfl rfl (Nat.le_of_ble_eq_true rfl) T (fun r_1 M1 T => ?_)
  refine r_if_eq (tgt := 16) dX0_canTake_5 (by decide) (fun h_4 => ?_) (fun h_4 => ?_)
  · have T := T.1 h_4
    refine r_iconst dX0_canTake_16 (by decide) ?_
    exact r_zreturn dX0_canTake_17 rfl (by decide) ⟨_, rfl, T⟩
  · have T := T.2 h_4
    refine r_aload_n dX0_canTake_8 rfl ?_
    refine r_iload_n dX0_canTake_9 rfl ?_
    refine r_callVI (md' := mX1_isWay) (as := [vI x3]) dX0_canTake_10 lX0_68 iX1_isWay h0 rfl rfl (Nat.le_of_ble_eq_true rfl) T (fun r_2 M2 T => ?_)
    refine r_if_ne (tgt := 18) dX0_canTake_13 (by decide) (fun h_3 => ?_) (fun h_3 => ?_)
    · have T := T.1 h_3
      refine r_aload_n dX0_canTake_18 rfl ?_
      refine r_iload_n dX0_canTake_19 rfl ?_
      refine r_aload_n dX0_canTake_20 rfl ?_
      refine r_getA dX0_canTake_21 fX0_9 h1 uX0_2 ?_
      refine r_iload_n dX0_canTake_24 rfl ?_
      refine s_iald dX0_canTake_25 h1 tX0_2 aX0_2 T.1 ?_
      have T := T.2
      refine r_callVI (md' := mX1_leadsTo) (as := [vI x3, vI (M2 o 2 x2.toNat)]) dX0_canTake_26 lX0_71 iX1_leadsTo h0 rfl rfl (Nat.le_of_ble_eq_true rfl) T (fun r_3 M3 T => ?_)
      refine r_iconst dX0_canTake_29 (by decide) ?_
      refine r_icmp_eq (tgt := 53) dX0_canTake_30 (by decide) (fun h_2 => ?_) (fun h_2 => ?_)
      · have T := T.1 h_2
        refine r_iconst dX0_canTake_53 (by decide) ?_
        exact r_zreturn dX0_canTake_54 rfl (by decide) ⟨_, rfl, T⟩
      · have T := T.2 h_2
        refine r_aload_n dX0_canTake_33 rfl ?_
        refine r_iload_n dX0_canTake_34 rfl ?_
        refine r_aload_n dX0_canTake_35 rfl ?_
        refine r_getI dX0_canTake_36 fX0_24 h1 tX0_0 ?_
        refine r_callVI (md' := mX1_openFrom) (as := [vI x3, vI (M3 o 0 0)]) dX0_canTake_39 lX0_75 iX1_openFrom h0 rfl rfl (Nat.le_of_ble_eq_true rfl) T (fun r_4 M4 T => ?_)
        refine r_aload_n dX0_canTake_42 rfl ?_
        refine r_getI dX0_canTake_43 fX0_24 h1 tX0_0 ?_
        refine r_icmp_ne (tgt := 53) dX0_canTake_46 (by decide) (fun h_1 => ?_) (fun h_1 => ?_)
        · have T := T.1 h_1
          refine r_iconst dX0_canTake_53 (by decide) ?_
          exact r_zreturn dX0_canTake_54 rfl (by decide) ⟨_, rfl, T⟩
        · have T := T.2 h_1
          refine r_iconst dX0_canTake_49 (by decide) ?_
          refine r_goto (tgt := 54) dX0_canTake_50 (by decide) ?_
          exact r_zreturn dX0_canTake_54 rfl (by decide) ⟨_, rfl, T⟩
    · have T := T.2 h_3
      refine r_iconst dX0_canTake_16 (by decide) ?_
      exact r_zreturn dX0_canTake_17 rfl (by decide) ⟨_, rfl, T⟩
theorem eX0_canTake {G : Gx} {n : Nat} {M : Mem} {Q : Int → Mem → Prop} {o : Nat} {o1 : Nat} {x2 : Int} {x3 : Int} (h : ∀ K : Kx, CW G K mX0_canTake n 0 [some (vO o), some (vO o1), some (vI x2), some (vI x3)] [] M (qI Q)) : OkI G n mX0_canTake [vO o, vO o1, vI x2, vI x3] M Q := Ok_of (by decide) (Nat.le_of_ble_eq_true rfl) rfl h
-- DownOnly$Day canRide (LDownOnly$House;I)Z
set_option maxRecDepth 20000 in
set_option maxHeartbeats 1000000 in
theorem bX0_canRide_0 {G : Gx} {K : Kx} {n : Nat} {M : Mem} {Q : Int → Mem → Prop} {o : Nat} {o1 : Nat} {x2 : Int} (h0 : oc o1 = 1) (h1 : oc o = 0) (T : OkI G n mX1_isPerson [vO o1, vI x2] M (fun r_1 M1 => (r_1 = 0 → Q 0 M1) ∧ (¬ (r_1 = 0) → (0 ≤ x2 ∧ x2 < 8) ∧ ((¬ M1 o 3 x2.toNat = 1 → (M1 o1 5 0 ≤ M1 o 1 0 → Q 0 M1) ∧ (¬ (M1 o1 5 0 ≤ M1 o 1 0) → OkI G n mX1_hoistLeaves [vO o1, vI (M1 o 0 0)] M1 (fun r_2 M2 => (¬ r_2 = M2 o 0 0 → Q 0 M2) ∧ (r_2 = M2 o 0 0 → Q 1 M2)))) ∧ (M1 o 3 x2.toNat = 1 → Q 0 M1))))) : CW G K mX0_canRide (n + 1) 0 [some (vO o), some (vO o1), some (vI x2)] [] M (qI Q) := by
  refine r_aload_n dX0_canRide_0 rfl ?_
  refine r_iload_n dX0_canRide_1 rfl ?_
  refine r_callVI (md' := mX1_isPerson) (as := [vI x2]) dX0_canRide_2 lX0_64 iX1_isPerson h0 rfl rfl (Nat.le_of_ble_eq_true rfl) T (fun r_1 M1 T => ?_)
  refine r_if_eq (tgt := 18) dX0_canRide_5 (by decide) (fun h_4 => ?_) (fun h_4 => ?_)
  · have T := T.1 h_4
    refine r_iconst dX0_canRide_18 (by decide) ?_
    exact r_zreturn dX0_canRide_19 rfl (by decide) ⟨_, rfl, T⟩
  · have T := T.2 h_4
    refine r_aload_n dX0_canRide_8 rfl ?_
    refine r_getA dX0_canRide_9 fX0_15 h1 uX0_3 ?_
    refine r_iload_n dX0_canRide_12 rfl ?_
    refine s_iald dX0_canRide_13 h1 tX0_3 aX0_3 T.1 ?_
    have T := T.2
    refine r_iconst dX0_canRide_14 (by decide) ?_
    refine r_icmp_ne (tgt := 20) dX0_canRide_15 (by decide) (fun h_3 => ?_) (fun h_3 => ?_)
    · have T := T.1 h_3
      refine r_aload_n dX0_canRide_20 rfl ?_
      refine r_getI dX0_canRide_21 fX0_28 h1 tX0_1 ?_
      refine r_aload_n dX0_canRide_24 rfl ?_
      refine r_getI dX0_canRide_25 fX0_78 h0 tX1_5 ?_
      refine r_icmp_ge (tgt := 50) dX0_canRide_28 (by decide) (fun h_2 => ?_) (fun h_2 => ?_)
      · have T := T.1 h_2
        refine r_iconst dX0_canRide_50 (by decide) ?_
        exact r_zreturn dX0_canRide_51 rfl (by decide) ⟨_, rfl, T⟩
      · have T := T.2 h_2
        refine r_aload_n dX0_canRide_31 rfl ?_
        refine r_aload_n dX0_canRide_32 rfl ?_
        refine r_getI dX0_canRide_33 fX0_24 h1 tX0_0 ?_
        refine r_callVI (md' := mX1_hoistLeaves) (as := [vI (M1 o 0 0)]) dX0_canRide_36 lX0_81 iX1_hoistLeaves h0 rfl rfl (Nat.le_of_ble_eq_true rfl) T (fun r_2 M2 T => ?_)
        refine r_aload_n dX0_canRide_39 rfl ?_
        refine r_getI dX0_canRide_40 fX0_24 h1 tX0_0 ?_
        refine r_icmp_ne (tgt := 50) dX0_canRide_43 (by decide) (fun h_1 => ?_) (fun h_1 => ?_)
        · have T := T.1 h_1
          refine r_iconst dX0_canRide_50 (by decide) ?_
          exact r_zreturn dX0_canRide_51 rfl (by decide) ⟨_, rfl, T⟩
        · have T := T.2 h_1
          refine r_iconst dX0_canRide_46 (by decide) ?_
          refine r_goto (tgt := 51) dX0_canRide_47 (by decide) ?_
          exact r_zreturn dX0_canRide_51 rfl (by decide) ⟨_, rfl, T⟩
    · have T := T.2 h_3
      refine r_iconst dX0_canRide_18 (by decide) ?_
      exact r_zreturn dX0_canRide_19 rfl (by decide) ⟨_, rfl, T⟩
theorem eX0_canRide {G : Gx} {n : Nat} {M : Mem} {Q : Int → Mem → Prop} {o : Nat} {o1 : Nat} {x2 : Int} (h : ∀ K : Kx, CW G K mX0_canRide n 0 [some (vO o), some (vO o1), some (vI x2)] [] M (qI Q)) : OkI G n mX0_canRide [vO o, vO o1, vI x2] M Q := Ok_of (by decide) (Nat.le_of_ble_eq_true rfl) rfl h
-- DownOnly$Day takeWay (LDownOnly$House;II)Z
set_option maxRecDepth 20000 in
set_option maxHeartbeats 1000000 in
theorem bX0_takeWay_0 {G : Gx} {K : Kx} {n : Nat} {M : Mem} {Q : Int → Mem → Prop} {o : Nat} {o1 : Nat} {x2 : Int} {x3 : Int} (h0 : oc o = 0) (h1 : oc o1 = 1) (T : OkI G n mX0_canTake [vO o, vO o1, vI x2, vI x3] M (fun r_1 M1 => (¬ r_1 = 0 → (0 ≤ x2 ∧ x2 < 8) ∧ (OkI G n mX1_leadsTo [vO o1, vI x3, vI (M1 o 2 x2.toNat)] M1 (fun r_2 M2 => (0 ≤ x3 ∧ x3 < 24) ∧ (OkV G n mX0_leave [vO o, vI x2, vI r_2, vI (wr (M2 o 0 0 + (M2 o1 10 x3.toNat)))] M2 (fun M3 => Q 1 M3))))) ∧ (r_1 = 0 → Q 0 M1))) : CW G K mX0_takeWay (n + 1) 0 [some (vO o), some (vO o1), some (vI x2), some (vI x3)] [] M (qI Q) := by
  refine r_aload_n dX0_takeWay_0 rfl ?_
  refine r_aload_n dX0_takeWay_1 rfl ?_
  refine r_iload_n dX0_takeWay_2 rfl ?_
  refine r_iload_n dX0_takeWay_3 rfl ?_
  refine r_callVI (md' := mX0_canTake) (as := [vO o1, vI x2, vI x3]) dX0_takeWay_4 lX0_85 iX0_canTake h0 rfl rfl (Nat.le_of_ble_eq_true rfl) T (fun r_1 M1 T => ?_)
  refine r_if_ne (tgt := 12) dX0_takeWay_7 (by decide) (fun h_1 => ?_) (fun h_1 => ?_)
  · have T := T.1 h_1
    refine r_aload_n dX0_takeWay_12 rfl ?_
    refine r_iload_n dX0_takeWay_13 rfl ?_
    refine r_aload_n dX0_takeWay_14 rfl ?_
    refine r_iload_n dX0_takeWay_15 rfl ?_
    refine r_aload_n dX0_takeWay_16 rfl ?_
    refine r_getA dX0_takeWay_17 fX0_9 h0 uX0_2 ?_
    refine r_iload_n dX0_takeWay_20 rfl ?_
    refine s_iald dX0_takeWay_21 h0 tX0_2 aX0_2 T.1 ?_
    have T := T.2
    refine r_callVI (md' := mX1_leadsTo) (as := [vI x3, vI (M1 o 2 x2.toNat)]) dX0_takeWay_22 lX0_71 iX1_leadsTo h1 rfl rfl (Nat.le_of_ble_eq_true rfl) T (fun r_2 M2 T => ?_)
    refine r_aload_n dX0_takeWay_25 rfl ?_
    refine r_getI dX0_takeWay_26 fX0_24 h0 tX0_0 ?_
    refine r_aload_n dX0_takeWay_29 rfl ?_
    refine r_getA dX0_takeWay_30 fX0_89 h1 uX1_10 ?_
    refine r_iload_n dX0_takeWay_33 rfl ?_
    refine s_iald dX0_takeWay_34 h1 tX1_10 aX1_10 T.1 ?_
    have T := T.2
    refine r_iadd dX0_takeWay_35 ?_
    refine r_callVV (md' := mX0_leave) (as := [vI x2, vI r_2, vI (wr (M2 o 0 0 + (M2 o1 10 x3.toNat)))]) dX0_takeWay_36 lX0_92 iX0_leave h0 rfl rfl (Nat.le_of_ble_eq_true rfl) T (fun M3 T => ?_)
    refine r_iconst dX0_takeWay_39 (by decide) ?_
    exact r_zreturn dX0_takeWay_40 rfl (by decide) ⟨_, rfl, T⟩
  · have T := T.2 h_1
    refine r_iconst dX0_takeWay_10 (by decide) ?_
    exact r_zreturn dX0_takeWay_11 rfl (by decide) ⟨_, rfl, T⟩
theorem eX0_takeWay {G : Gx} {n : Nat} {M : Mem} {Q : Int → Mem → Prop} {o : Nat} {o1 : Nat} {x2 : Int} {x3 : Int} (h : ∀ K : Kx, CW G K mX0_takeWay n 0 [some (vO o), some (vO o1), some (vI x2), some (vI x3)] [] M (qI Q)) : OkI G n mX0_takeWay [vO o, vO o1, vI x2, vI x3] M Q := Ok_of (by decide) (Nat.le_of_ble_eq_true rfl) rfl h
-- DownOnly$Day takeHoist (LDownOnly$House;I)Z
set_option maxRecDepth 20000 in
set_option maxHeartbeats 1000000 in
theorem bX0_takeHoist_0 {G : Gx} {K : Kx} {n : Nat} {M : Mem} {Q : Int → Mem → Prop} {o : Nat} {o1 : Nat} {x2 : Int} (h0 : oc o = 0) (h1 : oc o1 = 1) (T : OkI G n mX0_canRide [vO o, vO o1, vI x2] M (fun r_1 M1 => (¬ r_1 = 0 → ∀ M2 : Mem, M2 = mset M1 o 1 0 (wr (M1 o 1 0 + 1)) → (0 ≤ x2 ∧ x2 < 8) ∧ (∀ M3 : Mem, M3 = mset M2 o 3 x2.toNat 1 → OkV G n mX0_leave [vO o, vI x2, vI (M3 o1 3 0), vI (wr (M3 o 0 0 + (M3 o1 4 0)))] M3 (fun M4 => Q 1 M4))) ∧ (r_1 = 0 → Q 0 M1))) : CW G K mX0_takeHoist (n + 1) 0 [some (vO o), some (vO o1), some (vI x2)] [] M (qI Q) := by
  refine r_aload_n dX0_takeHoist_0 rfl ?_
  refine r_aload_n dX0_takeHoist_1 rfl ?_
  refine r_iload_n dX0_takeHoist_2 rfl ?_
  refine r_callVI (md' := mX0_canRide) (as := [vO o1, vI x2]) dX0_takeHoist_3 lX0_96 iX0_canRide h0 rfl rfl (Nat.le_of_ble_eq_true rfl) T (fun r_1 M1 T => ?_)
  refine r_if_ne (tgt := 11) dX0_takeHoist_6 (by decide) (fun h_1 => ?_) (fun h_1 => ?_)
  · have T := T.1 h_1
    refine r_aload_n dX0_takeHoist_11 rfl ?_
    refine r_dup dX0_takeHoist_12 rfl ?_
    refine r_getI dX0_takeHoist_13 fX0_28 h0 tX0_1 ?_
    refine r_iconst dX0_takeHoist_16 (by decide) ?_
    refine r_iadd dX0_takeHoist_17 ?_
    refine n_put dX0_takeHoist_18 pX0_28 h0 tX0_1 (fun M2 hM2 => ?_)
    have T := T M2 hM2
    refine r_aload_n dX0_takeHoist_21 rfl ?_
    refine r_getA dX0_takeHoist_22 fX0_15 h0 uX0_3 ?_
    refine r_iload_n dX0_takeHoist_25 rfl ?_
    refine r_iconst dX0_takeHoist_26 (by decide) ?_
    refine n_iast dX0_takeHoist_27 h0 tX0_3 aX0_3 T.1 (fun M3 hM3 => ?_)
    have T := T.2 M3 hM3
    refine r_aload_n dX0_takeHoist_28 rfl ?_
    refine r_iload_n dX0_takeHoist_29 rfl ?_
    refine r_aload_n dX0_takeHoist_30 rfl ?_
    refine r_getI dX0_takeHoist_31 fX0_100 h1 tX1_3 ?_
    refine r_aload_n dX0_takeHoist_34 rfl ?_
    refine r_getI dX0_takeHoist_35 fX0_24 h0 tX0_0 ?_
    refine r_aload_n dX0_takeHoist_38 rfl ?_
    refine r_getI dX0_takeHoist_39 fX0_103 h1 tX1_4 ?_
    refine r_iadd dX0_takeHoist_42 ?_
    refine r_callVV (md' := mX0_leave) (as := [vI x2, vI (M3 o1 3 0), vI (wr (M3 o 0 0 + (M3 o1 4 0)))]) dX0_takeHoist_43 lX0_92 iX0_leave h0 rfl rfl (Nat.le_of_ble_eq_true rfl) T (fun M4 T => ?_)
    refine r_iconst dX0_takeHoist_46 (by decide) ?_
    exact r_zreturn dX0_takeHoist_47 rfl (by decide) ⟨_, rfl, T⟩
  · have T := T.2 h_1
    refine r_iconst dX0_takeHoist_9 (by decide) ?_
    exact r_zreturn dX0_takeHoist_10 rfl (by decide) ⟨_, rfl, T⟩
theorem eX0_takeHoist {G : Gx} {n : Nat} {M : Mem} {Q : Int → Mem → Prop} {o : Nat} {o1 : Nat} {x2 : Int} (h : ∀ K : Kx, CW G K mX0_takeHoist n 0 [some (vO o), some (vO o1), some (vI x2)] [] M (qI Q)) : OkI G n mX0_takeHoist [vO o, vO o1, vI x2] M Q := Ok_of (by decide) (Nat.le_of_ble_eq_true rfl) rfl h
-- DownOnly$Day leave (III)V
set_option maxRecDepth 20000 in
set_option maxHeartbeats 1000000 in
theorem bX0_leave_0 {G : Gx} {K : Kx} {n : Nat} {M : Mem} {Q : Mem → Prop} {o : Nat} {x1 : Int} {x2 : Int} {x3 : Int} (h0 : oc o = 0) (T : (0 ≤ x1 ∧ x1 < 8) ∧ (∀ M1 : Mem, M1 = mset M o 2 x1.toNat (-1) → (0 ≤ x1 ∧ x1 < 8) ∧ (∀ M2 : Mem, M2 = mset M1 o 4 x1.toNat x2 → (0 ≤ x1 ∧ x1 < 8) ∧ (∀ M3 : Mem, M3 = mset M2 o 5 x1.toNat x3 → Q M3)))) : CW G K mX0_leave n 0 [some (vO o), some (vI x1), some (vI x2), some (vI x3)] [] M (qV Q) := by
  refine r_aload_n dX0_leave_0 rfl ?_
  refine r_getA dX0_leave_1 fX0_9 h0 uX0_2 ?_
  refine r_iload_n dX0_leave_4 rfl ?_
  refine r_iconst dX0_leave_5 (by decide) ?_
  refine n_iast dX0_leave_6 h0 tX0_2 aX0_2 T.1 (fun M1 hM1 => ?_)
  have T := T.2 M1 hM1
  refine r_aload_n dX0_leave_7 rfl ?_
  refine r_getA dX0_leave_8 fX0_18 h0 uX0_4 ?_
  refine r_iload_n dX0_leave_11 rfl ?_
  refine r_iload_n dX0_leave_12 rfl ?_
  refine n_iast dX0_leave_13 h0 tX0_4 aX0_4 T.1 (fun M2 hM2 => ?_)
  have T := T.2 M2 hM2
  refine r_aload_n dX0_leave_14 rfl ?_
  refine r_getA dX0_leave_15 fX0_21 h0 uX0_5 ?_
  refine r_iload_n dX0_leave_18 rfl ?_
  refine r_iload_n dX0_leave_19 rfl ?_
  refine n_iast dX0_leave_20 h0 tX0_5 aX0_5 T.1 (fun M3 hM3 => ?_)
  have T := T.2 M3 hM3
  exact r_return dX0_leave_21 rfl ⟨rfl, T⟩
theorem eX0_leave {G : Gx} {n : Nat} {M : Mem} {Q : Mem → Prop} {o : Nat} {x1 : Int} {x2 : Int} {x3 : Int} (h : ∀ K : Kx, CW G K mX0_leave n 0 [some (vO o), some (vI x1), some (vI x2), some (vI x3)] [] M (qV Q)) : OkV G n mX0_leave [vO o, vI x1, vI x2, vI x3] M Q := Ok_of (by decide) (Nat.le_of_ble_eq_true rfl) rfl h
-- DownOnly$Day pass (LDownOnly$House;LDownOnly$Rule;I)V
set_option maxRecDepth 20000 in
set_option maxHeartbeats 1000000 in
theorem bX0_pass_0 {G : Gx} {K : Kx} {n : Nat} {M : Mem} {Q : Mem → Prop} {o : Nat} {o1 : Nat} {o2 : Nat} {x3 : Int}  (T : CW G K mX0_pass (n + 1) 3 [some (vO o), some (vO o1), some (vO o2), some (vI x3), some (vI 0), none] [] M (qV Q)) : CW G K mX0_pass (n + 1) 0 [some (vO o), some (vO o1), some (vO o2), some (vI x3), none, none] [] M (qV Q) := by
  refine r_iconst dX0_pass_0 (by decide) ?_
  refine r_istore dX0_pass_1 (by decide) rfl ?_
  exact T
set_option maxRecDepth 20000 in
set_option maxHeartbeats 1000000 in
theorem bX0_pass_3 {G : Gx} {K : Kx} {n : Nat} {M : Mem} {Q : Mem → Prop} {o : Nat} {o1 : Nat} {o2 : Nat} {x3 : Int} {x4 : Int}  (T : (x3 ≤ x4 → Q M) ∧ (¬ (x3 ≤ x4) → CW G K mX0_pass (n + 1) 12 [some (vO o), some (vO o1), some (vO o2), some (vI x3), some (vI x4), some (vI 0)] [] M (qV Q))) : CW G K mX0_pass (n + 1) 3 [some (vO o), some (vO o1), some (vO o2), some (vI x3), some (vI x4), none] [] M (qV Q) := by
  refine r_iload dX0_pass_3 rfl ?_
  refine r_iload_n dX0_pass_5 rfl ?_
  refine r_icmp_ge (tgt := 89) dX0_pass_6 (by decide) (fun h_1 => ?_) (fun h_1 => ?_)
  · have T := T.1 h_1
    exact r_return dX0_pass_89 rfl ⟨rfl, T⟩
  · have T := T.2 h_1
    refine r_iconst dX0_pass_9 (by decide) ?_
    refine r_istore dX0_pass_10 (by decide) rfl ?_
    exact T
set_option maxRecDepth 20000 in
set_option maxHeartbeats 1000000 in
theorem bX0_pass_12 {G : Gx} {K : Kx} {n : Nat} {M : Mem} {Q : Mem → Prop} {o : Nat} {o1 : Nat} {o2 : Nat} {x3 : Int} {x4 : Int} {x5 : Int} (h0 : oc o1 = 1) (h1 : oc o = 0) (T : (M o1 2 0 ≤ x5 → CW G K mX0_pass (n + 1) 53 [some (vO o), some (vO o1), some (vO o2), some (vI x3), some (vI x4), none] [] M (qV Q)) ∧ (¬ (M o1 2 0 ≤ x5) → (8 ≤ x5 → CW G K mX0_pass (n + 1) 53 [some (vO o), some (vO o1), some (vO o2), some (vI x3), some (vI x4), none] [] M (qV Q)) ∧ (¬ (8 ≤ x5) → (0 ≤ x5 ∧ x5 < 8) ∧ ((M o 2 x5.toNat = (-1) → CW G K mX0_pass (n + 1) 12 [some (vO o), some (vO o1), some (vO o2), some (vI x3), some (vI x4), some (vI (wr (x5 + 1)))] [] M (qV Q)) ∧ (¬ (M o 2 x5.toNat = (-1)) → OkV G n mX0_act [vO o, vO o1, vO o2, vI x5] M (fun M1 => CW G K mX0_pass (n + 1) 12 [some (vO o), some (vO o1), some (vO o2), some (vI x3), some (vI x4), some (vI (wr (x5 + 1)))] [] M1 (qV Q))))))) : CW G K mX0_pass (n + 1) 12 [some (vO o), some (vO o1), some (vO o2), some (vI x3), some (vI x4), some (vI x5)] [] M (qV Q) := by
  refine r_iload dX0_pass_12 rfl ?_
  refine r_aload_n dX0_pass_14 rfl ?_
  refine r_getI dX0_pass_15 fX0_50 h0 tX1_2 ?_
  refine r_icmp_ge (tgt := 53) dX0_pass_18 (by decide) (fun h_3 => ?_) (fun h_3 => ?_)
  · have T := T.1 h_3
    exact CW_msk [true, true, true, true, true, false] rfl T
  · have T := T.2 h_3
    refine r_iload dX0_pass_21 rfl ?_
    refine r_bipush dX0_pass_23 (by decide) (by decide) ?_
    refine r_icmp_ge (tgt := 53) dX0_pass_25 (by decide) (fun h_2 => ?_) (fun h_2 => ?_)
    · have T := T.1 h_2
      exact CW_msk [true, true, true, true, true, false] rfl T
    · have T := T.2 h_2
      refine r_aload_n dX0_pass_28 rfl ?_
      refine r_getA dX0_pass_29 fX0_9 h1 uX0_2 ?_
      refine r_iload dX0_pass_32 rfl ?_
      refine s_iald dX0_pass_34 h1 tX0_2 aX0_2 T.1 ?_
      have T := T.2
      refine r_iconst dX0_pass_35 (by decide) ?_
      refine r_icmp_eq (tgt := 47) dX0_pass_36 (by decide) (fun h_1 => ?_) (fun h_1 => ?_)
      · have T := T.1 h_1
        refine r_iinc dX0_pass_47 rfl (by decide) rfl ?_
        refine r_goto (tgt := 12) dX0_pass_50 (by decide) ?_
        exact T
      · have T := T.2 h_1
        refine r_aload_n dX0_pass_39 rfl ?_
        refine r_aload_n dX0_pass_40 rfl ?_
        refine r_aload_n dX0_pass_41 rfl ?_
        refine r_iload dX0_pass_42 rfl ?_
        refine r_callVV (md' := mX0_act) (as := [vO o1, vO o2, vI x5]) dX0_pass_44 lX0_106 iX0_act h1 rfl rfl (Nat.le_of_ble_eq_true rfl) T (fun M1 T => ?_)
        refine r_iinc dX0_pass_47 rfl (by decide) rfl ?_
        refine r_goto (tgt := 12) dX0_pass_50 (by decide) ?_
        exact T
set_option maxRecDepth 20000 in
set_option maxHeartbeats 1000000 in
theorem bX0_pass_53 {G : Gx} {K : Kx} {n : Nat} {M : Mem} {Q : Mem → Prop} {o : Nat} {o1 : Nat} {o2 : Nat} {x3 : Int} {x4 : Int} (h1 : oc o = 0) (T : ∀ M1 : Mem, M1 = mset M o 0 0 (wr (M o 0 0 + 1)) → ∀ M2 : Mem, M2 = mset M1 o 1 0 0 → (1440 ≤ M2 o 0 0 → CW G K mX0_pass (n + 1) 3 [some (vO o), some (vO o1), some (vO o2), some (vI x3), some (vI (wr (x4 + 1))), none] [] M2 (qV Q)) ∧ (¬ (1440 ≤ M2 o 0 0) → OkV G n mX0_arrive [vO o, vO o1] M2 (fun M3 => CW G K mX0_pass (n + 1) 3 [some (vO o), some (vO o1), some (vO o2), some (vI x3), some (vI (wr (x4 + 1))), none] [] M3 (qV Q)))) : CW G K mX0_pass (n + 1) 53 [some (vO o), some (vO o1), some (vO o2), some (vI x3), some (vI x4), none] [] M (qV Q) := by
  refine r_aload_n dX0_pass_53 rfl ?_
  refine r_dup dX0_pass_54 rfl ?_
  refine r_getI dX0_pass_55 fX0_24 h1 tX0_0 ?_
  refine r_iconst dX0_pass_58 (by decide) ?_
  refine r_iadd dX0_pass_59 ?_
  refine n_put dX0_pass_60 pX0_24 h1 tX0_0 (fun M1 hM1 => ?_)
  have T := T M1 hM1
  refine r_aload_n dX0_pass_63 rfl ?_
  refine r_iconst dX0_pass_64 (by decide) ?_
  refine n_put dX0_pass_65 pX0_28 h1 tX0_1 (fun M2 hM2 => ?_)
  have T := T M2 hM2
  refine r_aload_n dX0_pass_68 rfl ?_
  refine r_getI dX0_pass_69 fX0_24 h1 tX0_0 ?_
  refine r_sipush dX0_pass_72 (by decide) (by decide) ?_
  refine r_icmp_ge (tgt := 83) dX0_pass_75 (by decide) (fun h_1 => ?_) (fun h_1 => ?_)
  · have T := T.1 h_1
    refine r_iinc dX0_pass_83 rfl (by decide) rfl ?_
    refine r_goto (tgt := 3) dX0_pass_86 (by decide) ?_
    exact T
  · have T := T.2 h_1
    refine r_aload_n dX0_pass_78 rfl ?_
    refine r_aload_n dX0_pass_79 rfl ?_
    refine r_callVV (md' := mX0_arrive) (as := [vO o1]) dX0_pass_80 lX0_110 iX0_arrive h1 rfl rfl (Nat.le_of_ble_eq_true rfl) T (fun M3 T => ?_)
    refine r_iinc dX0_pass_83 rfl (by decide) rfl ?_
    refine r_goto (tgt := 3) dX0_pass_86 (by decide) ?_
    exact T
theorem eX0_pass {G : Gx} {n : Nat} {M : Mem} {Q : Mem → Prop} {o : Nat} {o1 : Nat} {o2 : Nat} {x3 : Int} (h : ∀ K : Kx, CW G K mX0_pass n 0 [some (vO o), some (vO o1), some (vO o2), some (vI x3), none, none] [] M (qV Q)) : OkV G n mX0_pass [vO o, vO o1, vO o2, vI x3] M Q := Ok_of (by decide) (Nat.le_of_ble_eq_true rfl) rfl h
-- DownOnly$Day act (LDownOnly$House;LDownOnly$Rule;I)V
set_option maxRecDepth 20000 in
set_option maxHeartbeats 1000000 in
theorem bX0_act_0 {G : Gx} {K : Kx} {n : Nat} {M : Mem} {Q : Mem → Prop} {o : Nat} {o1 : Nat} {o2 : Nat} {x3 : Int}  (T : CW G K mX0_act (n + 1) 3 [some (vO o), some (vO o1), some (vO o2), some (vI x3), some (vI 0), none, none, none] [] M (qV Q)) : CW G K mX0_act (n + 1) 0 [some (vO o), some (vO o1), some (vO o2), some (vI x3), none, none, none, none] [] M (qV Q) := by
  refine r_iconst dX0_act_0 (by decide) ?_
  refine r_istore dX0_act_1 (by decide) rfl ?_
  exact T
set_option maxRecDepth 20000 in
set_option maxHeartbeats 1000000 in
theorem bX0_act_3 {G : Gx} {K : Kx} {n : Nat} {M : Mem} {Q : Mem → Prop} {o : Nat} {o1 : Nat} {o2 : Nat} {x3 : Int} {x4 : Int} (h0 : oc o2 = 6) (h1 : oc o = 0) (T : (M o2 0 0 ≤ x4 → Q M) ∧ (¬ (M o2 0 0 ≤ x4) → (12 ≤ x4 → Q M) ∧ (¬ (12 ≤ x4) → (0 ≤ x4 ∧ x4 < 12) ∧ ((0 ≤ x4 ∧ x4 < 12) ∧ ((¬ M o2 1 x4.toNat = 0 → (M o2 1 x4.toNat = 2 → CW G K mX0_act (n + 1) 73 [some (vO o), some (vO o1), some (vO o2), some (vI x3), some (vI x4), some (vI (M o2 1 x4.toNat)), some (vI (M o2 2 x4.toNat)), none] [vI 1] M (qV Q)) ∧ (¬ (M o2 1 x4.toNat = 2) → OkI G n mX0_canRide [vO o, vO o1, vI x3] M (fun r_1 M1 => (r_1 = 0 → CW G K mX0_act (n + 1) 73 [some (vO o), some (vO o1), some (vO o2), some (vI x3), some (vI x4), some (vI (M o2 1 x4.toNat)), some (vI (M o2 2 x4.toNat)), none] [vI 0] M1 (qV Q)) ∧ (¬ (r_1 = 0) → CW G K mX0_act (n + 1) 73 [some (vO o), some (vO o1), some (vO o2), some (vI x3), some (vI x4), some (vI (M o2 1 x4.toNat)), some (vI (M o2 2 x4.toNat)), none] [vI 1] M1 (qV Q))))) ∧ (M o2 1 x4.toNat = 0 → OkI G n mX0_canTake [vO o, vO o1, vI x3, vI (M o2 2 x4.toNat)] M (fun r_2 M2 => CW G K mX0_act (n + 1) 73 [some (vO o), some (vO o1), some (vO o2), some (vI x3), some (vI x4), some (vI (M o2 1 x4.toNat)), some (vI (M o2 2 x4.toNat)), none] [vI r_2] M2 (qV Q)))))))) : CW G K mX0_act (n + 1) 3 [some (vO o), some (vO o1), some (vO o2), some (vI x3), some (vI x4), none, none, none] [] M (qV Q) := by
  refine r_iload dX0_act_3 rfl ?_
  refine r_aload_n dX0_act_5 rfl ?_
  refine r_getI dX0_act_6 fX0_113 h0 tX6_0 ?_
  refine r_icmp_ge (tgt := 129) dX0_act_9 (by decide) (fun h_5 => ?_) (fun h_5 => ?_)
  · have T := T.1 h_5
    exact r_return dX0_act_129 rfl ⟨rfl, T⟩
  · have T := T.2 h_5
    refine r_iload dX0_act_12 rfl ?_
    refine r_bipush dX0_act_14 (by decide) (by decide) ?_
    refine r_icmp_ge (tgt := 129) dX0_act_16 (by decide) (fun h_4 => ?_) (fun h_4 => ?_)
    · have T := T.1 h_4
      exact r_return dX0_act_129 rfl ⟨rfl, T⟩
    · have T := T.2 h_4
      refine r_aload_n dX0_act_19 rfl ?_
      refine r_getA dX0_act_20 fX0_118 h0 uX6_1 ?_
      refine r_iload dX0_act_23 rfl ?_
      refine s_iald dX0_act_25 h0 tX6_1 aX6_1 T.1 ?_
      have T := T.2
      refine r_istore dX0_act_26 (by decide) rfl ?_
      refine r_aload_n dX0_act_28 rfl ?_
      refine r_getA dX0_act_29 fX0_121 h0 uX6_2 ?_
      refine r_iload dX0_act_32 rfl ?_
      refine s_iald dX0_act_34 h0 tX6_2 aX6_2 T.1 ?_
      have T := T.2
      refine r_istore dX0_act_35 (by decide) rfl ?_
      refine r_iload dX0_act_37 rfl ?_
      refine r_if_ne (tgt := 53) dX0_act_39 (by decide) (fun h_3 => ?_) (fun h_3 => ?_)
      · have T := T.1 h_3
        refine r_iload dX0_act_53 rfl ?_
        refine r_iconst dX0_act_55 (by decide) ?_
        refine r_icmp_eq (tgt := 68) dX0_act_56 (by decide) (fun h_2 => ?_) (fun h_2 => ?_)
        · have T := T.1 h_2
          refine r_iconst dX0_act_68 (by decide) ?_
          refine r_goto (tgt := 73) dX0_act_69 (by decide) ?_
          exact T
        · have T := T.2 h_2
          refine r_aload_n dX0_act_59 rfl ?_
          refine r_aload_n dX0_act_60 rfl ?_
          refine r_iload_n dX0_act_61 rfl ?_
          refine r_callVI (md' := mX0_canRide) (as := [vO o1, vI x3]) dX0_act_62 lX0_96 iX0_canRide h1 rfl rfl (Nat.le_of_ble_eq_true rfl) T (fun r_1 M1 T => ?_)
          refine r_if_eq (tgt := 72) dX0_act_65 (by decide) (fun h_1 => ?_) (fun h_1 => ?_)
          · have T := T.1 h_1
            refine r_iconst dX0_act_72 (by decide) ?_
            exact T
          · have T := T.2 h_1
            refine r_iconst dX0_act_68 (by decide) ?_
            refine r_goto (tgt := 73) dX0_act_69 (by decide) ?_
            exact T
      · have T := T.2 h_3
        refine r_aload_n dX0_act_42 rfl ?_
        refine r_aload_n dX0_act_43 rfl ?_
        refine r_iload_n dX0_act_44 rfl ?_
        refine r_iload dX0_act_45 rfl ?_
        refine r_callVI (md' := mX0_canTake) (as := [vO o1, vI x3, vI (M o2 2 x4.toNat)]) dX0_act_47 lX0_85 iX0_canTake h1 rfl rfl (Nat.le_of_ble_eq_true rfl) T (fun r_2 M2 T => ?_)
        refine r_goto (tgt := 73) dX0_act_50 (by decide) ?_
        exact T
set_option maxRecDepth 20000 in
set_option maxHeartbeats 1000000 in
theorem bX0_act_73 {G : Gx} {K : Kx} {n : Nat} {M : Mem} {Q : Mem → Prop} {o : Nat} {o1 : Nat} {o2 : Nat} {x3 : Int} {x4 : Int} {x5 : Int} {x6 : Int} {z0 : Int} (h0 : oc o2 = 6) (h1 : oc o = 0) (T : (z0 = 0 → CW G K mX0_act (n + 1) 3 [some (vO o), some (vO o1), some (vO o2), some (vI x3), some (vI (wr (x4 + 1))), none, none, none] [] M (qV Q)) ∧ (¬ (z0 = 0) → OkI G n mX6_holds [vO o2, vI x4, vO o1, vO o, vI x3] M (fun r_1 M1 => (r_1 = 0 → CW G K mX0_act (n + 1) 3 [some (vO o), some (vO o1), some (vO o2), some (vI x3), some (vI (wr (x4 + 1))), none, none, none] [] M1 (qV Q)) ∧ (¬ (r_1 = 0) → (¬ x5 = 0 → (¬ x5 = 1 → Q M1) ∧ (x5 = 1 → OkI G n mX0_takeHoist [vO o, vO o1, vI x3] M1 (fun r_2 M2 => Q M2))) ∧ (x5 = 0 → OkI G n mX0_takeWay [vO o, vO o1, vI x3, vI x6] M1 (fun r_3 M3 => Q M3)))))) : CW G K mX0_act (n + 1) 73 [some (vO o), some (vO o1), some (vO o2), some (vI x3), some (vI x4), some (vI x5), some (vI x6), none] [vI z0] M (qV Q) := by
  refine r_istore dX0_act_73 (by decide) rfl ?_
  refine r_iload dX0_act_75 rfl ?_
  refine r_if_eq (tgt := 123) dX0_act_77 (by decide) (fun h_4 => ?_) (fun h_4 => ?_)
  · have T := T.1 h_4
    refine r_iinc dX0_act_123 rfl (by decide) rfl ?_
    refine r_goto (tgt := 3) dX0_act_126 (by decide) ?_
    exact CW_msk [true, true, true, true, true, false, false, false] rfl T
  · have T := T.2 h_4
    refine r_aload_n dX0_act_80 rfl ?_
    refine r_iload dX0_act_81 rfl ?_
    refine r_aload_n dX0_act_83 rfl ?_
    refine r_aload_n dX0_act_84 rfl ?_
    refine r_iload_n dX0_act_85 rfl ?_
    refine r_callVI (md' := mX6_holds) (as := [vI x4, vO o1, vO o, vI x3]) dX0_act_86 lX0_124 iX6_holds h0 rfl rfl (Nat.le_of_ble_eq_true rfl) T (fun r_1 M1 T => ?_)
    refine r_if_eq (tgt := 123) dX0_act_89 (by decide) (fun h_3 => ?_) (fun h_3 => ?_)
    · have T := T.1 h_3
      refine r_iinc dX0_act_123 rfl (by decide) rfl ?_
      refine r_goto (tgt := 3) dX0_act_126 (by decide) ?_
      exact CW_msk [true, true, true, true, true, false, false, false] rfl T
    · have T := T.2 h_3
      refine r_iload dX0_act_92 rfl ?_
      refine r_if_ne (tgt := 109) dX0_act_94 (by decide) (fun h_2 => ?_) (fun h_2 => ?_)
      · have T := T.1 h_2
        refine r_iload dX0_act_109 rfl ?_
        refine r_iconst dX0_act_111 (by decide) ?_
        refine r_icmp_ne (tgt := 122) dX0_act_112 (by decide) (fun h_1 => ?_) (fun h_1 => ?_)
        · have T := T.1 h_1
          exact r_return dX0_act_122 rfl ⟨rfl, T⟩
        · have T := T.2 h_1
          refine r_aload_n dX0_act_115 rfl ?_
          refine r_aload_n dX0_act_116 rfl ?_
          refine r_iload_n dX0_act_117 rfl ?_
          refine r_callVI (md' := mX0_takeHoist) (as := [vO o1, vI x3]) dX0_act_118 lX0_131 iX0_takeHoist h1 rfl rfl (Nat.le_of_ble_eq_true rfl) T (fun r_2 M2 T => ?_)
          refine r_pop dX0_act_121 rfl ?_
          exact r_return dX0_act_122 rfl ⟨rfl, T⟩
      · have T := T.2 h_2
        refine r_aload_n dX0_act_97 rfl ?_
        refine r_aload_n dX0_act_98 rfl ?_
        refine r_iload_n dX0_act_99 rfl ?_
        refine r_iload dX0_act_100 rfl ?_
        refine r_callVI (md' := mX0_takeWay) (as := [vO o1, vI x3, vI x6]) dX0_act_102 lX0_128 iX0_takeWay h1 rfl rfl (Nat.le_of_ble_eq_true rfl) T (fun r_3 M3 T => ?_)
        refine r_pop dX0_act_105 rfl ?_
        refine r_goto (tgt := 122) dX0_act_106 (by decide) ?_
        exact r_return dX0_act_122 rfl ⟨rfl, T⟩
theorem eX0_act {G : Gx} {n : Nat} {M : Mem} {Q : Mem → Prop} {o : Nat} {o1 : Nat} {o2 : Nat} {x3 : Int} (h : ∀ K : Kx, CW G K mX0_act n 0 [some (vO o), some (vO o1), some (vO o2), some (vI x3), none, none, none, none] [] M (qV Q)) : OkV G n mX0_act [vO o, vO o1, vO o2, vI x3] M Q := Ok_of (by decide) (Nat.le_of_ble_eq_true rfl) rfl h
-- DownOnly$Day arrive (LDownOnly$House;)V
set_option maxRecDepth 20000 in
set_option maxHeartbeats 1000000 in
theorem bX0_arrive_0 {G : Gx} {K : Kx} {n : Nat} {M : Mem} {Q : Mem → Prop} {o : Nat} {o1 : Nat}   (T : CW G K mX0_arrive n 2 [some (vO o), some (vO o1), some (vI 0)] [] M (qV Q)) : CW G K mX0_arrive n 0 [some (vO o), some (vO o1), none] [] M (qV Q) := by
  refine r_iconst dX0_arrive_0 (by decide) ?_
  refine r_istore_n dX0_arrive_1 (by decide) rfl ?_
  exact T
set_option maxRecDepth 20000 in
set_option maxHeartbeats 1000000 in
theorem bX0_arrive_2 {G : Gx} {K : Kx} {n : Nat} {M : Mem} {Q : Mem → Prop} {o : Nat} {o1 : Nat} {x2 : Int} (h0 : oc o1 = 1) (h1 : oc o = 0) (T : (M o1 2 0 ≤ x2 → Q M) ∧ (¬ (M o1 2 0 ≤ x2) → (8 ≤ x2 → Q M) ∧ (¬ (8 ≤ x2) → (0 ≤ x2 ∧ x2 < 8) ∧ ((¬ M o 2 x2.toNat = (-1) → CW G K mX0_arrive n 2 [some (vO o), some (vO o1), some (vI (wr (x2 + 1)))] [] M (qV Q)) ∧ (M o 2 x2.toNat = (-1) → (0 ≤ x2 ∧ x2 < 8) ∧ ((M o 0 0 < M o 5 x2.toNat → CW G K mX0_arrive n 2 [some (vO o), some (vO o1), some (vI (wr (x2 + 1)))] [] M (qV Q)) ∧ (¬ (M o 0 0 < M o 5 x2.toNat) → (0 ≤ x2 ∧ x2 < 8) ∧ ((0 ≤ x2 ∧ x2 < 8) ∧ (∀ M1 : Mem, M1 = mset M o 2 x2.toNat (M o 4 x2.toNat) → (0 ≤ x2 ∧ x2 < 8) ∧ (∀ M2 : Mem, M2 = mset M1 o 4 x2.toNat (-1) → (0 ≤ x2 ∧ x2 < 8) ∧ (∀ M3 : Mem, M3 = mset M2 o 5 x2.toNat (-1) → CW G K mX0_arrive n 2 [some (vO o), some (vO o1), some (vI (wr (x2 + 1)))] [] M3 (qV Q)))))))))))) : CW G K mX0_arrive n 2 [some (vO o), some (vO o1), some (vI x2)] [] M (qV Q) := by
  refine r_iload_n dX0_arrive_2 rfl ?_
  refine r_aload_n dX0_arrive_3 rfl ?_
  refine r_getI dX0_arrive_4 fX0_50 h0 tX1_2 ?_
  refine r_icmp_ge (tgt := 71) dX0_arrive_7 (by decide) (fun h_4 => ?_) (fun h_4 => ?_)
  · have T := T.1 h_4
    exact r_return dX0_arrive_71 rfl ⟨rfl, T⟩
  · have T := T.2 h_4
    refine r_iload_n dX0_arrive_10 rfl ?_
    refine r_bipush dX0_arrive_11 (by decide) (by decide) ?_
    refine r_icmp_ge (tgt := 71) dX0_arrive_13 (by decide) (fun h_3 => ?_) (fun h_3 => ?_)
    · have T := T.1 h_3
      exact r_return dX0_arrive_71 rfl ⟨rfl, T⟩
    · have T := T.2 h_3
      refine r_aload_n dX0_arrive_16 rfl ?_
      refine r_getA dX0_arrive_17 fX0_9 h1 uX0_2 ?_
      refine r_iload_n dX0_arrive_20 rfl ?_
      refine s_iald dX0_arrive_21 h1 tX0_2 aX0_2 T.1 ?_
      have T := T.2
      refine r_iconst dX0_arrive_22 (by decide) ?_
      refine r_icmp_ne (tgt := 65) dX0_arrive_23 (by decide) (fun h_2 => ?_) (fun h_2 => ?_)
      · have T := T.1 h_2
        refine r_iinc dX0_arrive_65 rfl (by decide) rfl ?_
        refine r_goto (tgt := 2) dX0_arrive_68 (by decide) ?_
        exact T
      · have T := T.2 h_2
        refine r_aload_n dX0_arrive_26 rfl ?_
        refine r_getA dX0_arrive_27 fX0_21 h1 uX0_5 ?_
        refine r_iload_n dX0_arrive_30 rfl ?_
        refine s_iald dX0_arrive_31 h1 tX0_5 aX0_5 T.1 ?_
        have T := T.2
        refine r_aload_n dX0_arrive_32 rfl ?_
        refine r_getI dX0_arrive_33 fX0_24 h1 tX0_0 ?_
        refine r_icmp_gt (tgt := 65) dX0_arrive_36 (by decide) (fun h_1 => ?_) (fun h_1 => ?_)
        · have T := T.1 h_1
          refine r_iinc dX0_arrive_65 rfl (by decide) rfl ?_
          refine r_goto (tgt := 2) dX0_arrive_68 (by decide) ?_
          exact T
        · have T := T.2 h_1
          refine r_aload_n dX0_arrive_39 rfl ?_
          refine r_getA dX0_arrive_40 fX0_9 h1 uX0_2 ?_
          refine r_iload_n dX0_arrive_43 rfl ?_
          refine r_aload_n dX0_arrive_44 rfl ?_
          refine r_getA dX0_arrive_45 fX0_18 h1 uX0_4 ?_
          refine r_iload_n dX0_arrive_48 rfl ?_
          refine s_iald dX0_arrive_49 h1 tX0_4 aX0_4 T.1 ?_
          have T := T.2
          refine n_iast dX0_arrive_50 h1 tX0_2 aX0_2 T.1 (fun M1 hM1 => ?_)
          have T := T.2 M1 hM1
          refine r_aload_n dX0_arrive_51 rfl ?_
          refine r_getA dX0_arrive_52 fX0_18 h1 uX0_4 ?_
          refine r_iload_n dX0_arrive_55 rfl ?_
          refine r_iconst dX0_arrive_56 (by decide) ?_
          refine n_iast dX0_arrive_57 h1 tX0_4 aX0_4 T.1 (fun M2 hM2 => ?_)
          have T := T.2 M2 hM2
          refine r_aload_n dX0_arrive_58 rfl ?_
          refine r_getA dX0_arrive_59 fX0_21 h1 uX0_5 ?_
          refine r_iload_n dX0_arrive_62 rfl ?_
          refine r_iconst dX0_arrive_63 (by decide) ?_
          refine n_iast dX0_arrive_64 h1 tX0_5 aX0_5 T.1 (fun M3 hM3 => ?_)
          have T := T.2 M3 hM3
          refine r_iinc dX0_arrive_65 rfl (by decide) rfl ?_
          refine r_goto (tgt := 2) dX0_arrive_68 (by decide) ?_
          exact T
theorem eX0_arrive {G : Gx} {n : Nat} {M : Mem} {Q : Mem → Prop} {o : Nat} {o1 : Nat}  (h : ∀ K : Kx, CW G K mX0_arrive n 0 [some (vO o), some (vO o1), none] [] M (qV Q)) : OkV G n mX0_arrive [vO o, vO o1] M Q := Ok_of (by decide) (Nat.le_of_ble_eq_true rfl) rfl h
-- DownOnly$Day word (ILDownOnly$House;I)J
set_option maxRecDepth 20000 in
set_option maxHeartbeats 1000000 in
theorem bX0_word_0 {G : Gx} {K : Kx} {n : Nat} {M : Mem} {Q : Int → Mem → Prop} {o : Nat} {o2 : Nat} {x1 : Int} {x3 : Int} (h0 : oc o2 = 1) (h1 : oc o = 0) (T : OkI G n mX1_isPerson [vO o2, vI x3] M (fun r_1 M1 => (r_1 = 0 → Q 0 M1) ∧ (¬ (r_1 = 0) → (0 ≤ x3 ∧ x3 < 8) ∧ (OkI G n mX1_isRoom [vO o2, vI (M1 o 2 x3.toNat)] M1 (fun r_2 M2 => (¬ r_2 = 0 → (0 ≤ x3 ∧ x3 < 8) ∧ (((x1 < 0 ∨ 6 < x1) → (¬ M2 o2 3 0 = M2 o 2 x3.toNat → Q 0 M2) ∧ (M2 o2 3 0 = M2 o 2 x3.toNat → Q 1 M2)) ∧ (x1 = 0 → Q (M2 o 0 0) M2) ∧ (x1 = 1 → Q x3 M2) ∧ (x1 = 2 → Q (M2 o 2 x3.toNat) M2) ∧ (x1 = 3 → (0 ≤ M2 o 2 x3.toNat ∧ M2 o 2 x3.toNat < 16) ∧ (Q (M2 o2 7 (M2 o 2 x3.toNat).toNat) M2)) ∧ (x1 = 4 → OkI G n mX0_peopleIn [vO o, vO o2, vI (M2 o 2 x3.toNat)] M2 (fun r_3 M3 => OkI G n mJ6_bitCount_0f7a4 [vI r_3] M3 (fun r_4 M4 => Q r_4 M4))) ∧ (x1 = 5 → (0 ≤ x3 ∧ x3 < 8) ∧ (Q (M2 o 3 x3.toNat) M2)) ∧ (x1 = 6 → (0 ≤ x3 ∧ x3 < 8) ∧ ((¬ M2 o2 14 x3.toNat = M2 o 2 x3.toNat → Q 0 M2) ∧ (M2 o2 14 x3.toNat = M2 o 2 x3.toNat → Q 1 M2))))) ∧ (r_2 = 0 → Q 0 M2)))))) : CW G K mX0_word (n + 1) 0 [some (vO o), some (vI x1), some (vO o2), some (vI x3), none] [] M (qJ Q) := by
  refine r_aload_n dX0_word_0 rfl ?_
  refine r_iload_n dX0_word_1 rfl ?_
  refine r_callVI (md' := mX1_isPerson) (as := [vI x3]) dX0_word_2 lX0_64 iX1_isPerson h0 rfl rfl (Nat.le_of_ble_eq_true rfl) T (fun r_1 M1 T => ?_)
  refine r_if_eq (tgt := 21) dX0_word_5 (by decide) (fun h_4 => ?_) (fun h_4 => ?_)
  · have T := T.1 h_4
    refine r_lconst (z := 0) dX0_word_21 (by decide) (by decide) ?_
    exact r_lreturn dX0_word_22 rfl ⟨_, rfl, T⟩
  · have T := T.2 h_4
    refine r_aload_n dX0_word_8 rfl ?_
    refine r_aload_n dX0_word_9 rfl ?_
    refine r_getA dX0_word_10 fX0_9 h1 uX0_2 ?_
    refine r_iload_n dX0_word_13 rfl ?_
    refine s_iald dX0_word_14 h1 tX0_2 aX0_2 T.1 ?_
    have T := T.2
    refine r_callVI (md' := mX1_isRoom) (as := [vI (M1 o 2 x3.toNat)]) dX0_word_15 lX0_134 iX1_isRoom h0 rfl rfl (Nat.le_of_ble_eq_true rfl) T (fun r_2 M2 T => ?_)
    refine r_if_ne (tgt := 23) dX0_word_18 (by decide) (fun h_3 => ?_) (fun h_3 => ?_)
    · have T := T.1 h_3
      refine r_aload_n dX0_word_23 rfl ?_
      refine r_getA dX0_word_24 fX0_9 h1 uX0_2 ?_
      refine r_iload_n dX0_word_27 rfl ?_
      refine s_iald dX0_word_28 h1 tX0_2 aX0_2 T.1 ?_
      have T := T.2
      refine r_istore dX0_word_29 (by decide) rfl ?_
      refine r_iload_n dX0_word_31 rfl ?_
      refine r_tsw (td := 135) (tg := [76, 82, 85, 89, 98, 110, 118]) dX0_word_32 (by decide) (by decide) (by decide) (fun h_ => ?_) (fun j t ht hx => ?_)
      · have T := T.1 h_
        refine r_aload_n dX0_word_135 rfl ?_
        refine r_getI dX0_word_136 fX0_100 h0 tX1_3 ?_
        refine r_iload dX0_word_139 rfl ?_
        refine r_icmp_ne (tgt := 148) dX0_word_141 (by decide) (fun h_1 => ?_) (fun h_1 => ?_)
        · have T := T.1 h_1
          refine r_lconst (z := 0) dX0_word_148 (by decide) (by decide) ?_
          exact r_lreturn dX0_word_149 rfl ⟨_, rfl, T⟩
        · have T := T.2 h_1
          refine r_lconst (z := 1) dX0_word_144 (by decide) (by decide) ?_
          refine r_goto (tgt := 149) dX0_word_145 (by decide) ?_
          exact r_lreturn dX0_word_149 rfl ⟨_, rfl, T⟩
      · match j, ht, hx with
        | 0, ht, hx =>
          cases ht
          have T := T.2.1 (by omega)
          refine r_aload_n dX0_word_76 rfl ?_
          refine r_getI dX0_word_77 fX0_24 h1 tX0_0 ?_
          refine r_i2l dX0_word_80 ?_
          exact r_lreturn dX0_word_81 rfl ⟨_, rfl, T⟩
        | 1, ht, hx =>
          cases ht
          have T := T.2.2.1 (by omega)
          refine r_iload_n dX0_word_82 rfl ?_
          refine r_i2l dX0_word_83 ?_
          exact r_lreturn dX0_word_84 rfl ⟨_, rfl, T⟩
        | 2, ht, hx =>
          cases ht
          have T := T.2.2.2.1 (by omega)
          refine r_iload dX0_word_85 rfl ?_
          refine r_i2l dX0_word_87 ?_
          exact r_lreturn dX0_word_88 rfl ⟨_, rfl, T⟩
        | 3, ht, hx =>
          cases ht
          have T := T.2.2.2.2.1 (by omega)
          refine r_aload_n dX0_word_89 rfl ?_
          refine r_getA dX0_word_90 fX0_137 h0 uX1_7 ?_
          refine r_iload dX0_word_93 rfl ?_
          refine s_iald dX0_word_95 h0 tX1_7 aX1_7 T.1 ?_
          have T := T.2
          refine r_i2l dX0_word_96 ?_
          exact r_lreturn dX0_word_97 rfl ⟨_, rfl, T⟩
        | 4, ht, hx =>
          cases ht
          have T := T.2.2.2.2.2.1 (by omega)
          refine r_aload_n dX0_word_98 rfl ?_
          refine r_aload_n dX0_word_99 rfl ?_
          refine r_iload dX0_word_100 rfl ?_
          refine r_callVI (md' := mX0_peopleIn) (as := [vO o2, vI (M2 o 2 x3.toNat)]) dX0_word_102 lX0_140 iX0_peopleIn h1 rfl rfl (Nat.le_of_ble_eq_true rfl) T (fun r_3 M3 T => ?_)
          refine r_callSI (md' := mJ6_bitCount_0f7a4) (as := [vI r_3]) dX0_word_105 lX0_144 iJ6_bitCount_0f7a4 rfl rfl (Nat.le_of_ble_eq_true rfl) T (fun r_4 M4 T => ?_)
          refine r_i2l dX0_word_108 ?_
          exact r_lreturn dX0_word_109 rfl ⟨_, rfl, T⟩
        | 5, ht, hx =>
          cases ht
          have T := T.2.2.2.2.2.2.1 (by omega)
          refine r_aload_n dX0_word_110 rfl ?_
          refine r_getA dX0_word_111 fX0_15 h1 uX0_3 ?_
          refine r_iload_n dX0_word_114 rfl ?_
          refine s_iald dX0_word_115 h1 tX0_3 aX0_3 T.1 ?_
          have T := T.2
          refine r_i2l dX0_word_116 ?_
          exact r_lreturn dX0_word_117 rfl ⟨_, rfl, T⟩
        | 6, ht, hx =>
          cases ht
          have T := T.2.2.2.2.2.2.2 (by omega)
          refine r_aload_n dX0_word_118 rfl ?_
          refine r_getA dX0_word_119 fX0_35 h0 uX1_14 ?_
          refine r_iload_n dX0_word_122 rfl ?_
          refine s_iald dX0_word_123 h0 tX1_14 aX1_14 T.1 ?_
          have T := T.2
          refine r_iload dX0_word_124 rfl ?_
          refine r_icmp_ne (tgt := 133) dX0_word_126 (by decide) (fun h_2 => ?_) (fun h_2 => ?_)
          · have T := T.1 h_2
            refine r_lconst (z := 0) dX0_word_133 (by decide) (by decide) ?_
            exact r_lreturn dX0_word_134 rfl ⟨_, rfl, T⟩
          · have T := T.2 h_2
            refine r_lconst (z := 1) dX0_word_129 (by decide) (by decide) ?_
            refine r_goto (tgt := 134) dX0_word_130 (by decide) ?_
            exact r_lreturn dX0_word_134 rfl ⟨_, rfl, T⟩
        | j + 7, ht, hx => exact absurd ht (by simp)
    · have T := T.2 h_3
      refine r_lconst (z := 0) dX0_word_21 (by decide) (by decide) ?_
      exact r_lreturn dX0_word_22 rfl ⟨_, rfl, T⟩
theorem eX0_word {G : Gx} {n : Nat} {M : Mem} {Q : Int → Mem → Prop} {o : Nat} {o2 : Nat} {x1 : Int} {x3 : Int} (h : ∀ K : Kx, CW G K mX0_word n 0 [some (vO o), some (vI x1), some (vO o2), some (vI x3), none] [] M (qJ Q)) : OkJ G n mX0_word [vO o, vI x1, vO o2, vI x3] M Q := Ok_of (by decide) (Nat.le_of_ble_eq_true rfl) rfl h
-- DownOnly$Rule clear ()V
set_option maxRecDepth 20000 in
set_option maxHeartbeats 1000000 in
theorem bX6_clear_0 {G : Gx} {K : Kx} {n : Nat} {M : Mem} {Q : Mem → Prop} {o : Nat}  (h0 : oc o = 6) (T : ∀ M1 : Mem, M1 = mset M o 0 0 0 → ∀ M2 : Mem, M2 = mset M1 o 6 0 0 → Q M2) : CW G K mX6_clear n 0 [some (vO o)] [] M (qV Q) := by
  refine r_aload_n dX6_clear_0 rfl ?_
  refine r_iconst dX6_clear_1 (by decide) ?_
  refine n_put dX6_clear_2 pX6_31 h0 tX6_0 (fun M1 hM1 => ?_)
  have T := T M1 hM1
  refine r_aload_n dX6_clear_5 rfl ?_
  refine r_iconst dX6_clear_6 (by decide) ?_
  refine n_put dX6_clear_7 pX6_35 h0 tX6_6 (fun M2 hM2 => ?_)
  have T := T M2 hM2
  exact r_return dX6_clear_10 rfl ⟨rfl, T⟩
theorem eX6_clear {G : Gx} {n : Nat} {M : Mem} {Q : Mem → Prop} {o : Nat}  (h : ∀ K : Kx, CW G K mX6_clear n 0 [some (vO o)] [] M (qV Q)) : OkV G n mX6_clear [vO o] M Q := Ok_of (by decide) (Nat.le_of_ble_eq_true rfl) rfl h
-- DownOnly$Rule put (I)Z
set_option maxRecDepth 20000 in
set_option maxHeartbeats 1000000 in
theorem bX6_put_0 {G : Gx} {K : Kx} {n : Nat} {M : Mem} {Q : Int → Mem → Prop} {o : Nat} {x1 : Int} (h0 : oc o = 6) (T : (400 ≤ M o 6 0 → Q 1 M) ∧ (¬ (400 ≤ M o 6 0) → (0 ≤ M o 6 0 ∧ M o 6 0 < 400) ∧ (∀ M1 : Mem, M1 = mset M o 5 (M o 6 0).toNat x1 → ∀ M2 : Mem, M2 = mset M1 o 6 0 (wr (M1 o 6 0 + 1)) → Q 1 M2))) : CW G K mX6_put n 0 [some (vO o), some (vI x1)] [] M (qI Q) := by
  refine r_aload_n dX6_put_0 rfl ?_
  refine r_getI dX6_put_1 fX6_35 h0 tX6_6 ?_
  refine r_aload_n dX6_put_4 rfl ?_
  refine r_getA dX6_put_5 fX6_24 h0 uX6_5 ?_
  refine s_alen dX6_put_8 h0 uX6_5 aX6_5 (by decide) ?_
  refine r_icmp_ge (tgt := 32) dX6_put_9 (by decide) (fun h_1 => ?_) (fun h_1 => ?_)
  · have T := T.1 h_1
    refine r_iconst dX6_put_32 (by decide) ?_
    exact r_zreturn dX6_put_33 rfl (by decide) ⟨_, rfl, T⟩
  · have T := T.2 h_1
    refine r_aload_n dX6_put_12 rfl ?_
    refine r_getA dX6_put_13 fX6_24 h0 uX6_5 ?_
    refine r_aload_n dX6_put_16 rfl ?_
    refine r_getI dX6_put_17 fX6_35 h0 tX6_6 ?_
    refine r_iload_n dX6_put_20 rfl ?_
    refine n_iast dX6_put_21 h0 tX6_5 aX6_5 T.1 (fun M1 hM1 => ?_)
    have T := T.2 M1 hM1
    refine r_aload_n dX6_put_22 rfl ?_
    refine r_dup dX6_put_23 rfl ?_
    refine r_getI dX6_put_24 fX6_35 h0 tX6_6 ?_
    refine r_iconst dX6_put_27 (by decide) ?_
    refine r_iadd dX6_put_28 ?_
    refine n_put dX6_put_29 pX6_35 h0 tX6_6 (fun M2 hM2 => ?_)
    have T := T M2 hM2
    refine r_iconst dX6_put_32 (by decide) ?_
    exact r_zreturn dX6_put_33 rfl (by decide) ⟨_, rfl, T⟩
theorem eX6_put {G : Gx} {n : Nat} {M : Mem} {Q : Int → Mem → Prop} {o : Nat} {x1 : Int} (h : ∀ K : Kx, CW G K mX6_put n 0 [some (vO o), some (vI x1)] [] M (qI Q)) : OkI G n mX6_put [vO o, vI x1] M Q := Ok_of (by decide) (Nat.le_of_ble_eq_true rfl) rfl h
-- DownOnly$Rule holds (ILDownOnly$House;LDownOnly$Day;I)Z
set_option maxRecDepth 20000 in
set_option maxHeartbeats 1000000 in
theorem bX6_holds_0 {G : Gx} {K : Kx} {n : Nat} {M : Mem} {Q : Int → Mem → Prop} {o : Nat} {o2 : Nat} {o3 : Nat} {x1 : Int} {x4 : Int} (h0 : oc o = 6) (T : (x1 < 0 → Q 1 M) ∧ (¬ (x1 < 0) → (M o 0 0 ≤ x1 → Q 1 M) ∧ (¬ (M o 0 0 ≤ x1) → (0 ≤ x1 ∧ x1 < 12) ∧ ((0 ≤ x1 ∧ x1 < 12) ∧ ((¬ M o 3 x1.toNat = M o 4 x1.toNat → (0 ≤ x1 ∧ x1 < 12) ∧ (CW G K mX6_holds (n + 1) 40 [some (vO o), some (vI x1), some (vO o2), some (vO o3), some (vI x4), some (vI 0), some (vI (M o 3 x1.toNat)), none] [] M (qI Q))) ∧ (M o 3 x1.toNat = M o 4 x1.toNat → Q 1 M)))))) : CW G K mX6_holds (n + 1) 0 [some (vO o), some (vI x1), some (vO o2), some (vO o3), some (vI x4), none, none, none] [] M (qI Q) := by
  refine r_iload_n dX6_holds_0 rfl ?_
  refine r_if_lt (tgt := 27) dX6_holds_1 (by decide) (fun h_3 => ?_) (fun h_3 => ?_)
  · have T := T.1 h_3
    refine r_iconst dX6_holds_27 (by decide) ?_
    exact r_zreturn dX6_holds_28 rfl (by decide) ⟨_, rfl, T⟩
  · have T := T.2 h_3
    refine r_iload_n dX6_holds_4 rfl ?_
    refine r_aload_n dX6_holds_5 rfl ?_
    refine r_getI dX6_holds_6 fX6_31 h0 tX6_0 ?_
    refine r_icmp_ge (tgt := 27) dX6_holds_9 (by decide) (fun h_2 => ?_) (fun h_2 => ?_)
    · have T := T.1 h_2
      refine r_iconst dX6_holds_27 (by decide) ?_
      exact r_zreturn dX6_holds_28 rfl (by decide) ⟨_, rfl, T⟩
    · have T := T.2 h_2
      refine r_aload_n dX6_holds_12 rfl ?_
      refine r_getA dX6_holds_13 fX6_18 h0 uX6_3 ?_
      refine r_iload_n dX6_holds_16 rfl ?_
      refine s_iald dX6_holds_17 h0 tX6_3 aX6_3 T.1 ?_
      have T := T.2
      refine r_aload_n dX6_holds_18 rfl ?_
      refine r_getA dX6_holds_19 fX6_21 h0 uX6_4 ?_
      refine r_iload_n dX6_holds_22 rfl ?_
      refine s_iald dX6_holds_23 h0 tX6_4 aX6_4 T.1 ?_
      have T := T.2
      refine r_icmp_ne (tgt := 29) dX6_holds_24 (by decide) (fun h_1 => ?_) (fun h_1 => ?_)
      · have T := T.1 h_1
        refine r_iconst dX6_holds_29 (by decide) ?_
        refine r_istore dX6_holds_30 (by decide) rfl ?_
        refine r_aload_n dX6_holds_32 rfl ?_
        refine r_getA dX6_holds_33 fX6_18 h0 uX6_3 ?_
        refine r_iload_n dX6_holds_36 rfl ?_
        refine s_iald dX6_holds_37 h0 tX6_3 aX6_3 T.1 ?_
        have T := T.2
        refine r_istore dX6_holds_38 (by decide) rfl ?_
        exact T
      · have T := T.2 h_1
        refine r_iconst dX6_holds_27 (by decide) ?_
        exact r_zreturn dX6_holds_28 rfl (by decide) ⟨_, rfl, T⟩
set_option maxRecDepth 20000 in
set_option maxHeartbeats 1000000 in
theorem bX6_holds_40 {G : Gx} {K : Kx} {n : Nat} {M : Mem} {Q : Int → Mem → Prop} {o : Nat} {o2 : Nat} {o3 : Nat} {x1 : Int} {x4 : Int} {x5 : Int} {x6 : Int} (h0 : oc o = 6) (T : (0 ≤ x1 ∧ x1 < 12) ∧ ((M o 4 x1.toNat ≤ x6 → CW G K mX6_holds (n + 1) 163 [some (vO o), none, none, none, none, some (vI x5), none, none] [] M (qI Q)) ∧ (¬ (M o 4 x1.toNat ≤ x6) → (400 ≤ x6 → CW G K mX6_holds (n + 1) 163 [some (vO o), none, none, none, none, some (vI x5), none, none] [] M (qI Q)) ∧ (¬ (400 ≤ x6) → (0 ≤ x6 ∧ x6 < 400) ∧ ((¬ M o 5 x6.toNat = 21 → (M o 5 x6.toNat < 10 → CW G K mX6_holds (n + 1) 115 [some (vO o), some (vI x1), some (vO o2), some (vO o3), some (vI x4), some (vI x5), some (vI x6), some (vI (M o 5 x6.toNat))] [] M (qI Q)) ∧ (¬ (M o 5 x6.toNat < 10) → (100 ≤ M o 5 x6.toNat → CW G K mX6_holds (n + 1) 115 [some (vO o), some (vI x1), some (vO o2), some (vO o3), some (vI x4), some (vI x5), some (vI x6), some (vI (M o 5 x6.toNat))] [] M (qI Q)) ∧ (¬ (100 ≤ M o 5 x6.toNat) → OkI G n mX6_join [vO o, vI (M o 5 x6.toNat), vI x5] M (fun r_1 M1 => CW G K mX6_holds (n + 1) 40 [some (vO o), some (vI x1), some (vO o2), some (vO o3), some (vI x4), some (vI r_1), some (vI (wr (x6 + 1))), none] [] M1 (qI Q))))) ∧ (M o 5 x6.toNat = 21 → OkI G n mX6_negate [vO o, vI x5] M (fun r_2 M2 => CW G K mX6_holds (n + 1) 40 [some (vO o), some (vI x1), some (vO o2), some (vO o3), some (vI x4), some (vI r_2), some (vI (wr (x6 + 1))), none] [] M2 (qI Q)))))))) : CW G K mX6_holds (n + 1) 40 [some (vO o), some (vI x1), some (vO o2), some (vO o3), some (vI x4), some (vI x5), some (vI x6), none] [] M (qI Q) := by
  refine r_iload dX6_holds_40 rfl ?_
  refine r_aload_n dX6_holds_42 rfl ?_
  refine r_getA dX6_holds_43 fX6_21 h0 uX6_4 ?_
  refine r_iload_n dX6_holds_46 rfl ?_
  refine s_iald dX6_holds_47 h0 tX6_4 aX6_4 T.1 ?_
  have T := T.2
  refine r_icmp_ge (tgt := 163) dX6_holds_48 (by decide) (fun h_5 => ?_) (fun h_5 => ?_)
  · have T := T.1 h_5
    exact CW_msk [true, false, false, false, false, true, false, false] rfl T
  · have T := T.2 h_5
    refine r_iload dX6_holds_51 rfl ?_
    refine r_aload_n dX6_holds_53 rfl ?_
    refine r_getA dX6_holds_54 fX6_24 h0 uX6_5 ?_
    refine s_alen dX6_holds_57 h0 uX6_5 aX6_5 (by decide) ?_
    refine r_icmp_ge (tgt := 163) dX6_holds_58 (by decide) (fun h_4 => ?_) (fun h_4 => ?_)
    · have T := T.1 h_4
      exact CW_msk [true, false, false, false, false, true, false, false] rfl T
    · have T := T.2 h_4
      refine r_aload_n dX6_holds_61 rfl ?_
      refine r_getA dX6_holds_62 fX6_24 h0 uX6_5 ?_
      refine r_iload dX6_holds_65 rfl ?_
      refine s_iald dX6_holds_67 h0 tX6_5 aX6_5 T.1 ?_
      have T := T.2
      refine r_istore dX6_holds_68 (by decide) rfl ?_
      refine r_iload dX6_holds_70 rfl ?_
      refine r_bipush dX6_holds_72 (by decide) (by decide) ?_
      refine r_icmp_ne (tgt := 88) dX6_holds_74 (by decide) (fun h_3 => ?_) (fun h_3 => ?_)
      · have T := T.1 h_3
        refine r_iload dX6_holds_88 rfl ?_
        refine r_bipush dX6_holds_90 (by decide) (by decide) ?_
        refine r_icmp_lt (tgt := 115) dX6_holds_92 (by decide) (fun h_2 => ?_) (fun h_2 => ?_)
        · have T := T.1 h_2
          exact T
        · have T := T.2 h_2
          refine r_iload dX6_holds_95 rfl ?_
          refine r_bipush dX6_holds_97 (by decide) (by decide) ?_
          refine r_icmp_ge (tgt := 115) dX6_holds_99 (by decide) (fun h_1 => ?_) (fun h_1 => ?_)
          · have T := T.1 h_1
            exact T
          · have T := T.2 h_1
            refine r_aload_n dX6_holds_102 rfl ?_
            refine r_iload dX6_holds_103 rfl ?_
            refine r_iload dX6_holds_105 rfl ?_
            refine r_callVI (md' := mX6_join) (as := [vI (M o 5 x6.toNat), vI x5]) dX6_holds_107 lX6_42 iX6_join h0 rfl rfl (Nat.le_of_ble_eq_true rfl) T (fun r_1 M1 T => ?_)
            refine r_istore dX6_holds_110 (by decide) rfl ?_
            refine r_goto (tgt := 157) dX6_holds_112 (by decide) ?_
            refine r_iinc dX6_holds_157 rfl (by decide) rfl ?_
            refine r_goto (tgt := 40) dX6_holds_160 (by decide) ?_
            exact CW_msk [true, true, true, true, true, true, true, false] rfl T
      · have T := T.2 h_3
        refine r_aload_n dX6_holds_77 rfl ?_
        refine r_iload dX6_holds_78 rfl ?_
        refine r_callVI (md' := mX6_negate) (as := [vI x5]) dX6_holds_80 lX6_38 iX6_negate h0 rfl rfl (Nat.le_of_ble_eq_true rfl) T (fun r_2 M2 T => ?_)
        refine r_istore dX6_holds_83 (by decide) rfl ?_
        refine r_goto (tgt := 157) dX6_holds_85 (by decide) ?_
        refine r_iinc dX6_holds_157 rfl (by decide) rfl ?_
        refine r_goto (tgt := 40) dX6_holds_160 (by decide) ?_
        exact CW_msk [true, true, true, true, true, true, true, false] rfl T
set_option maxRecDepth 20000 in
set_option maxHeartbeats 1000000 in
theorem bX6_holds_163 {G : Gx} {K : Kx} {n : Nat} {M : Mem} {Q : Int → Mem → Prop} {o : Nat} {x5 : Int} (h0 : oc o = 6) (T : (x5 ≤ 0 → Q 0 M) ∧ (¬ (x5 ≤ 0) → (sg (M o 7 0) 0 = 0 → Q 0 M) ∧ (¬ (sg (M o 7 0) 0 = 0) → Q 1 M))) : CW G K mX6_holds (n + 1) 163 [some (vO o), none, none, none, none, some (vI x5), none, none] [] M (qI Q) := by
  refine r_iload dX6_holds_163 rfl ?_
  refine r_if_le (tgt := 183) dX6_holds_165 (by decide) (fun h_2 => ?_) (fun h_2 => ?_)
  · have T := T.1 h_2
    refine r_iconst dX6_holds_183 (by decide) ?_
    exact r_zreturn dX6_holds_184 rfl (by decide) ⟨_, rfl, T⟩
  · have T := T.2 h_2
    refine r_aload_n dX6_holds_168 rfl ?_
    refine r_getA dX6_holds_169 fX6_27 h0 uX6_7 ?_
    refine r_iconst dX6_holds_172 (by decide) ?_
    refine s_lald dX6_holds_173 h0 tX6_7 aX6_7 (by decide) ?_
    refine r_lconst (z := 0) dX6_holds_174 (by decide) (by decide) ?_
    refine r_lcmp dX6_holds_175 ?_
    refine r_if_eq (tgt := 183) dX6_holds_176 (by decide) (fun h_1 => ?_) (fun h_1 => ?_)
    · have T := T.1 h_1
      refine r_iconst dX6_holds_183 (by decide) ?_
      exact r_zreturn dX6_holds_184 rfl (by decide) ⟨_, rfl, T⟩
    · have T := T.2 h_1
      refine r_iconst dX6_holds_179 (by decide) ?_
      refine r_goto (tgt := 184) dX6_holds_180 (by decide) ?_
      exact r_zreturn dX6_holds_184 rfl (by decide) ⟨_, rfl, T⟩
set_option maxRecDepth 20000 in
set_option maxHeartbeats 1000000 in
theorem bX6_holds_115 {G : Gx} {K : Kx} {n : Nat} {M : Mem} {Q : Int → Mem → Prop} {o : Nat} {o2 : Nat} {o3 : Nat} {x1 : Int} {x4 : Int} {x5 : Int} {x6 : Int} {x7 : Int} (h0 : oc o = 6) (h1 : oc o3 = 0) (T : (64 ≤ x5 → CW G K mX6_holds (n + 1) 40 [some (vO o), some (vI x1), some (vO o2), some (vO o3), some (vI x4), some (vI x5), some (vI (wr (x6 + 1))), none] [] M (qI Q)) ∧ (¬ (64 ≤ x5) → (x7 < 100 → OkJ G n mX0_word [vO o3, vI x7, vO o2, vI x4] M (fun r_1 M1 => (0 ≤ x5 ∧ x5 < 64) ∧ (∀ M2 : Mem, M2 = mset M1 o 7 x5.toNat r_1 → CW G K mX6_holds (n + 1) 40 [some (vO o), some (vI x1), some (vO o2), some (vO o3), some (vI x4), some (vI (wr (x5 + 1))), some (vI (wr (x6 + 1))), none] [] M2 (qI Q)))) ∧ (¬ (x7 < 100) → (0 ≤ x5 ∧ x5 < 64) ∧ (∀ M3 : Mem, M3 = mset M o 7 x5.toNat (wr (x7 - 100)) → CW G K mX6_holds (n + 1) 40 [some (vO o), some (vI x1), some (vO o2), some (vO o3), some (vI x4), some (vI (wr (x5 + 1))), some (vI (wr (x6 + 1))), none] [] M3 (qI Q))))) : CW G K mX6_holds (n + 1) 115 [some (vO o), some (vI x1), some (vO o2), some (vO o3), some (vI x4), some (vI x5), some (vI x6), some (vI x7)] [] M (qI Q) := by
  refine r_iload dX6_holds_115 rfl ?_
  refine r_bipush dX6_holds_117 (by decide) (by decide) ?_
  refine r_icmp_ge (tgt := 157) dX6_holds_119 (by decide) (fun h_2 => ?_) (fun h_2 => ?_)
  · have T := T.1 h_2
    refine r_iinc dX6_holds_157 rfl (by decide) rfl ?_
    refine r_goto (tgt := 40) dX6_holds_160 (by decide) ?_
    exact CW_msk [true, true, true, true, true, true, true, false] rfl T
  · have T := T.2 h_2
    refine r_aload_n dX6_holds_122 rfl ?_
    refine r_getA dX6_holds_123 fX6_27 h0 uX6_7 ?_
    refine r_iload dX6_holds_126 rfl ?_
    refine r_iload dX6_holds_128 rfl ?_
    refine r_bipush dX6_holds_130 (by decide) (by decide) ?_
    refine r_icmp_lt (tgt := 144) dX6_holds_132 (by decide) (fun h_1 => ?_) (fun h_1 => ?_)
    · have T := T.1 h_1
      refine r_aload_n dX6_holds_144 rfl ?_
      refine r_iload dX6_holds_145 rfl ?_
      refine r_aload_n dX6_holds_147 rfl ?_
      refine r_iload dX6_holds_148 rfl ?_
      refine r_callVJ (md' := mX0_word) (as := [vI x7, vO o2, vI x4]) dX6_holds_150 lX6_46 iX0_word h1 rfl rfl (Nat.le_of_ble_eq_true rfl) T (fun r_1 M1 T => ?_)
      refine n_last dX6_holds_153 h0 tX6_7 aX6_7 T.1 (fun M2 hM2 => ?_)
      have T := T.2 M2 hM2
      refine r_iinc dX6_holds_154 rfl (by decide) rfl ?_
      refine r_iinc dX6_holds_157 rfl (by decide) rfl ?_
      refine r_goto (tgt := 40) dX6_holds_160 (by decide) ?_
      exact CW_msk [true, true, true, true, true, true, true, false] rfl T
    · have T := T.2 h_1
      refine r_iload dX6_holds_135 rfl ?_
      refine r_bipush dX6_holds_137 (by decide) (by decide) ?_
      refine r_isub dX6_holds_139 ?_
      refine r_i2l dX6_holds_140 ?_
      refine r_goto (tgt := 153) dX6_holds_141 (by decide) ?_
      refine n_last dX6_holds_153 h0 tX6_7 aX6_7 T.1 (fun M3 hM3 => ?_)
      have T := T.2 M3 hM3
      refine r_iinc dX6_holds_154 rfl (by decide) rfl ?_
      refine r_iinc dX6_holds_157 rfl (by decide) rfl ?_
      refine r_goto (tgt := 40) dX6_holds_160 (by decide) ?_
      exact CW_msk [true, true, true, true, true, true, true, false] rfl T
theorem eX6_holds {G : Gx} {n : Nat} {M : Mem} {Q : Int → Mem → Prop} {o : Nat} {o2 : Nat} {o3 : Nat} {x1 : Int} {x4 : Int} (h : ∀ K : Kx, CW G K mX6_holds n 0 [some (vO o), some (vI x1), some (vO o2), some (vO o3), some (vI x4), none, none, none] [] M (qI Q)) : OkI G n mX6_holds [vO o, vI x1, vO o2, vO o3, vI x4] M Q := Ok_of (by decide) (Nat.le_of_ble_eq_true rfl) rfl h
-- DownOnly$Rule negate (I)I
set_option maxRecDepth 20000 in
set_option maxHeartbeats 1000000 in
theorem bX6_negate_0 {G : Gx} {K : Kx} {n : Nat} {M : Mem} {Q : Int → Mem → Prop} {o : Nat} {x1 : Int} (h0 : oc o = 6) (T : (x1 ≤ 0 → Q x1 M) ∧ (¬ (x1 ≤ 0) → (64 < x1 → Q x1 M) ∧ (¬ (64 < x1) → (0 ≤ wr (x1 - 1) ∧ wr (x1 - 1) < 64) ∧ ((0 ≤ wr (x1 - 1) ∧ wr (x1 - 1) < 64) ∧ (∀ M1 : Mem, M1 = mset M o 7 (wr (x1 - 1)).toNat (wl (1 - (M o 7 (wr (x1 - 1)).toNat))) → Q x1 M1))))) : CW G K mX6_negate n 0 [some (vO o), some (vI x1)] [] M (qI Q) := by
  refine r_iload_n dX6_negate_0 rfl ?_
  refine r_if_le (tgt := 28) dX6_negate_1 (by decide) (fun h_2 => ?_) (fun h_2 => ?_)
  · have T := T.1 h_2
    refine r_iload_n dX6_negate_28 rfl ?_
    exact r_ireturn dX6_negate_29 rfl ⟨_, rfl, T⟩
  · have T := T.2 h_2
    refine r_iload_n dX6_negate_4 rfl ?_
    refine r_bipush dX6_negate_5 (by decide) (by decide) ?_
    refine r_icmp_gt (tgt := 28) dX6_negate_7 (by decide) (fun h_1 => ?_) (fun h_1 => ?_)
    · have T := T.1 h_1
      refine r_iload_n dX6_negate_28 rfl ?_
      exact r_ireturn dX6_negate_29 rfl ⟨_, rfl, T⟩
    · have T := T.2 h_1
      refine r_aload_n dX6_negate_10 rfl ?_
      refine r_getA dX6_negate_11 fX6_27 h0 uX6_7 ?_
      refine r_iload_n dX6_negate_14 rfl ?_
      refine r_iconst dX6_negate_15 (by decide) ?_
      refine r_isub dX6_negate_16 ?_
      refine r_lconst (z := 1) dX6_negate_17 (by decide) (by decide) ?_
      refine r_aload_n dX6_negate_18 rfl ?_
      refine r_getA dX6_negate_19 fX6_27 h0 uX6_7 ?_
      refine r_iload_n dX6_negate_22 rfl ?_
      refine r_iconst dX6_negate_23 (by decide) ?_
      refine r_isub dX6_negate_24 ?_
      refine s_lald dX6_negate_25 h0 tX6_7 aX6_7 T.1 ?_
      have T := T.2
      refine r_lsub dX6_negate_26 ?_
      refine n_last dX6_negate_27 h0 tX6_7 aX6_7 T.1 (fun M1 hM1 => ?_)
      have T := T.2 M1 hM1
      refine r_iload_n dX6_negate_28 rfl ?_
      exact r_ireturn dX6_negate_29 rfl ⟨_, rfl, T⟩
theorem eX6_negate {G : Gx} {n : Nat} {M : Mem} {Q : Int → Mem → Prop} {o : Nat} {x1 : Int} (h : ∀ K : Kx, CW G K mX6_negate n 0 [some (vO o), some (vI x1)] [] M (qI Q)) : OkI G n mX6_negate [vO o, vI x1] M Q := Ok_of (by decide) (Nat.le_of_ble_eq_true rfl) rfl h
-- DownOnly$Rule join (II)I
set_option maxRecDepth 20000 in
set_option maxHeartbeats 1000000 in
theorem bX6_join_0 {G : Gx} {K : Kx} {n : Nat} {M : Mem} {Q : Int → Mem → Prop} {o : Nat} {x1 : Int} {x2 : Int} (h0 : oc o = 6) (T : (x2 < 2 → Q x2 M) ∧ (¬ (x2 < 2) → (x2 ≤ 64 → (0 ≤ wr (x2 - 2) ∧ wr (x2 - 2) < 64) ∧ ((0 ≤ wr (x2 - 1) ∧ wr (x2 - 1) < 64) ∧ (OkJ G n mX6_joined [vI x1, vL (M o 7 (wr (x2 - 2)).toNat), vL (M o 7 (wr (x2 - 1)).toNat)] M (fun r_1 M1 => (0 ≤ wr (x2 - 2) ∧ wr (x2 - 2) < 64) ∧ (∀ M2 : Mem, M2 = mset M1 o 7 (wr (x2 - 2)).toNat r_1 → Q (wr (x2 - 1)) M2))))) ∧ (¬ (x2 ≤ 64) → Q x2 M))) : CW G K mX6_join (n + 1) 0 [some (vO o), some (vI x1), some (vI x2)] [] M (qI Q) := by
  refine r_iload_n dX6_join_0 rfl ?_
  refine r_iconst dX6_join_1 (by decide) ?_
  refine r_icmp_lt (tgt := 11) dX6_join_2 (by decide) (fun h_2 => ?_) (fun h_2 => ?_)
  · have T := T.1 h_2
    refine r_iload_n dX6_join_11 rfl ?_
    exact r_ireturn dX6_join_12 rfl ⟨_, rfl, T⟩
  · have T := T.2 h_2
    refine r_iload_n dX6_join_5 rfl ?_
    refine r_bipush dX6_join_6 (by decide) (by decide) ?_
    refine r_icmp_le (tgt := 13) dX6_join_8 (by decide) (fun h_1 => ?_) (fun h_1 => ?_)
    · have T := T.1 h_1
      refine r_aload_n dX6_join_13 rfl ?_
      refine r_getA dX6_join_14 fX6_27 h0 uX6_7 ?_
      refine r_iload_n dX6_join_17 rfl ?_
      refine r_iconst dX6_join_18 (by decide) ?_
      refine r_isub dX6_join_19 ?_
      refine r_iload_n dX6_join_20 rfl ?_
      refine r_aload_n dX6_join_21 rfl ?_
      refine r_getA dX6_join_22 fX6_27 h0 uX6_7 ?_
      refine r_iload_n dX6_join_25 rfl ?_
      refine r_iconst dX6_join_26 (by decide) ?_
      refine r_isub dX6_join_27 ?_
      refine s_lald dX6_join_28 h0 tX6_7 aX6_7 T.1 ?_
      have T := T.2
      refine r_aload_n dX6_join_29 rfl ?_
      refine r_getA dX6_join_30 fX6_27 h0 uX6_7 ?_
      refine r_iload_n dX6_join_33 rfl ?_
      refine r_iconst dX6_join_34 (by decide) ?_
      refine r_isub dX6_join_35 ?_
      refine s_lald dX6_join_36 h0 tX6_7 aX6_7 T.1 ?_
      have T := T.2
      refine r_callSJ (md' := mX6_joined) (as := [vI x1, vL (M o 7 (wr (x2 - 2)).toNat), vL (M o 7 (wr (x2 - 1)).toNat)]) dX6_join_37 lX6_52 iX6_joined rfl rfl (Nat.le_of_ble_eq_true rfl) T (fun r_1 M1 T => ?_)
      refine n_last dX6_join_40 h0 tX6_7 aX6_7 T.1 (fun M2 hM2 => ?_)
      have T := T.2 M2 hM2
      refine r_iload_n dX6_join_41 rfl ?_
      refine r_iconst dX6_join_42 (by decide) ?_
      refine r_isub dX6_join_43 ?_
      exact r_ireturn dX6_join_44 rfl ⟨_, rfl, T⟩
    · have T := T.2 h_1
      refine r_iload_n dX6_join_11 rfl ?_
      exact r_ireturn dX6_join_12 rfl ⟨_, rfl, T⟩
theorem eX6_join {G : Gx} {n : Nat} {M : Mem} {Q : Int → Mem → Prop} {o : Nat} {x1 : Int} {x2 : Int} (h : ∀ K : Kx, CW G K mX6_join n 0 [some (vO o), some (vI x1), some (vI x2)] [] M (qI Q)) : OkI G n mX6_join [vO o, vI x1, vI x2] M Q := Ok_of (by decide) (Nat.le_of_ble_eq_true rfl) rfl h
-- DownOnly$Rule joined (IJJ)J
set_option maxRecDepth 20000 in
set_option maxHeartbeats 1000000 in
theorem bX6_joined_0 {G : Gx} {K : Kx} {n : Nat} {M : Mem} {Q : Int → Mem → Prop}  {x0 : Int} {x1 : Int} {x3 : Int}  (T : ((x0 < 10 ∨ 19 < x0) → Q (lOr x1 x3) M) ∧ (x0 = 10 → Q (wl (x1 + x3)) M) ∧ (x0 = 11 → Q (wl (x1 - x3)) M) ∧ (x0 = 12 → Q (wl (x1 * x3)) M) ∧ (x0 = 13 → (¬ sg x3 0 = 0 → (x3 ≠ 0) ∧ (Q (wl (Int.tdiv x1 x3)) M)) ∧ (sg x3 0 = 0 → Q 0 M)) ∧ (x0 = 14 → (0 ≤ sg x1 x3 → Q 0 M) ∧ (¬ (0 ≤ sg x1 x3) → Q 1 M)) ∧ (x0 = 15 → (0 < sg x1 x3 → Q 0 M) ∧ (¬ (0 < sg x1 x3) → Q 1 M)) ∧ (x0 = 16 → (¬ sg x1 x3 = 0 → Q 0 M) ∧ (sg x1 x3 = 0 → Q 1 M)) ∧ (x0 = 17 → (sg x1 x3 < 0 → Q 0 M) ∧ (¬ (sg x1 x3 < 0) → Q 1 M)) ∧ (x0 = 18 → (sg x1 x3 ≤ 0 → Q 0 M) ∧ (¬ (sg x1 x3 ≤ 0) → Q 1 M)) ∧ (x0 = 19 → Q (lAnd x1 x3) M)) : CW G K mX6_joined n 0 [some (vI x0), some (vL x1), none, some (vL x3), none] [] M (qJ Q) := by
  refine r_iload_n dX6_joined_0 rfl ?_
  refine r_tsw (td := 146) (tg := [56, 60, 64, 68, 82, 94, 106, 118, 130, 142]) dX6_joined_1 (by decide) (by decide) (by decide) (fun h_ => ?_) (fun j t ht hx => ?_)
  · have T := T.1 h_
    refine r_lload_n dX6_joined_146 rfl ?_
    refine r_lload_n dX6_joined_147 rfl ?_
    refine r_lor dX6_joined_148 ?_
    exact r_lreturn dX6_joined_149 rfl ⟨_, rfl, T⟩
  · match j, ht, hx with
    | 0, ht, hx =>
      cases ht
      have T := T.2.1 (by omega)
      refine r_lload_n dX6_joined_56 rfl ?_
      refine r_lload_n dX6_joined_57 rfl ?_
      refine r_ladd dX6_joined_58 ?_
      exact r_lreturn dX6_joined_59 rfl ⟨_, rfl, T⟩
    | 1, ht, hx =>
      cases ht
      have T := T.2.2.1 (by omega)
      refine r_lload_n dX6_joined_60 rfl ?_
      refine r_lload_n dX6_joined_61 rfl ?_
      refine r_lsub dX6_joined_62 ?_
      exact r_lreturn dX6_joined_63 rfl ⟨_, rfl, T⟩
    | 2, ht, hx =>
      cases ht
      have T := T.2.2.2.1 (by omega)
      refine r_lload_n dX6_joined_64 rfl ?_
      refine r_lload_n dX6_joined_65 rfl ?_
      refine r_lmul dX6_joined_66 ?_
      exact r_lreturn dX6_joined_67 rfl ⟨_, rfl, T⟩
    | 3, ht, hx =>
      cases ht
      have T := T.2.2.2.2.1 (by omega)
      refine r_lload_n dX6_joined_68 rfl ?_
      refine r_lconst (z := 0) dX6_joined_69 (by decide) (by decide) ?_
      refine r_lcmp dX6_joined_70 ?_
      refine r_if_ne (tgt := 78) dX6_joined_71 (by decide) (fun h_1 => ?_) (fun h_1 => ?_)
      · have T := T.1 h_1
        refine r_lload_n dX6_joined_78 rfl ?_
        refine r_lload_n dX6_joined_79 rfl ?_
        refine r_ldiv dX6_joined_80 T.1 ?_
        have T := T.2
        exact r_lreturn dX6_joined_81 rfl ⟨_, rfl, T⟩
      · have T := T.2 h_1
        refine r_lconst (z := 0) dX6_joined_74 (by decide) (by decide) ?_
        refine r_goto (tgt := 81) dX6_joined_75 (by decide) ?_
        exact r_lreturn dX6_joined_81 rfl ⟨_, rfl, T⟩
    | 4, ht, hx =>
      cases ht
      have T := T.2.2.2.2.2.1 (by omega)
      refine r_lload_n dX6_joined_82 rfl ?_
      refine r_lload_n dX6_joined_83 rfl ?_
      refine r_lcmp dX6_joined_84 ?_
      refine r_if_ge (tgt := 92) dX6_joined_85 (by decide) (fun h_2 => ?_) (fun h_2 => ?_)
      · have T := T.1 h_2
        refine r_lconst (z := 0) dX6_joined_92 (by decide) (by decide) ?_
        exact r_lreturn dX6_joined_93 rfl ⟨_, rfl, T⟩
      · have T := T.2 h_2
        refine r_lconst (z := 1) dX6_joined_88 (by decide) (by decide) ?_
        refine r_goto (tgt := 93) dX6_joined_89 (by decide) ?_
        exact r_lreturn dX6_joined_93 rfl ⟨_, rfl, T⟩
    | 5, ht, hx =>
      cases ht
      have T := T.2.2.2.2.2.2.1 (by omega)
      refine r_lload_n dX6_joined_94 rfl ?_
      refine r_lload_n dX6_joined_95 rfl ?_
      refine r_lcmp dX6_joined_96 ?_
      refine r_if_gt (tgt := 104) dX6_joined_97 (by decide) (fun h_3 => ?_) (fun h_3 => ?_)
      · have T := T.1 h_3
        refine r_lconst (z := 0) dX6_joined_104 (by decide) (by decide) ?_
        exact r_lreturn dX6_joined_105 rfl ⟨_, rfl, T⟩
      · have T := T.2 h_3
        refine r_lconst (z := 1) dX6_joined_100 (by decide) (by decide) ?_
        refine r_goto (tgt := 105) dX6_joined_101 (by decide) ?_
        exact r_lreturn dX6_joined_105 rfl ⟨_, rfl, T⟩
    | 6, ht, hx =>
      cases ht
      have T := T.2.2.2.2.2.2.2.1 (by omega)
      refine r_lload_n dX6_joined_106 rfl ?_
      refine r_lload_n dX6_joined_107 rfl ?_
      refine r_lcmp dX6_joined_108 ?_
      refine r_if_ne (tgt := 116) dX6_joined_109 (by decide) (fun h_4 => ?_) (fun h_4 => ?_)
      · have T := T.1 h_4
        refine r_lconst (z := 0) dX6_joined_116 (by decide) (by decide) ?_
        exact r_lreturn dX6_joined_117 rfl ⟨_, rfl, T⟩
      · have T := T.2 h_4
        refine r_lconst (z := 1) dX6_joined_112 (by decide) (by decide) ?_
        refine r_goto (tgt := 117) dX6_joined_113 (by decide) ?_
        exact r_lreturn dX6_joined_117 rfl ⟨_, rfl, T⟩
    | 7, ht, hx =>
      cases ht
      have T := T.2.2.2.2.2.2.2.2.1 (by omega)
      refine r_lload_n dX6_joined_118 rfl ?_
      refine r_lload_n dX6_joined_119 rfl ?_
      refine r_lcmp dX6_joined_120 ?_
      refine r_if_lt (tgt := 128) dX6_joined_121 (by decide) (fun h_5 => ?_) (fun h_5 => ?_)
      · have T := T.1 h_5
        refine r_lconst (z := 0) dX6_joined_128 (by decide) (by decide) ?_
        exact r_lreturn dX6_joined_129 rfl ⟨_, rfl, T⟩
      · have T := T.2 h_5
        refine r_lconst (z := 1) dX6_joined_124 (by decide) (by decide) ?_
        refine r_goto (tgt := 129) dX6_joined_125 (by decide) ?_
        exact r_lreturn dX6_joined_129 rfl ⟨_, rfl, T⟩
    | 8, ht, hx =>
      cases ht
      have T := T.2.2.2.2.2.2.2.2.2.1 (by omega)
      refine r_lload_n dX6_joined_130 rfl ?_
      refine r_lload_n dX6_joined_131 rfl ?_
      refine r_lcmp dX6_joined_132 ?_
      refine r_if_le (tgt := 140) dX6_joined_133 (by decide) (fun h_6 => ?_) (fun h_6 => ?_)
      · have T := T.1 h_6
        refine r_lconst (z := 0) dX6_joined_140 (by decide) (by decide) ?_
        exact r_lreturn dX6_joined_141 rfl ⟨_, rfl, T⟩
      · have T := T.2 h_6
        refine r_lconst (z := 1) dX6_joined_136 (by decide) (by decide) ?_
        refine r_goto (tgt := 141) dX6_joined_137 (by decide) ?_
        exact r_lreturn dX6_joined_141 rfl ⟨_, rfl, T⟩
    | 9, ht, hx =>
      cases ht
      have T := T.2.2.2.2.2.2.2.2.2.2 (by omega)
      refine r_lload_n dX6_joined_142 rfl ?_
      refine r_lload_n dX6_joined_143 rfl ?_
      refine r_land dX6_joined_144 ?_
      exact r_lreturn dX6_joined_145 rfl ⟨_, rfl, T⟩
    | j + 10, ht, hx => exact absurd ht (by simp)
theorem eX6_joined {G : Gx} {n : Nat} {M : Mem} {Q : Int → Mem → Prop}  {x0 : Int} {x1 : Int} {x3 : Int} (h : ∀ K : Kx, CW G K mX6_joined n 0 [some (vI x0), some (vL x1), none, some (vL x3), none] [] M (qJ Q)) : OkJ G n mX6_joined [vI x0, vL x1, vL x3] M Q := Ok_of (by decide) (Nat.le_of_ble_eq_true rfl) rfl h
-- DownOnly$Reach clear ()V
set_option maxRecDepth 20000 in
set_option maxHeartbeats 1000000 in
theorem bX5_clear_0 {G : Gx} {K : Kx} {n : Nat} {M : Mem} {Q : Mem → Prop} {o : Nat}  (h0 : oc o = 5) (T : OkV G n mJ7_fill_53178 [vA o 0, vI 1000000] M (fun M1 => Q M1)) : CW G K mX5_clear (n + 1) 0 [some (vO o)] [] M (qV Q) := by
  refine r_aload_n dX5_clear_0 rfl ?_
  refine r_getA dX5_clear_1 fX5_9 h0 uX5_0 ?_
  refine r_ldc (z := 1000000) dX5_clear_4 kX5_15 (by decide) (by decide) ?_
  refine r_callSV (md' := mJ7_fill_53178) (as := [vA o 0, vI 1000000]) dX5_clear_6 lX5_16 iJ7_fill_53178 rfl rfl (Nat.le_of_ble_eq_true rfl) T (fun M1 T => ?_)
  exact r_return dX5_clear_9 rfl ⟨rfl, T⟩
theorem eX5_clear {G : Gx} {n : Nat} {M : Mem} {Q : Mem → Prop} {o : Nat}  (h : ∀ K : Kx, CW G K mX5_clear n 0 [some (vO o)] [] M (qV Q)) : OkV G n mX5_clear [vO o] M Q := Ok_of (by decide) (Nat.le_of_ble_eq_true rfl) rfl h
-- DownOnly$Reach from (LDownOnly$House;IIZ)V
set_option maxRecDepth 20000 in
set_option maxHeartbeats 1000000 in
theorem bX5_from_0 {G : Gx} {K : Kx} {n : Nat} {M : Mem} {Q : Mem → Prop} {o : Nat} {o1 : Nat} {x2 : Int} {x3 : Int} {x4 : Int} (h0 : oc o = 5) (T : OkV G n mX5_clear [vO o] M (fun M1 => (x4 = 0 → OkI G n mX5_put [vO o, vI x2, vI 1, vI x3] M1 (fun r_1 M2 => OkV G n mX5_spread [vO o, vO o1] M2 (fun M3 => Q M3))) ∧ (¬ (x4 = 0) → OkI G n mX5_put [vO o, vI x2, vI 0, vI x3] M1 (fun r_2 M4 => OkV G n mX5_spread [vO o, vO o1] M4 (fun M5 => Q M5))))) : CW G K mX5_from (n + 1) 0 [some (vO o), some (vO o1), some (vI x2), some (vI x3), some (vI x4)] [] M (qV Q) := by
  refine r_aload_n dX5_from_0 rfl ?_
  refine r_callVV (md' := mX5_clear) (as := []) dX5_from_1 lX5_22 iX5_clear h0 rfl rfl (Nat.le_of_ble_eq_true rfl) T (fun M1 T => ?_)
  refine r_aload_n dX5_from_4 rfl ?_
  refine r_iload_n dX5_from_5 rfl ?_
  refine r_iload dX5_from_6 rfl ?_
  refine r_if_eq (tgt := 15) dX5_from_8 (by decide) (fun h_1 => ?_) (fun h_1 => ?_)
  · have T := T.1 h_1
    refine r_iconst dX5_from_15 (by decide) ?_
    refine r_iload_n dX5_from_16 rfl ?_
    refine r_callVI (md' := mX5_put) (as := [vI x2, vI 1, vI x3]) dX5_from_17 lX5_25 iX5_put h0 rfl rfl (Nat.le_of_ble_eq_true rfl) T (fun r_1 M2 T => ?_)
    refine r_pop dX5_from_20 rfl ?_
    refine r_aload_n dX5_from_21 rfl ?_
    refine r_aload_n dX5_from_22 rfl ?_
    refine r_callVV (md' := mX5_spread) (as := [vO o1]) dX5_from_23 lX5_29 iX5_spread h0 rfl rfl (Nat.le_of_ble_eq_true rfl) T (fun M3 T => ?_)
    exact r_return dX5_from_26 rfl ⟨rfl, T⟩
  · have T := T.2 h_1
    refine r_iconst dX5_from_11 (by decide) ?_
    refine r_goto (tgt := 16) dX5_from_12 (by decide) ?_
    refine r_iload_n dX5_from_16 rfl ?_
    refine r_callVI (md' := mX5_put) (as := [vI x2, vI 0, vI x3]) dX5_from_17 lX5_25 iX5_put h0 rfl rfl (Nat.le_of_ble_eq_true rfl) T (fun r_2 M4 T => ?_)
    refine r_pop dX5_from_20 rfl ?_
    refine r_aload_n dX5_from_21 rfl ?_
    refine r_aload_n dX5_from_22 rfl ?_
    refine r_callVV (md' := mX5_spread) (as := [vO o1]) dX5_from_23 lX5_29 iX5_spread h0 rfl rfl (Nat.le_of_ble_eq_true rfl) T (fun M5 T => ?_)
    exact r_return dX5_from_26 rfl ⟨rfl, T⟩
theorem eX5_from {G : Gx} {n : Nat} {M : Mem} {Q : Mem → Prop} {o : Nat} {o1 : Nat} {x2 : Int} {x3 : Int} {x4 : Int} (h : ∀ K : Kx, CW G K mX5_from n 0 [some (vO o), some (vO o1), some (vI x2), some (vI x3), some (vI x4)] [] M (qV Q)) : OkV G n mX5_from [vO o, vO o1, vI x2, vI x3, vI x4] M Q := Ok_of (by decide) (Nat.le_of_ble_eq_true rfl) rfl h
-- DownOnly$Reach put (III)Z
set_option maxRecDepth 20000 in
set_option maxHeartbeats 1000000 in
theorem bX5_put_0 {G : Gx} {K : Kx} {n : Nat} {M : Mem} {Q : Int → Mem → Prop} {o : Nat} {x1 : Int} {x2 : Int} {x3 : Int} (h0 : oc o = 5) (T : (1439 < x3 → Q 0 M) ∧ (¬ (1439 < x3) → (wr (wr (x2 * 16) + x1) < 0 → Q 0 M) ∧ (¬ (wr (wr (x2 * 16) + x1) < 0) → (32 ≤ wr (wr (x2 * 16) + x1) → Q 0 M) ∧ (¬ (32 ≤ wr (wr (x2 * 16) + x1)) → (0 ≤ wr (wr (x2 * 16) + x1) ∧ wr (wr (x2 * 16) + x1) < 32) ∧ ((x3 < M o 0 (wr (wr (x2 * 16) + x1)).toNat → (0 ≤ wr (wr (x2 * 16) + x1) ∧ wr (wr (x2 * 16) + x1) < 32) ∧ (∀ M1 : Mem, M1 = mset M o 0 (wr (wr (x2 * 16) + x1)).toNat x3 → Q 1 M1)) ∧ (¬ (x3 < M o 0 (wr (wr (x2 * 16) + x1)).toNat) → Q 0 M)))))) : CW G K mX5_put n 0 [some (vO o), some (vI x1), some (vI x2), some (vI x3), none] [] M (qI Q) := by
  refine r_iload_n dX5_put_0 rfl ?_
  refine r_bipush dX5_put_1 (by decide) (by decide) ?_
  refine r_imul dX5_put_3 ?_
  refine r_iload_n dX5_put_4 rfl ?_
  refine r_iadd dX5_put_5 ?_
  refine r_istore dX5_put_6 (by decide) rfl ?_
  refine r_iload_n dX5_put_8 rfl ?_
  refine r_sipush dX5_put_9 (by decide) (by decide) ?_
  refine r_icmp_gt (tgt := 41) dX5_put_12 (by decide) (fun h_4 => ?_) (fun h_4 => ?_)
  · have T := T.1 h_4
    refine r_iconst dX5_put_41 (by decide) ?_
    exact r_zreturn dX5_put_42 rfl (by decide) ⟨_, rfl, T⟩
  · have T := T.2 h_4
    refine r_iload dX5_put_15 rfl ?_
    refine r_if_lt (tgt := 41) dX5_put_17 (by decide) (fun h_3 => ?_) (fun h_3 => ?_)
    · have T := T.1 h_3
      refine r_iconst dX5_put_41 (by decide) ?_
      exact r_zreturn dX5_put_42 rfl (by decide) ⟨_, rfl, T⟩
    · have T := T.2 h_3
      refine r_iload dX5_put_20 rfl ?_
      refine r_aload_n dX5_put_22 rfl ?_
      refine r_getA dX5_put_23 fX5_9 h0 uX5_0 ?_
      refine s_alen dX5_put_26 h0 uX5_0 aX5_0 (by decide) ?_
      refine r_icmp_ge (tgt := 41) dX5_put_27 (by decide) (fun h_2 => ?_) (fun h_2 => ?_)
      · have T := T.1 h_2
        refine r_iconst dX5_put_41 (by decide) ?_
        exact r_zreturn dX5_put_42 rfl (by decide) ⟨_, rfl, T⟩
      · have T := T.2 h_2
        refine r_iload_n dX5_put_30 rfl ?_
        refine r_aload_n dX5_put_31 rfl ?_
        refine r_getA dX5_put_32 fX5_9 h0 uX5_0 ?_
        refine r_iload dX5_put_35 rfl ?_
        refine s_iald dX5_put_37 h0 tX5_0 aX5_0 T.1 ?_
        have T := T.2
        refine r_icmp_lt (tgt := 43) dX5_put_38 (by decide) (fun h_1 => ?_) (fun h_1 => ?_)
        · have T := T.1 h_1
          refine r_aload_n dX5_put_43 rfl ?_
          refine r_getA dX5_put_44 fX5_9 h0 uX5_0 ?_
          refine r_iload dX5_put_47 rfl ?_
          refine r_iload_n dX5_put_49 rfl ?_
          refine n_iast dX5_put_50 h0 tX5_0 aX5_0 T.1 (fun M1 hM1 => ?_)
          have T := T.2 M1 hM1
          refine r_iconst dX5_put_51 (by decide) ?_
          exact r_zreturn dX5_put_52 rfl (by decide) ⟨_, rfl, T⟩
        · have T := T.2 h_1
          refine r_iconst dX5_put_41 (by decide) ?_
          exact r_zreturn dX5_put_42 rfl (by decide) ⟨_, rfl, T⟩
theorem eX5_put {G : Gx} {n : Nat} {M : Mem} {Q : Int → Mem → Prop} {o : Nat} {x1 : Int} {x2 : Int} {x3 : Int} (h : ∀ K : Kx, CW G K mX5_put n 0 [some (vO o), some (vI x1), some (vI x2), some (vI x3), none] [] M (qI Q)) : OkI G n mX5_put [vO o, vI x1, vI x2, vI x3] M Q := Ok_of (by decide) (Nat.le_of_ble_eq_true rfl) rfl h
-- DownOnly$Reach get (II)I
set_option maxRecDepth 20000 in
set_option maxHeartbeats 1000000 in
theorem bX5_get_0 {G : Gx} {K : Kx} {n : Nat} {M : Mem} {Q : Int → Mem → Prop} {o : Nat} {x1 : Int} {x2 : Int} (h0 : oc o = 5) (T : (wr (wr (x2 * 16) + x1) < 0 → Q 1000000 M) ∧ (¬ (wr (wr (x2 * 16) + x1) < 0) → (32 ≤ wr (wr (x2 * 16) + x1) → Q 1000000 M) ∧ (¬ (32 ≤ wr (wr (x2 * 16) + x1)) → (0 ≤ wr (wr (x2 * 16) + x1) ∧ wr (wr (x2 * 16) + x1) < 32) ∧ (Q (M o 0 (wr (wr (x2 * 16) + x1)).toNat) M)))) : CW G K mX5_get n 0 [some (vO o), some (vI x1), some (vI x2), none] [] M (qI Q) := by
  refine r_iload_n dX5_get_0 rfl ?_
  refine r_bipush dX5_get_1 (by decide) (by decide) ?_
  refine r_imul dX5_get_3 ?_
  refine r_iload_n dX5_get_4 rfl ?_
  refine r_iadd dX5_get_5 ?_
  refine r_istore_n dX5_get_6 (by decide) rfl ?_
  refine r_iload_n dX5_get_7 rfl ?_
  refine r_if_lt (tgt := 29) dX5_get_8 (by decide) (fun h_2 => ?_) (fun h_2 => ?_)
  · have T := T.1 h_2
    refine r_ldc (z := 1000000) dX5_get_29 kX5_15 (by decide) (by decide) ?_
    exact r_ireturn dX5_get_31 rfl ⟨_, rfl, T⟩
  · have T := T.2 h_2
    refine r_iload_n dX5_get_11 rfl ?_
    refine r_aload_n dX5_get_12 rfl ?_
    refine r_getA dX5_get_13 fX5_9 h0 uX5_0 ?_
    refine s_alen dX5_get_16 h0 uX5_0 aX5_0 (by decide) ?_
    refine r_icmp_ge (tgt := 29) dX5_get_17 (by decide) (fun h_1 => ?_) (fun h_1 => ?_)
    · have T := T.1 h_1
      refine r_ldc (z := 1000000) dX5_get_29 kX5_15 (by decide) (by decide) ?_
      exact r_ireturn dX5_get_31 rfl ⟨_, rfl, T⟩
    · have T := T.2 h_1
      refine r_aload_n dX5_get_20 rfl ?_
      refine r_getA dX5_get_21 fX5_9 h0 uX5_0 ?_
      refine r_iload_n dX5_get_24 rfl ?_
      refine s_iald dX5_get_25 h0 tX5_0 aX5_0 T.1 ?_
      have T := T.2
      refine r_goto (tgt := 31) dX5_get_26 (by decide) ?_
      exact r_ireturn dX5_get_31 rfl ⟨_, rfl, T⟩
theorem eX5_get {G : Gx} {n : Nat} {M : Mem} {Q : Int → Mem → Prop} {o : Nat} {x1 : Int} {x2 : Int} (h : ∀ K : Kx, CW G K mX5_get n 0 [some (vO o), some (vI x1), some (vI x2), none] [] M (qI Q)) : OkI G n mX5_get [vO o, vI x1, vI x2] M Q := Ok_of (by decide) (Nat.le_of_ble_eq_true rfl) rfl h
-- DownOnly$Reach leastAt (I)I
set_option maxRecDepth 20000 in
set_option maxHeartbeats 1000000 in
theorem bX5_leastAt_0 {G : Gx} {K : Kx} {n : Nat} {M : Mem} {Q : Int → Mem → Prop} {o : Nat} {x1 : Int} (h0 : oc o = 5) (T : OkI G n mX5_get [vO o, vI x1, vI 0] M (fun r_1 M1 => OkI G n mX5_get [vO o, vI x1, vI 1] M1 (fun r_2 M2 => Q (if r_2 < r_1 then r_2 else r_1) M2))) : CW G K mX5_leastAt (n + 1) 0 [some (vO o), some (vI x1)] [] M (qI Q) := by
  refine r_aload_n dX5_leastAt_0 rfl ?_
  refine r_iload_n dX5_leastAt_1 rfl ?_
  refine r_iconst dX5_leastAt_2 (by decide) ?_
  refine r_callVI (md' := mX5_get) (as := [vI x1, vI 0]) dX5_leastAt_3 lX5_33 iX5_get h0 rfl rfl (Nat.le_of_ble_eq_true rfl) T (fun r_1 M1 T => ?_)
  refine r_aload_n dX5_leastAt_6 rfl ?_
  refine r_iload_n dX5_leastAt_7 rfl ?_
  refine r_iconst dX5_leastAt_8 (by decide) ?_
  refine r_callVI (md' := mX5_get) (as := [vI x1, vI 1]) dX5_leastAt_9 lX5_33 iX5_get h0 rfl rfl (Nat.le_of_ble_eq_true rfl) T (fun r_2 M2 T => ?_)
  refine r_min dX5_leastAt_12 lX5_37 wmin2 wmath wmin4 (Nat.le_of_ble_eq_true rfl) ?_
  exact r_ireturn dX5_leastAt_15 rfl ⟨_, rfl, T⟩
theorem eX5_leastAt {G : Gx} {n : Nat} {M : Mem} {Q : Int → Mem → Prop} {o : Nat} {x1 : Int} (h : ∀ K : Kx, CW G K mX5_leastAt n 0 [some (vO o), some (vI x1)] [] M (qI Q)) : OkI G n mX5_leastAt [vO o, vI x1] M Q := Ok_of (by decide) (Nat.le_of_ble_eq_true rfl) rfl h
-- DownOnly$Reach spread (LDownOnly$House;)V
set_option maxRecDepth 20000 in
set_option maxHeartbeats 1000000 in
theorem bX5_spread_0 {G : Gx} {K : Kx} {n : Nat} {M : Mem} {Q : Mem → Prop} {o : Nat} {o1 : Nat}   (T : CW G K mX5_spread (n + 1) 4 [some (vO o), some (vO o1), some (vI 1), some (vI 0), none, none] [] M (qV Q)) : CW G K mX5_spread (n + 1) 0 [some (vO o), some (vO o1), none, none, none, none] [] M (qV Q) := by
  refine r_iconst dX5_spread_0 (by decide) ?_
  refine r_istore_n dX5_spread_1 (by decide) rfl ?_
  refine r_iconst dX5_spread_2 (by decide) ?_
  refine r_istore_n dX5_spread_3 (by decide) rfl ?_
  exact T
set_option maxRecDepth 20000 in
set_option maxHeartbeats 1000000 in
theorem bX5_spread_4 {G : Gx} {K : Kx} {n : Nat} {M : Mem} {Q : Mem → Prop} {o : Nat} {o1 : Nat} {x2 : Int} {x3 : Int} (h0 : oc o = 5) (T : (32 < x3 → Q M) ∧ (¬ (32 < x3) → (x2 = 0 → Q M) ∧ (¬ (x2 = 0) → OkI G n mX5_goUp [vO o, vO o1] M (fun r_1 M1 => CW G K mX5_spread (n + 1) 26 [some (vO o), some (vO o1), some (vI r_1), some (vI x3), some (vI 0), none] [] M1 (qV Q))))) : CW G K mX5_spread (n + 1) 4 [some (vO o), some (vO o1), some (vI x2), some (vI x3), none, none] [] M (qV Q) := by
  refine r_iload_n dX5_spread_4 rfl ?_
  refine r_aload_n dX5_spread_5 rfl ?_
  refine r_getA dX5_spread_6 fX5_9 h0 uX5_0 ?_
  refine s_alen dX5_spread_9 h0 uX5_0 aX5_0 (by decide) ?_
  refine r_icmp_gt (tgt := 107) dX5_spread_10 (by decide) (fun h_2 => ?_) (fun h_2 => ?_)
  · have T := T.1 h_2
    exact r_return dX5_spread_107 rfl ⟨rfl, T⟩
  · have T := T.2 h_2
    refine r_iload_n dX5_spread_13 rfl ?_
    refine r_if_eq (tgt := 107) dX5_spread_14 (by decide) (fun h_1 => ?_) (fun h_1 => ?_)
    · have T := T.1 h_1
      exact r_return dX5_spread_107 rfl ⟨rfl, T⟩
    · have T := T.2 h_1
      refine r_aload_n dX5_spread_17 rfl ?_
      refine r_aload_n dX5_spread_18 rfl ?_
      refine r_callVI (md' := mX5_goUp) (as := [vO o1]) dX5_spread_19 lX5_42 iX5_goUp h0 rfl rfl (Nat.le_of_ble_eq_true rfl) T (fun r_1 M1 T => ?_)
      refine r_istore_n dX5_spread_22 (by decide) rfl ?_
      refine r_iconst dX5_spread_23 (by decide) ?_
      refine r_istore dX5_spread_24 (by decide) rfl ?_
      exact T
set_option maxRecDepth 20000 in
set_option maxHeartbeats 1000000 in
theorem bX5_spread_26 {G : Gx} {K : Kx} {n : Nat} {M : Mem} {Q : Mem → Prop} {o : Nat} {o1 : Nat} {x2 : Int} {x3 : Int} {x4 : Int} (h1 : oc o1 = 1) (T : (M o1 1 0 ≤ x4 → CW G K mX5_spread (n + 1) 4 [some (vO o), some (vO o1), some (vI x2), some (vI (wr (x3 + 1))), none, none] [] M (qV Q)) ∧ (¬ (M o1 1 0 ≤ x4) → (24 ≤ x4 → CW G K mX5_spread (n + 1) 4 [some (vO o), some (vO o1), some (vI x2), some (vI (wr (x3 + 1))), none, none] [] M (qV Q)) ∧ (¬ (24 ≤ x4) → CW G K mX5_spread (n + 1) 45 [some (vO o), some (vO o1), some (vI x2), some (vI x3), some (vI x4), some (vI 0)] [] M (qV Q)))) : CW G K mX5_spread (n + 1) 26 [some (vO o), some (vO o1), some (vI x2), some (vI x3), some (vI x4), none] [] M (qV Q) := by
  refine r_iload dX5_spread_26 rfl ?_
  refine r_aload_n dX5_spread_28 rfl ?_
  refine r_getI dX5_spread_29 fX5_46 h1 tX1_1 ?_
  refine r_icmp_ge (tgt := 101) dX5_spread_32 (by decide) (fun h_2 => ?_) (fun h_2 => ?_)
  · have T := T.1 h_2
    refine r_iinc dX5_spread_101 rfl (by decide) rfl ?_
    refine r_goto (tgt := 4) dX5_spread_104 (by decide) ?_
    exact CW_msk [true, true, true, true, false, false] rfl T
  · have T := T.2 h_2
    refine r_iload dX5_spread_35 rfl ?_
    refine r_bipush dX5_spread_37 (by decide) (by decide) ?_
    refine r_icmp_ge (tgt := 101) dX5_spread_39 (by decide) (fun h_1 => ?_) (fun h_1 => ?_)
    · have T := T.1 h_1
      refine r_iinc dX5_spread_101 rfl (by decide) rfl ?_
      refine r_goto (tgt := 4) dX5_spread_104 (by decide) ?_
      exact CW_msk [true, true, true, true, false, false] rfl T
    · have T := T.2 h_1
      refine r_iconst dX5_spread_42 (by decide) ?_
      refine r_istore dX5_spread_43 (by decide) rfl ?_
      exact T
set_option maxRecDepth 20000 in
set_option maxHeartbeats 1000000 in
theorem bX5_spread_45 {G : Gx} {K : Kx} {n : Nat} {M : Mem} {Q : Mem → Prop} {o : Nat} {o1 : Nat} {x2 : Int} {x3 : Int} {x4 : Int} {x5 : Int} (h0 : oc o = 5) (h1 : oc o1 = 1) (T : (1 < x5 → CW G K mX5_spread (n + 1) 26 [some (vO o), some (vO o1), some (vI x2), some (vI x3), some (vI (wr (x4 + 1))), none] [] M (qV Q)) ∧ (¬ (1 < x5) → (0 ≤ x4 ∧ x4 < 24) ∧ (OkI G n mX5_goAlong [vO o, vO o1, vI x4, vI (M o1 8 x4.toNat), vI x5] M (fun r_1 M1 => (0 ≤ x4 ∧ x4 < 24) ∧ (OkI G n mX5_goAlong [vO o, vO o1, vI x4, vI (M1 o1 9 x4.toNat), vI x5] M1 (fun r_2 M2 => CW G K mX5_spread (n + 1) 45 [some (vO o), some (vO o1), some (vI (bOr (bOr x2 r_1) r_2)), some (vI x3), some (vI x4), some (vI (wr (x5 + 1)))] [] M2 (qV Q))))))) : CW G K mX5_spread (n + 1) 45 [some (vO o), some (vO o1), some (vI x2), some (vI x3), some (vI x4), some (vI x5)] [] M (qV Q) := by
  refine r_iload dX5_spread_45 rfl ?_
  refine r_iconst dX5_spread_47 (by decide) ?_
  refine r_icmp_gt (tgt := 95) dX5_spread_48 (by decide) (fun h_1 => ?_) (fun h_1 => ?_)
  · have T := T.1 h_1
    refine r_iinc dX5_spread_95 rfl (by decide) rfl ?_
    refine r_goto (tgt := 26) dX5_spread_98 (by decide) ?_
    exact CW_msk [true, true, true, true, true, false] rfl T
  · have T := T.2 h_1
    refine r_iload_n dX5_spread_51 rfl ?_
    refine r_aload_n dX5_spread_52 rfl ?_
    refine r_aload_n dX5_spread_53 rfl ?_
    refine r_iload dX5_spread_54 rfl ?_
    refine r_aload_n dX5_spread_56 rfl ?_
    refine r_getA dX5_spread_57 fX5_52 h1 uX1_8 ?_
    refine r_iload dX5_spread_60 rfl ?_
    refine s_iald dX5_spread_62 h1 tX1_8 aX1_8 T.1 ?_
    have T := T.2
    refine r_iload dX5_spread_63 rfl ?_
    refine r_callVI (md' := mX5_goAlong) (as := [vO o1, vI x4, vI (M o1 8 x4.toNat), vI x5]) dX5_spread_65 lX5_55 iX5_goAlong h0 rfl rfl (Nat.le_of_ble_eq_true rfl) T (fun r_1 M1 T => ?_)
    refine r_ior dX5_spread_68 ?_
    refine r_istore_n dX5_spread_69 (by decide) rfl ?_
    refine r_iload_n dX5_spread_70 rfl ?_
    refine r_aload_n dX5_spread_71 rfl ?_
    refine r_aload_n dX5_spread_72 rfl ?_
    refine r_iload dX5_spread_73 rfl ?_
    refine r_aload_n dX5_spread_75 rfl ?_
    refine r_getA dX5_spread_76 fX5_59 h1 uX1_9 ?_
    refine r_iload dX5_spread_79 rfl ?_
    refine s_iald dX5_spread_81 h1 tX1_9 aX1_9 T.1 ?_
    have T := T.2
    refine r_iload dX5_spread_82 rfl ?_
    refine r_callVI (md' := mX5_goAlong) (as := [vO o1, vI x4, vI (M1 o1 9 x4.toNat), vI x5]) dX5_spread_84 lX5_55 iX5_goAlong h0 rfl rfl (Nat.le_of_ble_eq_true rfl) T (fun r_2 M2 T => ?_)
    refine r_ior dX5_spread_87 ?_
    refine r_istore_n dX5_spread_88 (by decide) rfl ?_
    refine r_iinc dX5_spread_89 rfl (by decide) rfl ?_
    refine r_goto (tgt := 45) dX5_spread_92 (by decide) ?_
    exact T
theorem eX5_spread {G : Gx} {n : Nat} {M : Mem} {Q : Mem → Prop} {o : Nat} {o1 : Nat}  (h : ∀ K : Kx, CW G K mX5_spread n 0 [some (vO o), some (vO o1), none, none, none, none] [] M (qV Q)) : OkV G n mX5_spread [vO o, vO o1] M Q := Ok_of (by decide) (Nat.le_of_ble_eq_true rfl) rfl h
