-- DownOnlyModel ridesUp (I)Z
set_option maxRecDepth 20000 in
set_option maxHeartbeats 1000000 in
theorem bX12_ridesUp_0 {G : Gx} {K : Kx} {n : Nat} {M : Mem} {Q : Int → Mem → Prop}  {x1 : Int}  (T : (M 0 26 4 = 0 → Q 0 M) ∧ (¬ (M 0 26 4 = 0) → ((M 0 26 6) ≠ 0) ∧ ((¬ wr (Int.tmod (M 0 26 3) (M 0 26 6)) = 0 → Q 0 M) ∧ (wr (Int.tmod (M 0 26 3) (M 0 26 6)) = 0 → OkI G n mX12_ridden [vO 0, vI x1] M (fun r_1 M1 => (¬ r_1 = 0 → Q 0 M1) ∧ (r_1 = 0 → OkI G n mX12_riding [vO 0] M1 (fun r_2 M2 => (¬ r_2 = M2 0 26 5 → OkI G n mX12_topRoom [vO 0] M2 (fun r_3 M3 => OkV G n mX12_setsOff [vO 0, vI x1, vI r_3, vI (M3 0 26 4)] M3 (fun M4 => (0 ≤ wr (wr (172 + (wr (5 * x1))) + 2) ∧ wr (wr (172 + (wr (5 * x1))) + 2) < 328) ∧ (∀ M5 : Mem, M5 = mset M4 0 26 (wr (wr (172 + (wr (5 * x1))) + 2)).toNat (wr (M4 0 26 3 + 1)) → Q 1 M5)))) ∧ (r_2 = M2 0 26 5 → Q 0 M2)))))))) : CW G K mX12_ridesUp (n + 1) 0 [some (vO 0), some (vI x1)] [] M (qI Q) := by
  refine r_aload_n dX12_ridesUp_0 rfl ?_
  refine r_getA dX12_ridesUp_1 fX12_48 rfl uX12_26 ?_
  refine r_iconst dX12_ridesUp_4 (by decide) ?_
  refine s_iald dX12_ridesUp_5 rfl tX12_26 aX12_26 (by decide) ?_
  refine r_if_eq (tgt := 47) dX12_ridesUp_6 (by decide) (fun h_4 => ?_) (fun h_4 => ?_)
  · have T := T.1 h_4
    refine r_iconst dX12_ridesUp_47 (by decide) ?_
    exact r_zreturn dX12_ridesUp_48 rfl (by decide) ⟨_, rfl, T⟩
  · have T := T.2 h_4
    refine r_aload_n dX12_ridesUp_9 rfl ?_
    refine r_getA dX12_ridesUp_10 fX12_48 rfl uX12_26 ?_
    refine r_iconst dX12_ridesUp_13 (by decide) ?_
    refine s_iald dX12_ridesUp_14 rfl tX12_26 aX12_26 (by decide) ?_
    refine r_aload_n dX12_ridesUp_15 rfl ?_
    refine r_getA dX12_ridesUp_16 fX12_48 rfl uX12_26 ?_
    refine r_bipush dX12_ridesUp_19 (by decide) (by decide) ?_
    refine s_iald dX12_ridesUp_21 rfl tX12_26 aX12_26 (by decide) ?_
    refine r_irem dX12_ridesUp_22 T.1 ?_
    have T := T.2
    refine r_if_ne (tgt := 47) dX12_ridesUp_23 (by decide) (fun h_3 => ?_) (fun h_3 => ?_)
    · have T := T.1 h_3
      refine r_iconst dX12_ridesUp_47 (by decide) ?_
      exact r_zreturn dX12_ridesUp_48 rfl (by decide) ⟨_, rfl, T⟩
    · have T := T.2 h_3
      refine r_aload_n dX12_ridesUp_26 rfl ?_
      refine r_iload_n dX12_ridesUp_27 rfl ?_
      refine r_callVI (md' := mX12_ridden) (as := [vI x1]) dX12_ridesUp_28 lX12_346 iX12_ridden rfl rfl rfl (Nat.le_of_ble_eq_true rfl) T (fun r_1 M1 T => ?_)
      refine r_if_ne (tgt := 47) dX12_ridesUp_31 (by decide) (fun h_2 => ?_) (fun h_2 => ?_)
      · have T := T.1 h_2
        refine r_iconst dX12_ridesUp_47 (by decide) ?_
        exact r_zreturn dX12_ridesUp_48 rfl (by decide) ⟨_, rfl, T⟩
      · have T := T.2 h_2
        refine r_aload_n dX12_ridesUp_34 rfl ?_
        refine r_callVI (md' := mX12_riding) (as := []) dX12_ridesUp_35 lX12_359 iX12_riding rfl rfl rfl (Nat.le_of_ble_eq_true rfl) T (fun r_2 M2 T => ?_)
        refine r_aload_n dX12_ridesUp_38 rfl ?_
        refine r_getA dX12_ridesUp_39 fX12_48 rfl uX12_26 ?_
        refine r_iconst dX12_ridesUp_42 (by decide) ?_
        refine s_iald dX12_ridesUp_43 rfl tX12_26 aX12_26 (by decide) ?_
        refine r_icmp_ne (tgt := 49) dX12_ridesUp_44 (by decide) (fun h_1 => ?_) (fun h_1 => ?_)
        · have T := T.1 h_1
          refine r_aload_n dX12_ridesUp_49 rfl ?_
          refine r_iload_n dX12_ridesUp_50 rfl ?_
          refine r_aload_n dX12_ridesUp_51 rfl ?_
          refine r_callVI (md' := mX12_topRoom) (as := []) dX12_ridesUp_52 lX12_333 iX12_topRoom rfl rfl rfl (Nat.le_of_ble_eq_true rfl) T (fun r_3 M3 T => ?_)
          refine r_aload_n dX12_ridesUp_55 rfl ?_
          refine r_getA dX12_ridesUp_56 fX12_48 rfl uX12_26 ?_
          refine r_iconst dX12_ridesUp_59 (by decide) ?_
          refine s_iald dX12_ridesUp_60 rfl tX12_26 aX12_26 (by decide) ?_
          refine r_callVV (md' := mX12_setsOff) (as := [vI x1, vI r_3, vI (M3 0 26 4)]) dX12_ridesUp_61 lX12_355 iX12_setsOff rfl rfl rfl (Nat.le_of_ble_eq_true rfl) T (fun M4 T => ?_)
          refine r_aload_n dX12_ridesUp_64 rfl ?_
          refine r_getA dX12_ridesUp_65 fX12_48 rfl uX12_26 ?_
          refine r_sipush dX12_ridesUp_68 (by decide) (by decide) ?_
          refine r_iconst dX12_ridesUp_71 (by decide) ?_
          refine r_iload_n dX12_ridesUp_72 rfl ?_
          refine r_imul dX12_ridesUp_73 ?_
          refine r_iadd dX12_ridesUp_74 ?_
          refine r_iconst dX12_ridesUp_75 (by decide) ?_
          refine r_iadd dX12_ridesUp_76 ?_
          refine r_aload_n dX12_ridesUp_77 rfl ?_
          refine r_getA dX12_ridesUp_78 fX12_48 rfl uX12_26 ?_
          refine r_iconst dX12_ridesUp_81 (by decide) ?_
          refine s_iald dX12_ridesUp_82 rfl tX12_26 aX12_26 (by decide) ?_
          refine r_iconst dX12_ridesUp_83 (by decide) ?_
          refine r_iadd dX12_ridesUp_84 ?_
          refine n_iast dX12_ridesUp_85 rfl tX12_26 aX12_26 T.1 (fun M5 hM5 => ?_)
          have T := T.2 M5 hM5
          refine r_iconst dX12_ridesUp_86 (by decide) ?_
          exact r_zreturn dX12_ridesUp_87 rfl (by decide) ⟨_, rfl, T⟩
        · have T := T.2 h_1
          refine r_iconst dX12_ridesUp_47 (by decide) ?_
          exact r_zreturn dX12_ridesUp_48 rfl (by decide) ⟨_, rfl, T⟩
theorem eX12_ridesUp {G : Gx} {n : Nat} {M : Mem} {Q : Int → Mem → Prop}  {x1 : Int} (h : ∀ K : Kx, CW G K mX12_ridesUp n 0 [some (vO 0), some (vI x1)] [] M (qI Q)) : OkI G n mX12_ridesUp [vO 0, vI x1] M Q := Ok_of (by decide) (Nat.le_of_ble_eq_true rfl) rfl h
-- DownOnlyModel ridden (I)Z
set_option maxRecDepth 20000 in
set_option maxHeartbeats 1000000 in
theorem bX12_ridden_0 {G : Gx} {K : Kx} {n : Nat} {M : Mem} {Q : Int → Mem → Prop}  {x1 : Int}  (T : OkI G n mX12_personOf [vO 0, vI x1, vI 2] M (fun r_1 M1 => (r_1 ≤ 0 → Q 0 M1) ∧ (¬ (r_1 ≤ 0) → Q 1 M1))) : CW G K mX12_ridden (n + 1) 0 [some (vO 0), some (vI x1)] [] M (qI Q) := by
  refine r_aload_n dX12_ridden_0 rfl ?_
  refine r_iload_n dX12_ridden_1 rfl ?_
  refine r_iconst dX12_ridden_2 (by decide) ?_
  refine r_callVI (md' := mX12_personOf) (as := [vI x1, vI 2]) dX12_ridden_3 lX12_318 iX12_personOf rfl rfl rfl (Nat.le_of_ble_eq_true rfl) T (fun r_1 M1 T => ?_)
  refine r_if_le (tgt := 13) dX12_ridden_6 (by decide) (fun h_1 => ?_) (fun h_1 => ?_)
  · have T := T.1 h_1
    refine r_iconst dX12_ridden_13 (by decide) ?_
    exact r_zreturn dX12_ridden_14 rfl (by decide) ⟨_, rfl, T⟩
  · have T := T.2 h_1
    refine r_iconst dX12_ridden_9 (by decide) ?_
    refine r_goto (tgt := 14) dX12_ridden_10 (by decide) ?_
    exact r_zreturn dX12_ridden_14 rfl (by decide) ⟨_, rfl, T⟩
theorem eX12_ridden {G : Gx} {n : Nat} {M : Mem} {Q : Int → Mem → Prop}  {x1 : Int} (h : ∀ K : Kx, CW G K mX12_ridden n 0 [some (vO 0), some (vI x1)] [] M (qI Q)) : OkI G n mX12_ridden [vO 0, vI x1] M Q := Ok_of (by decide) (Nat.le_of_ble_eq_true rfl) rfl h
-- DownOnlyModel go (II)Z
set_option maxRecDepth 20000 in
set_option maxHeartbeats 1000000 in
theorem bX12_go_0 {G : Gx} {K : Kx} {n : Nat} {M : Mem} {Q : Int → Mem → Prop}  {x1 : Int} {x2 : Int}  (T : OkI G n mX12_isPerson [vO 0, vI x1] M (fun r_1 M1 => (r_1 = 0 → Q 0 M1) ∧ (¬ (r_1 = 0) → OkI G n mX12_personOf [vO 0, vI x1, vI 0] M1 (fun r_2 M2 => (r_2 < 0 → Q 0 M2) ∧ (¬ (r_2 < 0) → (¬ M2 0 26 3 = 1440 → (¬ x2 = 24 → OkI G n mX12_takes [vO 0, vI x1, vI x2] M2 (fun r_3 M3 => (r_3 = 0 ∨ r_3 = 1) ∧ Q r_3 M3)) ∧ (x2 = 24 → OkI G n mX12_ridesUp [vO 0, vI x1] M2 (fun r_4 M4 => (r_4 = 0 ∨ r_4 = 1) ∧ Q r_4 M4))) ∧ (M2 0 26 3 = 1440 → Q 0 M2)))))) : CW G K mX12_go (n + 1) 0 [some (vO 0), some (vI x1), some (vI x2)] [] M (qI Q) := by
  refine r_aload_n dX12_go_0 rfl ?_
  refine r_iload_n dX12_go_1 rfl ?_
  refine r_callVI (md' := mX12_isPerson) (as := [vI x1]) dX12_go_2 lX12_341 iX12_isPerson rfl rfl rfl (Nat.le_of_ble_eq_true rfl) T (fun r_1 M1 T => ?_)
  refine r_if_eq (tgt := 29) dX12_go_5 (by decide) (fun h_4 => ?_) (fun h_4 => ?_)
  · have T := T.1 h_4
    refine r_iconst dX12_go_29 (by decide) ?_
    exact r_zreturn dX12_go_30 rfl (by decide) ⟨_, rfl, T⟩
  · have T := T.2 h_4
    refine r_aload_n dX12_go_8 rfl ?_
    refine r_iload_n dX12_go_9 rfl ?_
    refine r_iconst dX12_go_10 (by decide) ?_
    refine r_callVI (md' := mX12_personOf) (as := [vI x1, vI 0]) dX12_go_11 lX12_318 iX12_personOf rfl rfl rfl (Nat.le_of_ble_eq_true rfl) T (fun r_2 M2 T => ?_)
    refine r_if_lt (tgt := 29) dX12_go_14 (by decide) (fun h_3 => ?_) (fun h_3 => ?_)
    · have T := T.1 h_3
      refine r_iconst dX12_go_29 (by decide) ?_
      exact r_zreturn dX12_go_30 rfl (by decide) ⟨_, rfl, T⟩
    · have T := T.2 h_3
      refine r_aload_n dX12_go_17 rfl ?_
      refine r_getA dX12_go_18 fX12_48 rfl uX12_26 ?_
      refine r_iconst dX12_go_21 (by decide) ?_
      refine s_iald dX12_go_22 rfl tX12_26 aX12_26 (by decide) ?_
      refine r_sipush dX12_go_23 (by decide) (by decide) ?_
      refine r_icmp_ne (tgt := 31) dX12_go_26 (by decide) (fun h_2 => ?_) (fun h_2 => ?_)
      · have T := T.1 h_2
        refine r_iload_n dX12_go_31 rfl ?_
        refine r_bipush dX12_go_32 (by decide) (by decide) ?_
        refine r_icmp_ne (tgt := 45) dX12_go_34 (by decide) (fun h_1 => ?_) (fun h_1 => ?_)
        · have T := T.1 h_1
          refine r_aload_n dX12_go_45 rfl ?_
          refine r_iload_n dX12_go_46 rfl ?_
          refine r_iload_n dX12_go_47 rfl ?_
          refine r_callVI (md' := mX12_takes) (as := [vI x1, vI x2]) dX12_go_48 lX12_365 iX12_takes rfl rfl rfl (Nat.le_of_ble_eq_true rfl) T (fun r_3 M3 T => ?_)
          exact r_zreturn dX12_go_51 rfl T.1 ⟨_, rfl, T.2⟩
        · have T := T.2 h_1
          refine r_aload_n dX12_go_37 rfl ?_
          refine r_iload_n dX12_go_38 rfl ?_
          refine r_callVI (md' := mX12_ridesUp) (as := [vI x1]) dX12_go_39 lX12_362 iX12_ridesUp rfl rfl rfl (Nat.le_of_ble_eq_true rfl) T (fun r_4 M4 T => ?_)
          refine r_goto (tgt := 51) dX12_go_42 (by decide) ?_
          exact r_zreturn dX12_go_51 rfl T.1 ⟨_, rfl, T.2⟩
      · have T := T.2 h_2
        refine r_iconst dX12_go_29 (by decide) ?_
        exact r_zreturn dX12_go_30 rfl (by decide) ⟨_, rfl, T⟩
theorem eX12_go {G : Gx} {n : Nat} {M : Mem} {Q : Int → Mem → Prop}  {x1 : Int} {x2 : Int} (h : ∀ K : Kx, CW G K mX12_go n 0 [some (vO 0), some (vI x1), some (vI x2)] [] M (qI Q)) : OkI G n mX12_go [vO 0, vI x1, vI x2] M Q := Ok_of (by decide) (Nat.le_of_ble_eq_true rfl) rfl h
-- DownOnlyModel words (I)V
set_option maxRecDepth 20000 in
set_option maxHeartbeats 1000000 in
theorem bX12_words_0 {G : Gx} {K : Kx} {n : Nat} {M : Mem} {Q : Mem → Prop}  {x1 : Int}  (T : OkI G n mX12_personOf [vO 0, vI x1, vI 0] M (fun r_1 M1 => ∀ M2 : Mem, M2 = mset M1 0 25 0 (M1 0 26 3) → ∀ M3 : Mem, M3 = mset M2 0 25 1 x1 → ∀ M4 : Mem, M4 = mset M3 0 25 2 r_1 → (0 ≤ wr (12 + r_1) ∧ wr (12 + r_1) < 328) ∧ (∀ M5 : Mem, M5 = mset M4 0 25 3 (M4 0 26 (wr (12 + r_1)).toNat) → OkI G n mX12_inRoom [vO 0, vI r_1] M5 (fun r_2 M6 => OkI G n mX12_bits [vI r_2] M6 (fun r_3 M7 => ∀ M8 : Mem, M8 = mset M7 0 25 4 r_3 → OkI G n mX12_ridden [vO 0, vI x1] M8 (fun r_4 M9 => (r_4 = 0 → CW G K mX12_words (n + 1) 85 [some (vO 0), some (vI x1), some (vI r_1)] [vL 0, vI 5, vA 0 25] M9 (qV Q)) ∧ (¬ (r_4 = 0) → CW G K mX12_words (n + 1) 85 [some (vO 0), some (vI x1), some (vI r_1)] [vL 1, vI 5, vA 0 25] M9 (qV Q)))))))) : CW G K mX12_words (n + 1) 0 [some (vO 0), some (vI x1), none] [] M (qV Q) := by
  refine r_aload_n dX12_words_0 rfl ?_
  refine r_iload_n dX12_words_1 rfl ?_
  refine r_iconst dX12_words_2 (by decide) ?_
  refine r_callVI (md' := mX12_personOf) (as := [vI x1, vI 0]) dX12_words_3 lX12_318 iX12_personOf rfl rfl rfl (Nat.le_of_ble_eq_true rfl) T (fun r_1 M1 T => ?_)
  refine r_istore_n dX12_words_6 (by decide) rfl ?_
  refine r_aload_n dX12_words_7 rfl ?_
  refine r_getA dX12_words_8 fX12_45 rfl uX12_25 ?_
  refine r_iconst dX12_words_11 (by decide) ?_
  refine r_aload_n dX12_words_12 rfl ?_
  refine r_getA dX12_words_13 fX12_48 rfl uX12_26 ?_
  refine r_iconst dX12_words_16 (by decide) ?_
  refine s_iald dX12_words_17 rfl tX12_26 aX12_26 (by decide) ?_
  refine r_i2l dX12_words_18 ?_
  refine n_last dX12_words_19 rfl tX12_25 aX12_25 (by decide) (fun M2 hM2 => ?_)
  have T := T M2 hM2
  refine r_aload_n dX12_words_20 rfl ?_
  refine r_getA dX12_words_21 fX12_45 rfl uX12_25 ?_
  refine r_iconst dX12_words_24 (by decide) ?_
  refine r_iload_n dX12_words_25 rfl ?_
  refine r_i2l dX12_words_26 ?_
  refine n_last dX12_words_27 rfl tX12_25 aX12_25 (by decide) (fun M3 hM3 => ?_)
  have T := T M3 hM3
  refine r_aload_n dX12_words_28 rfl ?_
  refine r_getA dX12_words_29 fX12_45 rfl uX12_25 ?_
  refine r_iconst dX12_words_32 (by decide) ?_
  refine r_iload_n dX12_words_33 rfl ?_
  refine r_i2l dX12_words_34 ?_
  refine n_last dX12_words_35 rfl tX12_25 aX12_25 (by decide) (fun M4 hM4 => ?_)
  have T := T M4 hM4
  refine r_aload_n dX12_words_36 rfl ?_
  refine r_getA dX12_words_37 fX12_45 rfl uX12_25 ?_
  refine r_iconst dX12_words_40 (by decide) ?_
  refine r_aload_n dX12_words_41 rfl ?_
  refine r_getA dX12_words_42 fX12_48 rfl uX12_26 ?_
  refine r_bipush dX12_words_45 (by decide) (by decide) ?_
  refine r_iload_n dX12_words_47 rfl ?_
  refine r_iadd dX12_words_48 ?_
  refine s_iald dX12_words_49 rfl tX12_26 aX12_26 T.1 ?_
  have T := T.2
  refine r_i2l dX12_words_50 ?_
  refine n_last dX12_words_51 rfl tX12_25 aX12_25 (by decide) (fun M5 hM5 => ?_)
  have T := T M5 hM5
  refine r_aload_n dX12_words_52 rfl ?_
  refine r_getA dX12_words_53 fX12_45 rfl uX12_25 ?_
  refine r_iconst dX12_words_56 (by decide) ?_
  refine r_aload_n dX12_words_57 rfl ?_
  refine r_iload_n dX12_words_58 rfl ?_
  refine r_callVI (md' := mX12_inRoom) (as := [vI r_1]) dX12_words_59 lX12_330 iX12_inRoom rfl rfl rfl (Nat.le_of_ble_eq_true rfl) T (fun r_2 M6 T => ?_)
  refine r_callSI (md' := mX12_bits) (as := [vI r_2]) dX12_words_62 lX12_368 iX12_bits rfl rfl (Nat.le_of_ble_eq_true rfl) T (fun r_3 M7 T => ?_)
  refine r_i2l dX12_words_65 ?_
  refine n_last dX12_words_66 rfl tX12_25 aX12_25 (by decide) (fun M8 hM8 => ?_)
  have T := T M8 hM8
  refine r_aload_n dX12_words_67 rfl ?_
  refine r_getA dX12_words_68 fX12_45 rfl uX12_25 ?_
  refine r_iconst dX12_words_71 (by decide) ?_
  refine r_aload_n dX12_words_72 rfl ?_
  refine r_iload_n dX12_words_73 rfl ?_
  refine r_callVI (md' := mX12_ridden) (as := [vI x1]) dX12_words_74 lX12_346 iX12_ridden rfl rfl rfl (Nat.le_of_ble_eq_true rfl) T (fun r_4 M9 T => ?_)
  refine r_if_eq (tgt := 84) dX12_words_77 (by decide) (fun h_1 => ?_) (fun h_1 => ?_)
  · have T := T.1 h_1
    refine r_lconst (z := 0) dX12_words_84 (by decide) (by decide) ?_
    exact T
  · have T := T.2 h_1
    refine r_lconst (z := 1) dX12_words_80 (by decide) (by decide) ?_
    refine r_goto (tgt := 85) dX12_words_81 (by decide) ?_
    exact T
set_option maxRecDepth 20000 in
set_option maxHeartbeats 1000000 in
theorem bX12_words_85 {G : Gx} {K : Kx} {n : Nat} {M : Mem} {Q : Mem → Prop}  {x1 : Int} {x2 : Int} {z0 : Int} {z1 : Int}  (T : (0 ≤ z1 ∧ z1 < 8) ∧ (∀ M1 : Mem, M1 = mset M 0 25 z1.toNat z0 → OkI G n mX12_personOf [vO 0, vI x1, vI 1] M1 (fun r_1 M2 => (¬ r_1 = x2 → CW G K mX12_words (n + 1) 107 [some (vO 0), none, some (vI x2)] [vL 0, vI 6, vA 0 25] M2 (qV Q)) ∧ (r_1 = x2 → CW G K mX12_words (n + 1) 107 [some (vO 0), none, some (vI x2)] [vL 1, vI 6, vA 0 25] M2 (qV Q))))) : CW G K mX12_words (n + 1) 85 [some (vO 0), some (vI x1), some (vI x2)] [vL z0, vI z1, vA 0 25] M (qV Q) := by
  refine n_last dX12_words_85 rfl tX12_25 aX12_25 T.1 (fun M1 hM1 => ?_)
  have T := T.2 M1 hM1
  refine r_aload_n dX12_words_86 rfl ?_
  refine r_getA dX12_words_87 fX12_45 rfl uX12_25 ?_
  refine r_bipush dX12_words_90 (by decide) (by decide) ?_
  refine r_aload_n dX12_words_92 rfl ?_
  refine r_iload_n dX12_words_93 rfl ?_
  refine r_iconst dX12_words_94 (by decide) ?_
  refine r_callVI (md' := mX12_personOf) (as := [vI x1, vI 1]) dX12_words_95 lX12_318 iX12_personOf rfl rfl rfl (Nat.le_of_ble_eq_true rfl) T (fun r_1 M2 T => ?_)
  refine r_iload_n dX12_words_98 rfl ?_
  refine r_icmp_ne (tgt := 106) dX12_words_99 (by decide) (fun h_1 => ?_) (fun h_1 => ?_)
  · have T := T.1 h_1
    refine r_lconst (z := 0) dX12_words_106 (by decide) (by decide) ?_
    exact CW_msk [true, false, true] rfl T
  · have T := T.2 h_1
    refine r_lconst (z := 1) dX12_words_102 (by decide) (by decide) ?_
    refine r_goto (tgt := 107) dX12_words_103 (by decide) ?_
    exact CW_msk [true, false, true] rfl T
set_option maxRecDepth 20000 in
set_option maxHeartbeats 1000000 in
theorem bX12_words_107 {G : Gx} {K : Kx} {n : Nat} {M : Mem} {Q : Mem → Prop}  {x2 : Int} {z0 : Int} {z1 : Int}  (T : (0 ≤ z1 ∧ z1 < 8) ∧ (∀ M1 : Mem, M1 = mset M 0 25 z1.toNat z0 → OkI G n mX12_topRoom [vO 0] M1 (fun r_1 M2 => (¬ r_1 = x2 → ∀ M3 : Mem, M3 = mset M2 0 25 7 0 → Q M3) ∧ (r_1 = x2 → ∀ M4 : Mem, M4 = mset M2 0 25 7 1 → Q M4)))) : CW G K mX12_words (n + 1) 107 [some (vO 0), none, some (vI x2)] [vL z0, vI z1, vA 0 25] M (qV Q) := by
  refine n_last dX12_words_107 rfl tX12_25 aX12_25 T.1 (fun M1 hM1 => ?_)
  have T := T.2 M1 hM1
  refine r_aload_n dX12_words_108 rfl ?_
  refine r_getA dX12_words_109 fX12_45 rfl uX12_25 ?_
  refine r_bipush dX12_words_112 (by decide) (by decide) ?_
  refine r_aload_n dX12_words_114 rfl ?_
  refine r_callVI (md' := mX12_topRoom) (as := []) dX12_words_115 lX12_333 iX12_topRoom rfl rfl rfl (Nat.le_of_ble_eq_true rfl) T (fun r_1 M2 T => ?_)
  refine r_iload_n dX12_words_118 rfl ?_
  refine r_icmp_ne (tgt := 126) dX12_words_119 (by decide) (fun h_1 => ?_) (fun h_1 => ?_)
  · have T := T.1 h_1
    refine r_lconst (z := 0) dX12_words_126 (by decide) (by decide) ?_
    refine n_last dX12_words_127 rfl tX12_25 aX12_25 (by decide) (fun M3 hM3 => ?_)
    have T := T M3 hM3
    exact r_return dX12_words_128 rfl ⟨rfl, T⟩
  · have T := T.2 h_1
    refine r_lconst (z := 1) dX12_words_122 (by decide) (by decide) ?_
    refine r_goto (tgt := 127) dX12_words_123 (by decide) ?_
    refine n_last dX12_words_127 rfl tX12_25 aX12_25 (by decide) (fun M4 hM4 => ?_)
    have T := T M4 hM4
    exact r_return dX12_words_128 rfl ⟨rfl, T⟩
theorem eX12_words {G : Gx} {n : Nat} {M : Mem} {Q : Mem → Prop}  {x1 : Int} (h : ∀ K : Kx, CW G K mX12_words n 0 [some (vO 0), some (vI x1), none] [] M (qV Q)) : OkV G n mX12_words [vO 0, vI x1] M Q := Ok_of (by decide) (Nat.le_of_ble_eq_true rfl) rfl h
-- DownOnlyModel does (II)V
set_option maxRecDepth 20000 in
set_option maxHeartbeats 1000000 in
theorem bX12_does_0 {G : Gx} {K : Kx} {n : Nat} {M : Mem} {Q : Mem → Prop}  {x1 : Int} {x2 : Int}  (T : OkV G n mX12_words [vO 0, vI x2] M (fun M1 => CW G K mX12_does (n + 1) 7 [some (vO 0), some (vI x1), some (vI x2), some (vI 0), none] [] M1 (qV Q))) : CW G K mX12_does (n + 1) 0 [some (vO 0), some (vI x1), some (vI x2), none, none] [] M (qV Q) := by
  refine r_aload_n dX12_does_0 rfl ?_
  refine r_iload_n dX12_does_1 rfl ?_
  refine r_callVV (md' := mX12_words) (as := [vI x2]) dX12_does_2 lX12_371 iX12_words rfl rfl rfl (Nat.le_of_ble_eq_true rfl) T (fun M1 T => ?_)
  refine r_iconst dX12_does_5 (by decide) ?_
  refine r_istore_n dX12_does_6 (by decide) rfl ?_
  exact T
set_option maxRecDepth 20000 in
set_option maxHeartbeats 1000000 in
theorem bX12_does_7 {G : Gx} {K : Kx} {n : Nat} {M : Mem} {Q : Mem → Prop}  {x1 : Int} {x2 : Int} {x3 : Int}  (T : (0 ≤ x1 ∧ x1 < 6) ∧ ((M 0 6 x1.toNat ≤ x3 → Q M) ∧ (¬ (M 0 6 x1.toNat ≤ x3) → (0 ≤ wr (wr (wr (48 * x1) + (wr (4 * x3))) + 2) ∧ wr (wr (wr (48 * x1) + (wr (4 * x3))) + 2) < 288) ∧ ((M 0 5 (wr (wr (wr (48 * x1) + (wr (4 * x3))) + 2)).toNat < 0 → CW G K mX12_does (n + 1) 70 [some (vO 0), some (vI x1), some (vI x2), some (vI x3), some (vI (wr (wr (48 * x1) + (wr (4 * x3)))))] [] M (qV Q)) ∧ (¬ (M 0 5 (wr (wr (wr (48 * x1) + (wr (4 * x3))) + 2)).toNat < 0) → (0 ≤ wr (wr (wr (48 * x1) + (wr (4 * x3))) + 2) ∧ wr (wr (wr (48 * x1) + (wr (4 * x3))) + 2) < 288) ∧ ((0 ≤ wr (wr (wr (48 * x1) + (wr (4 * x3))) + 3) ∧ wr (wr (wr (48 * x1) + (wr (4 * x3))) + 3) < 288) ∧ (OkJ G n mX12_reckons [vO 0, vI x1, vI (M 0 5 (wr (wr (wr (48 * x1) + (wr (4 * x3))) + 2)).toNat), vI (M 0 5 (wr (wr (wr (48 * x1) + (wr (4 * x3))) + 3)).toNat)] M (fun r_1 M1 => (¬ sg r_1 0 = 0 → CW G K mX12_does (n + 1) 70 [some (vO 0), some (vI x1), some (vI x2), some (vI x3), some (vI (wr (wr (48 * x1) + (wr (4 * x3)))))] [] M1 (qV Q)) ∧ (sg r_1 0 = 0 → CW G K mX12_does (n + 1) 7 [some (vO 0), some (vI x1), some (vI x2), some (vI (wr (x3 + 1))), none] [] M1 (qV Q)))))))))) : CW G K mX12_does (n + 1) 7 [some (vO 0), some (vI x1), some (vI x2), some (vI x3), none] [] M (qV Q) := by
  refine r_iload_n dX12_does_7 rfl ?_
  refine r_aload_n dX12_does_8 rfl ?_
  refine r_getA dX12_does_9 fX12_23 rfl uX12_6 ?_
  refine r_iload_n dX12_does_12 rfl ?_
  refine s_iald dX12_does_13 rfl tX12_6 aX12_6 T.1 ?_
  have T := T.2
  refine r_icmp_ge (tgt := 127) dX12_does_14 (by decide) (fun h_3 => ?_) (fun h_3 => ?_)
  · have T := T.1 h_3
    exact r_return dX12_does_127 rfl ⟨rfl, T⟩
  · have T := T.2 h_3
    refine r_bipush dX12_does_17 (by decide) (by decide) ?_
    refine r_iload_n dX12_does_19 rfl ?_
    refine r_imul dX12_does_20 ?_
    refine r_iconst dX12_does_21 (by decide) ?_
    refine r_iload_n dX12_does_22 rfl ?_
    refine r_imul dX12_does_23 ?_
    refine r_iadd dX12_does_24 ?_
    refine r_istore dX12_does_25 (by decide) rfl ?_
    refine r_aload_n dX12_does_27 rfl ?_
    refine r_getA dX12_does_28 fX12_20 rfl uX12_5 ?_
    refine r_iload dX12_does_31 rfl ?_
    refine r_iconst dX12_does_33 (by decide) ?_
    refine r_iadd dX12_does_34 ?_
    refine s_iald dX12_does_35 rfl tX12_5 aX12_5 T.1 ?_
    have T := T.2
    refine r_if_lt (tgt := 70) dX12_does_36 (by decide) (fun h_2 => ?_) (fun h_2 => ?_)
    · have T := T.1 h_2
      exact T
    · have T := T.2 h_2
      refine r_aload_n dX12_does_39 rfl ?_
      refine r_iload_n dX12_does_40 rfl ?_
      refine r_aload_n dX12_does_41 rfl ?_
      refine r_getA dX12_does_42 fX12_20 rfl uX12_5 ?_
      refine r_iload dX12_does_45 rfl ?_
      refine r_iconst dX12_does_47 (by decide) ?_
      refine r_iadd dX12_does_48 ?_
      refine s_iald dX12_does_49 rfl tX12_5 aX12_5 T.1 ?_
      have T := T.2
      refine r_aload_n dX12_does_50 rfl ?_
      refine r_getA dX12_does_51 fX12_20 rfl uX12_5 ?_
      refine r_iload dX12_does_54 rfl ?_
      refine r_iconst dX12_does_56 (by decide) ?_
      refine r_iadd dX12_does_57 ?_
      refine s_iald dX12_does_58 rfl tX12_5 aX12_5 T.1 ?_
      have T := T.2
      refine r_callVJ (md' := mX12_reckons) (as := [vI x1, vI (M 0 5 (wr (wr (wr (48 * x1) + (wr (4 * x3))) + 2)).toNat), vI (M 0 5 (wr (wr (wr (48 * x1) + (wr (4 * x3))) + 3)).toNat)]) dX12_does_59 lX12_374 iX12_reckons rfl rfl rfl (Nat.le_of_ble_eq_true rfl) T (fun r_1 M1 T => ?_)
      refine r_lconst (z := 0) dX12_does_62 (by decide) (by decide) ?_
      refine r_lcmp dX12_does_63 ?_
      refine r_if_ne (tgt := 70) dX12_does_64 (by decide) (fun h_1 => ?_) (fun h_1 => ?_)
      · have T := T.1 h_1
        exact T
      · have T := T.2 h_1
        refine r_goto (tgt := 121) dX12_does_67 (by decide) ?_
        refine r_iinc dX12_does_121 rfl (by decide) rfl ?_
        refine r_goto (tgt := 7) dX12_does_124 (by decide) ?_
        exact CW_msk [true, true, true, true, false] rfl T
set_option maxRecDepth 20000 in
set_option maxHeartbeats 1000000 in
theorem bX12_does_70 {G : Gx} {K : Kx} {n : Nat} {M : Mem} {Q : Mem → Prop}  {x1 : Int} {x2 : Int} {x3 : Int} {x4 : Int}  (T : (0 ≤ x4 ∧ x4 < 288) ∧ ((M 0 5 x4.toNat = 2 → Q M) ∧ (¬ (M 0 5 x4.toNat = 2) → (0 ≤ x4 ∧ x4 < 288) ∧ ((¬ M 0 5 x4.toNat = 1 → (0 ≤ wr (x4 + 1) ∧ wr (x4 + 1) < 288) ∧ (OkI G n mX12_takes [vO 0, vI x2, vI (M 0 5 (wr (x4 + 1)).toNat)] M (fun r_1 M1 => (r_1 = 0 → CW G K mX12_does (n + 1) 7 [some (vO 0), some (vI x1), some (vI x2), some (vI (wr (x3 + 1))), none] [] M1 (qV Q)) ∧ (¬ (r_1 = 0) → Q M1)))) ∧ (M 0 5 x4.toNat = 1 → OkI G n mX12_ridesUp [vO 0, vI x2] M (fun r_2 M2 => (r_2 = 0 → CW G K mX12_does (n + 1) 7 [some (vO 0), some (vI x1), some (vI x2), some (vI (wr (x3 + 1))), none] [] M2 (qV Q)) ∧ (¬ (r_2 = 0) → Q M2))))))) : CW G K mX12_does (n + 1) 70 [some (vO 0), some (vI x1), some (vI x2), some (vI x3), some (vI x4)] [] M (qV Q) := by
  refine r_aload_n dX12_does_70 rfl ?_
  refine r_getA dX12_does_71 fX12_20 rfl uX12_5 ?_
  refine r_iload dX12_does_74 rfl ?_
  refine s_iald dX12_does_76 rfl tX12_5 aX12_5 T.1 ?_
  have T := T.2
  refine r_iconst dX12_does_77 (by decide) ?_
  refine r_icmp_eq (tgt := 120) dX12_does_78 (by decide) (fun h_4 => ?_) (fun h_4 => ?_)
  · have T := T.1 h_4
    exact r_return dX12_does_120 rfl ⟨rfl, T⟩
  · have T := T.2 h_4
    refine r_aload_n dX12_does_81 rfl ?_
    refine r_getA dX12_does_82 fX12_20 rfl uX12_5 ?_
    refine r_iload dX12_does_85 rfl ?_
    refine s_iald dX12_does_87 rfl tX12_5 aX12_5 T.1 ?_
    have T := T.2
    refine r_iconst dX12_does_88 (by decide) ?_
    refine r_icmp_ne (tgt := 103) dX12_does_89 (by decide) (fun h_3 => ?_) (fun h_3 => ?_)
    · have T := T.1 h_3
      refine r_aload_n dX12_does_103 rfl ?_
      refine r_iload_n dX12_does_104 rfl ?_
      refine r_aload_n dX12_does_105 rfl ?_
      refine r_getA dX12_does_106 fX12_20 rfl uX12_5 ?_
      refine r_iload dX12_does_109 rfl ?_
      refine r_iconst dX12_does_111 (by decide) ?_
      refine r_iadd dX12_does_112 ?_
      refine s_iald dX12_does_113 rfl tX12_5 aX12_5 T.1 ?_
      have T := T.2
      refine r_callVI (md' := mX12_takes) (as := [vI x2, vI (M 0 5 (wr (x4 + 1)).toNat)]) dX12_does_114 lX12_365 iX12_takes rfl rfl rfl (Nat.le_of_ble_eq_true rfl) T (fun r_1 M1 T => ?_)
      refine r_if_eq (tgt := 121) dX12_does_117 (by decide) (fun h_1 => ?_) (fun h_1 => ?_)
      · have T := T.1 h_1
        refine r_iinc dX12_does_121 rfl (by decide) rfl ?_
        refine r_goto (tgt := 7) dX12_does_124 (by decide) ?_
        exact CW_msk [true, true, true, true, false] rfl T
      · have T := T.2 h_1
        exact r_return dX12_does_120 rfl ⟨rfl, T⟩
    · have T := T.2 h_3
      refine r_aload_n dX12_does_92 rfl ?_
      refine r_iload_n dX12_does_93 rfl ?_
      refine r_callVI (md' := mX12_ridesUp) (as := [vI x2]) dX12_does_94 lX12_362 iX12_ridesUp rfl rfl rfl (Nat.le_of_ble_eq_true rfl) T (fun r_2 M2 T => ?_)
      refine r_if_eq (tgt := 121) dX12_does_97 (by decide) (fun h_2 => ?_) (fun h_2 => ?_)
      · have T := T.1 h_2
        refine r_iinc dX12_does_121 rfl (by decide) rfl ?_
        refine r_goto (tgt := 7) dX12_does_124 (by decide) ?_
        exact CW_msk [true, true, true, true, false] rfl T
      · have T := T.2 h_2
        refine r_goto (tgt := 120) dX12_does_100 (by decide) ?_
        exact r_return dX12_does_120 rfl ⟨rfl, T⟩
theorem eX12_does {G : Gx} {n : Nat} {M : Mem} {Q : Mem → Prop}  {x1 : Int} {x2 : Int} (h : ∀ K : Kx, CW G K mX12_does n 0 [some (vO 0), some (vI x1), some (vI x2), none, none] [] M (qV Q)) : OkV G n mX12_does [vO 0, vI x1, vI x2] M Q := Ok_of (by decide) (Nat.le_of_ble_eq_true rfl) rfl h
-- DownOnlyModel minute (I)V
set_option maxRecDepth 20000 in
set_option maxHeartbeats 1000000 in
theorem bX12_minute_0 {G : Gx} {K : Kx} {n : Nat} {M : Mem} {Q : Mem → Prop}  {x1 : Int}  (T : CW G K mX12_minute (n + 1) 2 [some (vO 0), some (vI x1), some (vI 0), none] [] M (qV Q)) : CW G K mX12_minute (n + 1) 0 [some (vO 0), some (vI x1), none, none] [] M (qV Q) := by
  refine r_iconst dX12_minute_0 (by decide) ?_
  refine r_istore_n dX12_minute_1 (by decide) rfl ?_
  exact T
set_option maxRecDepth 20000 in
set_option maxHeartbeats 1000000 in
theorem bX12_minute_2 {G : Gx} {K : Kx} {n : Nat} {M : Mem} {Q : Mem → Prop}  {x1 : Int} {x2 : Int}  (T : (M 0 26 2 ≤ x2 → ∀ M1 : Mem, M1 = mset M 0 26 3 (wr (M 0 26 3 + 1)) → CW G K mX12_minute (n + 1) 45 [some (vO 0), none, some (vI 0), none] [] M1 (qV Q)) ∧ (¬ (M 0 26 2 ≤ x2) → OkI G n mX12_personOf [vO 0, vI x2, vI 0] M (fun r_1 M2 => (r_1 < 0 → CW G K mX12_minute (n + 1) 2 [some (vO 0), some (vI x1), some (vI (wr (x2 + 1))), none] [] M2 (qV Q)) ∧ (¬ (r_1 < 0) → OkV G n mX12_does [vO 0, vI x1, vI x2] M2 (fun M3 => CW G K mX12_minute (n + 1) 2 [some (vO 0), some (vI x1), some (vI (wr (x2 + 1))), none] [] M3 (qV Q)))))) : CW G K mX12_minute (n + 1) 2 [some (vO 0), some (vI x1), some (vI x2), none] [] M (qV Q) := by
  refine r_iload_n dX12_minute_2 rfl ?_
  refine r_aload_n dX12_minute_3 rfl ?_
  refine r_getA dX12_minute_4 fX12_48 rfl uX12_26 ?_
  refine r_iconst dX12_minute_7 (by decide) ?_
  refine s_iald dX12_minute_8 rfl tX12_26 aX12_26 (by decide) ?_
  refine r_icmp_ge (tgt := 33) dX12_minute_9 (by decide) (fun h_2 => ?_) (fun h_2 => ?_)
  · have T := T.1 h_2
    refine r_aload_n dX12_minute_33 rfl ?_
    refine r_getA dX12_minute_34 fX12_48 rfl uX12_26 ?_
    refine r_iconst dX12_minute_37 (by decide) ?_
    refine r_dup2 dX12_minute_38 rfl rfl ?_
    refine s_iald dX12_minute_39 rfl tX12_26 aX12_26 (by decide) ?_
    refine r_iconst dX12_minute_40 (by decide) ?_
    refine r_iadd dX12_minute_41 ?_
    refine n_iast dX12_minute_42 rfl tX12_26 aX12_26 (by decide) (fun M1 hM1 => ?_)
    have T := T M1 hM1
    refine r_iconst dX12_minute_43 (by decide) ?_
    refine r_istore_n dX12_minute_44 (by decide) rfl ?_
    exact CW_msk [true, false, true, false] rfl T
  · have T := T.2 h_2
    refine r_aload_n dX12_minute_12 rfl ?_
    refine r_iload_n dX12_minute_13 rfl ?_
    refine r_iconst dX12_minute_14 (by decide) ?_
    refine r_callVI (md' := mX12_personOf) (as := [vI x2, vI 0]) dX12_minute_15 lX12_318 iX12_personOf rfl rfl rfl (Nat.le_of_ble_eq_true rfl) T (fun r_1 M2 T => ?_)
    refine r_if_lt (tgt := 27) dX12_minute_18 (by decide) (fun h_1 => ?_) (fun h_1 => ?_)
    · have T := T.1 h_1
      refine r_iinc dX12_minute_27 rfl (by decide) rfl ?_
      refine r_goto (tgt := 2) dX12_minute_30 (by decide) ?_
      exact T
    · have T := T.2 h_1
      refine r_aload_n dX12_minute_21 rfl ?_
      refine r_iload_n dX12_minute_22 rfl ?_
      refine r_iload_n dX12_minute_23 rfl ?_
      refine r_callVV (md' := mX12_does) (as := [vI x1, vI x2]) dX12_minute_24 lX12_378 iX12_does rfl rfl rfl (Nat.le_of_ble_eq_true rfl) T (fun M3 T => ?_)
      refine r_iinc dX12_minute_27 rfl (by decide) rfl ?_
      refine r_goto (tgt := 2) dX12_minute_30 (by decide) ?_
      exact T
set_option maxRecDepth 20000 in
set_option maxHeartbeats 1000000 in
theorem bX12_minute_45 {G : Gx} {K : Kx} {n : Nat} {M : Mem} {Q : Mem → Prop}  {x2 : Int}  (T : (M 0 26 2 ≤ x2 → Q M) ∧ (¬ (M 0 26 2 ≤ x2) → (0 ≤ wr (172 + (wr (5 * x2))) ∧ wr (172 + (wr (5 * x2))) < 328) ∧ ((0 ≤ M 0 26 (wr (172 + (wr (5 * x2)))).toNat → CW G K mX12_minute (n + 1) 45 [some (vO 0), none, some (vI (wr (x2 + 1))), none] [] M (qV Q)) ∧ (¬ (0 ≤ M 0 26 (wr (172 + (wr (5 * x2)))).toNat) → (0 ≤ wr (wr (172 + (wr (5 * x2))) + 4) ∧ wr (wr (172 + (wr (5 * x2))) + 4) < 328) ∧ ((M 0 26 3 < M 0 26 (wr (wr (172 + (wr (5 * x2))) + 4)).toNat → CW G K mX12_minute (n + 1) 45 [some (vO 0), none, some (vI (wr (x2 + 1))), none] [] M (qV Q)) ∧ (¬ (M 0 26 3 < M 0 26 (wr (wr (172 + (wr (5 * x2))) + 4)).toNat) → (¬ M 0 26 3 = 1440 → (0 ≤ wr (wr (172 + (wr (5 * x2))) + 3) ∧ wr (wr (172 + (wr (5 * x2))) + 3) < 328) ∧ ((0 ≤ wr (172 + (wr (5 * x2))) ∧ wr (172 + (wr (5 * x2))) < 328) ∧ (∀ M1 : Mem, M1 = mset M 0 26 (wr (172 + (wr (5 * x2)))).toNat (M 0 26 (wr (wr (172 + (wr (5 * x2))) + 3)).toNat) → (0 ≤ wr (wr (172 + (wr (5 * x2))) + 3) ∧ wr (wr (172 + (wr (5 * x2))) + 3) < 328) ∧ (∀ M2 : Mem, M2 = mset M1 0 26 (wr (wr (172 + (wr (5 * x2))) + 3)).toNat (-1) → (0 ≤ wr (wr (172 + (wr (5 * x2))) + 4) ∧ wr (wr (172 + (wr (5 * x2))) + 4) < 328) ∧ (∀ M3 : Mem, M3 = mset M2 0 26 (wr (wr (172 + (wr (5 * x2))) + 4)).toNat (-1) → CW G K mX12_minute (n + 1) 45 [some (vO 0), none, some (vI (wr (x2 + 1))), none] [] M3 (qV Q)))))) ∧ (M 0 26 3 = 1440 → CW G K mX12_minute (n + 1) 45 [some (vO 0), none, some (vI (wr (x2 + 1))), none] [] M (qV Q)))))))) : CW G K mX12_minute (n + 1) 45 [some (vO 0), none, some (vI x2), none] [] M (qV Q) := by
  refine r_iload_n dX12_minute_45 rfl ?_
  refine r_aload_n dX12_minute_46 rfl ?_
  refine r_getA dX12_minute_47 fX12_48 rfl uX12_26 ?_
  refine r_iconst dX12_minute_50 (by decide) ?_
  refine s_iald dX12_minute_51 rfl tX12_26 aX12_26 (by decide) ?_
  refine r_icmp_ge (tgt := 142) dX12_minute_52 (by decide) (fun h_4 => ?_) (fun h_4 => ?_)
  · have T := T.1 h_4
    exact r_return dX12_minute_142 rfl ⟨rfl, T⟩
  · have T := T.2 h_4
    refine r_sipush dX12_minute_55 (by decide) (by decide) ?_
    refine r_iconst dX12_minute_58 (by decide) ?_
    refine r_iload_n dX12_minute_59 rfl ?_
    refine r_imul dX12_minute_60 ?_
    refine r_iadd dX12_minute_61 ?_
    refine r_istore_n dX12_minute_62 (by decide) rfl ?_
    refine r_aload_n dX12_minute_63 rfl ?_
    refine r_getA dX12_minute_64 fX12_48 rfl uX12_26 ?_
    refine r_iload_n dX12_minute_67 rfl ?_
    refine s_iald dX12_minute_68 rfl tX12_26 aX12_26 T.1 ?_
    have T := T.2
    refine r_if_ge (tgt := 136) dX12_minute_69 (by decide) (fun h_3 => ?_) (fun h_3 => ?_)
    · have T := T.1 h_3
      refine r_iinc dX12_minute_136 rfl (by decide) rfl ?_
      refine r_goto (tgt := 45) dX12_minute_139 (by decide) ?_
      exact CW_msk [true, false, true, false] rfl T
    · have T := T.2 h_3
      refine r_aload_n dX12_minute_72 rfl ?_
      refine r_getA dX12_minute_73 fX12_48 rfl uX12_26 ?_
      refine r_iload_n dX12_minute_76 rfl ?_
      refine r_iconst dX12_minute_77 (by decide) ?_
      refine r_iadd dX12_minute_78 ?_
      refine s_iald dX12_minute_79 rfl tX12_26 aX12_26 T.1 ?_
      have T := T.2
      refine r_aload_n dX12_minute_80 rfl ?_
      refine r_getA dX12_minute_81 fX12_48 rfl uX12_26 ?_
      refine r_iconst dX12_minute_84 (by decide) ?_
      refine s_iald dX12_minute_85 rfl tX12_26 aX12_26 (by decide) ?_
      refine r_icmp_gt (tgt := 136) dX12_minute_86 (by decide) (fun h_2 => ?_) (fun h_2 => ?_)
      · have T := T.1 h_2
        refine r_iinc dX12_minute_136 rfl (by decide) rfl ?_
        refine r_goto (tgt := 45) dX12_minute_139 (by decide) ?_
        exact CW_msk [true, false, true, false] rfl T
      · have T := T.2 h_2
        refine r_aload_n dX12_minute_89 rfl ?_
        refine r_getA dX12_minute_90 fX12_48 rfl uX12_26 ?_
        refine r_iconst dX12_minute_93 (by decide) ?_
        refine s_iald dX12_minute_94 rfl tX12_26 aX12_26 (by decide) ?_
        refine r_sipush dX12_minute_95 (by decide) (by decide) ?_
        refine r_icmp_ne (tgt := 104) dX12_minute_98 (by decide) (fun h_1 => ?_) (fun h_1 => ?_)
        · have T := T.1 h_1
          refine r_aload_n dX12_minute_104 rfl ?_
          refine r_getA dX12_minute_105 fX12_48 rfl uX12_26 ?_
          refine r_iload_n dX12_minute_108 rfl ?_
          refine r_aload_n dX12_minute_109 rfl ?_
          refine r_getA dX12_minute_110 fX12_48 rfl uX12_26 ?_
          refine r_iload_n dX12_minute_113 rfl ?_
          refine r_iconst dX12_minute_114 (by decide) ?_
          refine r_iadd dX12_minute_115 ?_
          refine s_iald dX12_minute_116 rfl tX12_26 aX12_26 T.1 ?_
          have T := T.2
          refine n_iast dX12_minute_117 rfl tX12_26 aX12_26 T.1 (fun M1 hM1 => ?_)
          have T := T.2 M1 hM1
          refine r_aload_n dX12_minute_118 rfl ?_
          refine r_getA dX12_minute_119 fX12_48 rfl uX12_26 ?_
          refine r_iload_n dX12_minute_122 rfl ?_
          refine r_iconst dX12_minute_123 (by decide) ?_
          refine r_iadd dX12_minute_124 ?_
          refine r_iconst dX12_minute_125 (by decide) ?_
          refine n_iast dX12_minute_126 rfl tX12_26 aX12_26 T.1 (fun M2 hM2 => ?_)
          have T := T.2 M2 hM2
          refine r_aload_n dX12_minute_127 rfl ?_
          refine r_getA dX12_minute_128 fX12_48 rfl uX12_26 ?_
          refine r_iload_n dX12_minute_131 rfl ?_
          refine r_iconst dX12_minute_132 (by decide) ?_
          refine r_iadd dX12_minute_133 ?_
          refine r_iconst dX12_minute_134 (by decide) ?_
          refine n_iast dX12_minute_135 rfl tX12_26 aX12_26 T.1 (fun M3 hM3 => ?_)
          have T := T.2 M3 hM3
          refine r_iinc dX12_minute_136 rfl (by decide) rfl ?_
          refine r_goto (tgt := 45) dX12_minute_139 (by decide) ?_
          exact CW_msk [true, false, true, false] rfl T
        · have T := T.2 h_1
          refine r_goto (tgt := 136) dX12_minute_101 (by decide) ?_
          refine r_iinc dX12_minute_136 rfl (by decide) rfl ?_
          refine r_goto (tgt := 45) dX12_minute_139 (by decide) ?_
          exact CW_msk [true, false, true, false] rfl T
theorem eX12_minute {G : Gx} {n : Nat} {M : Mem} {Q : Mem → Prop}  {x1 : Int} (h : ∀ K : Kx, CW G K mX12_minute n 0 [some (vO 0), some (vI x1), none, none] [] M (qV Q)) : OkV G n mX12_minute [vO 0, vI x1] M Q := Ok_of (by decide) (Nat.le_of_ble_eq_true rfl) rfl h
-- DownOnlyModel tick (II)I
set_option maxRecDepth 20000 in
set_option maxHeartbeats 1000000 in
theorem bX12_tick_0 {G : Gx} {K : Kx} {n : Nat} {M : Mem} {Q : Int → Mem → Prop}  {x1 : Int} {x2 : Int}  (T : OkI G n mX12_isRule [vO 0, vI x1] M (fun r_1 M1 => (r_1 = 0 → Q (-1) M1) ∧ (¬ (r_1 = 0) → OkI G n mX12_in [vL x2, vL 1, vL 1440] M1 (fun r_2 M2 => (r_2 = 0 → Q (-1) M2) ∧ (¬ (r_2 = 0) → (wr (M2 0 26 3 + x2) ≤ 1440 → CW G K mX12_tick (n + 1) 38 [some (vO 0), some (vI x1), some (vI x2), some (vI 0)] [] M2 (qI Q)) ∧ (¬ (wr (M2 0 26 3 + x2) ≤ 1440) → Q (-1) M2)))))) : CW G K mX12_tick (n + 1) 0 [some (vO 0), some (vI x1), some (vI x2), none] [] M (qI Q) := by
  refine r_aload_n dX12_tick_0 rfl ?_
  refine r_iload_n dX12_tick_1 rfl ?_
  refine r_callVI (md' := mX12_isRule) (as := [vI x1]) dX12_tick_2 lX12_381 iX12_isRule rfl rfl rfl (Nat.le_of_ble_eq_true rfl) T (fun r_1 M1 T => ?_)
  refine r_if_eq (tgt := 34) dX12_tick_5 (by decide) (fun h_3 => ?_) (fun h_3 => ?_)
  · have T := T.1 h_3
    refine r_iconst dX12_tick_34 (by decide) ?_
    exact r_ireturn dX12_tick_35 rfl ⟨_, rfl, T⟩
  · have T := T.2 h_3
    refine r_iload_n dX12_tick_8 rfl ?_
    refine r_i2l dX12_tick_9 ?_
    refine r_lconst (z := 1) dX12_tick_10 (by decide) (by decide) ?_
    refine r_ldc2 (z := 1440) dX12_tick_11 kX12_384 (by decide) (by decide) ?_
    refine r_callSI (md' := mX12_in) (as := [vL x2, vL 1, vL 1440]) dX12_tick_14 lX12_148 iX12_in rfl rfl (Nat.le_of_ble_eq_true rfl) T (fun r_2 M2 T => ?_)
    refine r_if_eq (tgt := 34) dX12_tick_17 (by decide) (fun h_2 => ?_) (fun h_2 => ?_)
    · have T := T.1 h_2
      refine r_iconst dX12_tick_34 (by decide) ?_
      exact r_ireturn dX12_tick_35 rfl ⟨_, rfl, T⟩
    · have T := T.2 h_2
      refine r_aload_n dX12_tick_20 rfl ?_
      refine r_getA dX12_tick_21 fX12_48 rfl uX12_26 ?_
      refine r_iconst dX12_tick_24 (by decide) ?_
      refine s_iald dX12_tick_25 rfl tX12_26 aX12_26 (by decide) ?_
      refine r_iload_n dX12_tick_26 rfl ?_
      refine r_iadd dX12_tick_27 ?_
      refine r_sipush dX12_tick_28 (by decide) (by decide) ?_
      refine r_icmp_le (tgt := 36) dX12_tick_31 (by decide) (fun h_1 => ?_) (fun h_1 => ?_)
      · have T := T.1 h_1
        refine r_iconst dX12_tick_36 (by decide) ?_
        refine r_istore_n dX12_tick_37 (by decide) rfl ?_
        exact T
      · have T := T.2 h_1
        refine r_iconst dX12_tick_34 (by decide) ?_
        exact r_ireturn dX12_tick_35 rfl ⟨_, rfl, T⟩
set_option maxRecDepth 20000 in
set_option maxHeartbeats 1000000 in
theorem bX12_tick_38 {G : Gx} {K : Kx} {n : Nat} {M : Mem} {Q : Int → Mem → Prop}  {x1 : Int} {x2 : Int} {x3 : Int}  (T : (x2 ≤ x3 → Q (M 0 26 3) M) ∧ (¬ (x2 ≤ x3) → OkV G n mX12_minute [vO 0, vI x1] M (fun M1 => CW G K mX12_tick (n + 1) 38 [some (vO 0), some (vI x1), some (vI x2), some (vI (wr (x3 + 1)))] [] M1 (qI Q)))) : CW G K mX12_tick (n + 1) 38 [some (vO 0), some (vI x1), some (vI x2), some (vI x3)] [] M (qI Q) := by
  refine r_iload_n dX12_tick_38 rfl ?_
  refine r_iload_n dX12_tick_39 rfl ?_
  refine r_icmp_ge (tgt := 54) dX12_tick_40 (by decide) (fun h_1 => ?_) (fun h_1 => ?_)
  · have T := T.1 h_1
    refine r_aload_n dX12_tick_54 rfl ?_
    refine r_getA dX12_tick_55 fX12_48 rfl uX12_26 ?_
    refine r_iconst dX12_tick_58 (by decide) ?_
    refine s_iald dX12_tick_59 rfl tX12_26 aX12_26 (by decide) ?_
    exact r_ireturn dX12_tick_60 rfl ⟨_, rfl, T⟩
  · have T := T.2 h_1
    refine r_aload_n dX12_tick_43 rfl ?_
    refine r_iload_n dX12_tick_44 rfl ?_
    refine r_callVV (md' := mX12_minute) (as := [vI x1]) dX12_tick_45 lX12_386 iX12_minute rfl rfl rfl (Nat.le_of_ble_eq_true rfl) T (fun M1 T => ?_)
    refine r_iinc dX12_tick_48 rfl (by decide) rfl ?_
    refine r_goto (tgt := 38) dX12_tick_51 (by decide) ?_
    exact T
theorem eX12_tick {G : Gx} {n : Nat} {M : Mem} {Q : Int → Mem → Prop}  {x1 : Int} {x2 : Int} (h : ∀ K : Kx, CW G K mX12_tick n 0 [some (vO 0), some (vI x1), some (vI x2), none] [] M (qI Q)) : OkI G n mX12_tick [vO 0, vI x1, vI x2] M Q := Ok_of (by decide) (Nat.le_of_ble_eq_true rfl) rfl h
-- DownOnlyModel keeps ()V
set_option maxRecDepth 20000 in
set_option maxHeartbeats 1000000 in
theorem bX12_keeps_0 {G : Gx} {K : Kx} {n : Nat} {M : Mem} {Q : Mem → Prop}    (T : CW G K mX12_keeps n 2 [some (vO 0), some (vI 0)] [] M (qV Q)) : CW G K mX12_keeps n 0 [some (vO 0), none] [] M (qV Q) := by
  refine r_iconst dX12_keeps_0 (by decide) ?_
  refine r_istore_n dX12_keeps_1 (by decide) rfl ?_
  exact T
set_option maxRecDepth 20000 in
set_option maxHeartbeats 1000000 in
theorem bX12_keeps_2 {G : Gx} {K : Kx} {n : Nat} {M : Mem} {Q : Mem → Prop}  {x1 : Int}  (T : (328 ≤ x1 → Q M) ∧ (¬ (328 ≤ x1) → (0 ≤ x1 ∧ x1 < 328) ∧ ((0 ≤ x1 ∧ x1 < 328) ∧ (∀ M1 : Mem, M1 = mset M 0 27 x1.toNat (M 0 26 x1.toNat) → CW G K mX12_keeps n 2 [some (vO 0), some (vI (wr (x1 + 1)))] [] M1 (qV Q))))) : CW G K mX12_keeps n 2 [some (vO 0), some (vI x1)] [] M (qV Q) := by
  refine r_iload_n dX12_keeps_2 rfl ?_
  refine r_sipush dX12_keeps_3 (by decide) (by decide) ?_
  refine r_icmp_ge (tgt := 27) dX12_keeps_6 (by decide) (fun h_1 => ?_) (fun h_1 => ?_)
  · have T := T.1 h_1
    exact r_return dX12_keeps_27 rfl ⟨rfl, T⟩
  · have T := T.2 h_1
    refine r_aload_n dX12_keeps_9 rfl ?_
    refine r_getA dX12_keeps_10 fX12_51 rfl uX12_27 ?_
    refine r_iload_n dX12_keeps_13 rfl ?_
    refine r_aload_n dX12_keeps_14 rfl ?_
    refine r_getA dX12_keeps_15 fX12_48 rfl uX12_26 ?_
    refine r_iload_n dX12_keeps_18 rfl ?_
    refine s_iald dX12_keeps_19 rfl tX12_26 aX12_26 T.1 ?_
    have T := T.2
    refine n_iast dX12_keeps_20 rfl tX12_27 aX12_27 T.1 (fun M1 hM1 => ?_)
    have T := T.2 M1 hM1
    refine r_iinc dX12_keeps_21 rfl (by decide) rfl ?_
    refine r_goto (tgt := 2) dX12_keeps_24 (by decide) ?_
    exact T
theorem eX12_keeps {G : Gx} {n : Nat} {M : Mem} {Q : Mem → Prop}   (h : ∀ K : Kx, CW G K mX12_keeps n 0 [some (vO 0), none] [] M (qV Q)) : OkV G n mX12_keeps [vO 0] M Q := Ok_of (by decide) (Nat.le_of_ble_eq_true rfl) rfl h
-- DownOnlyModel putsBack ()V
set_option maxRecDepth 20000 in
set_option maxHeartbeats 1000000 in
theorem bX12_putsBack_0 {G : Gx} {K : Kx} {n : Nat} {M : Mem} {Q : Mem → Prop}    (T : CW G K mX12_putsBack n 2 [some (vO 0), some (vI 0)] [] M (qV Q)) : CW G K mX12_putsBack n 0 [some (vO 0), none] [] M (qV Q) := by
  refine r_iconst dX12_putsBack_0 (by decide) ?_
  refine r_istore_n dX12_putsBack_1 (by decide) rfl ?_
  exact T
set_option maxRecDepth 20000 in
set_option maxHeartbeats 1000000 in
theorem bX12_putsBack_2 {G : Gx} {K : Kx} {n : Nat} {M : Mem} {Q : Mem → Prop}  {x1 : Int}  (T : (328 ≤ x1 → Q M) ∧ (¬ (328 ≤ x1) → (0 ≤ x1 ∧ x1 < 328) ∧ ((0 ≤ x1 ∧ x1 < 328) ∧ (∀ M1 : Mem, M1 = mset M 0 26 x1.toNat (M 0 27 x1.toNat) → CW G K mX12_putsBack n 2 [some (vO 0), some (vI (wr (x1 + 1)))] [] M1 (qV Q))))) : CW G K mX12_putsBack n 2 [some (vO 0), some (vI x1)] [] M (qV Q) := by
  refine r_iload_n dX12_putsBack_2 rfl ?_
  refine r_sipush dX12_putsBack_3 (by decide) (by decide) ?_
  refine r_icmp_ge (tgt := 27) dX12_putsBack_6 (by decide) (fun h_1 => ?_) (fun h_1 => ?_)
  · have T := T.1 h_1
    exact r_return dX12_putsBack_27 rfl ⟨rfl, T⟩
  · have T := T.2 h_1
    refine r_aload_n dX12_putsBack_9 rfl ?_
    refine r_getA dX12_putsBack_10 fX12_48 rfl uX12_26 ?_
    refine r_iload_n dX12_putsBack_13 rfl ?_
    refine r_aload_n dX12_putsBack_14 rfl ?_
    refine r_getA dX12_putsBack_15 fX12_51 rfl uX12_27 ?_
    refine r_iload_n dX12_putsBack_18 rfl ?_
    refine s_iald dX12_putsBack_19 rfl tX12_27 aX12_27 T.1 ?_
    have T := T.2
    refine n_iast dX12_putsBack_20 rfl tX12_26 aX12_26 T.1 (fun M1 hM1 => ?_)
    have T := T.2 M1 hM1
    refine r_iinc dX12_putsBack_21 rfl (by decide) rfl ?_
    refine r_goto (tgt := 2) dX12_putsBack_24 (by decide) ?_
    exact T
theorem eX12_putsBack {G : Gx} {n : Nat} {M : Mem} {Q : Mem → Prop}   (h : ∀ K : Kx, CW G K mX12_putsBack n 0 [some (vO 0), none] [] M (qV Q)) : OkV G n mX12_putsBack [vO 0] M Q := Ok_of (by decide) (Nat.le_of_ble_eq_true rfl) rfl h
-- DownOnlyModel atHome ()I
set_option maxRecDepth 20000 in
set_option maxHeartbeats 1000000 in
theorem bX12_atHome_0 {G : Gx} {K : Kx} {n : Nat} {M : Mem} {Q : Int → Mem → Prop}    (T : CW G K mX12_atHome (n + 1) 4 [some (vO 0), some (vI 0), some (vI 0)] [] M (qI Q)) : CW G K mX12_atHome (n + 1) 0 [some (vO 0), none, none] [] M (qI Q) := by
  refine r_iconst dX12_atHome_0 (by decide) ?_
  refine r_istore_n dX12_atHome_1 (by decide) rfl ?_
  refine r_iconst dX12_atHome_2 (by decide) ?_
  refine r_istore_n dX12_atHome_3 (by decide) rfl ?_
  exact T
set_option maxRecDepth 20000 in
set_option maxHeartbeats 1000000 in
theorem bX12_atHome_4 {G : Gx} {K : Kx} {n : Nat} {M : Mem} {Q : Int → Mem → Prop}  {x1 : Int} {x2 : Int}  (T : (M 0 26 2 ≤ x2 → Q x1 M) ∧ (¬ (M 0 26 2 ≤ x2) → OkI G n mX12_personOf [vO 0, vI x2, vI 0] M (fun r_1 M1 => OkI G n mX12_personOf [vO 0, vI x2, vI 1] M1 (fun r_2 M2 => (¬ r_1 = r_2 → CW G K mX12_atHome (n + 1) 4 [some (vO 0), some (vI (wr (x1 + 0))), some (vI (wr (x2 + 1)))] [] M2 (qI Q)) ∧ (r_1 = r_2 → CW G K mX12_atHome (n + 1) 4 [some (vO 0), some (vI (wr (x1 + 1))), some (vI (wr (x2 + 1)))] [] M2 (qI Q)))))) : CW G K mX12_atHome (n + 1) 4 [some (vO 0), some (vI x1), some (vI x2)] [] M (qI Q) := by
  refine r_iload_n dX12_atHome_4 rfl ?_
  refine r_aload_n dX12_atHome_5 rfl ?_
  refine r_getA dX12_atHome_6 fX12_48 rfl uX12_26 ?_
  refine r_iconst dX12_atHome_9 (by decide) ?_
  refine s_iald dX12_atHome_10 rfl tX12_26 aX12_26 (by decide) ?_
  refine r_icmp_ge (tgt := 43) dX12_atHome_11 (by decide) (fun h_2 => ?_) (fun h_2 => ?_)
  · have T := T.1 h_2
    refine r_iload_n dX12_atHome_43 rfl ?_
    exact r_ireturn dX12_atHome_44 rfl ⟨_, rfl, T⟩
  · have T := T.2 h_2
    refine r_iload_n dX12_atHome_14 rfl ?_
    refine r_aload_n dX12_atHome_15 rfl ?_
    refine r_iload_n dX12_atHome_16 rfl ?_
    refine r_iconst dX12_atHome_17 (by decide) ?_
    refine r_callVI (md' := mX12_personOf) (as := [vI x2, vI 0]) dX12_atHome_18 lX12_318 iX12_personOf rfl rfl rfl (Nat.le_of_ble_eq_true rfl) T (fun r_1 M1 T => ?_)
    refine r_aload_n dX12_atHome_21 rfl ?_
    refine r_iload_n dX12_atHome_22 rfl ?_
    refine r_iconst dX12_atHome_23 (by decide) ?_
    refine r_callVI (md' := mX12_personOf) (as := [vI x2, vI 1]) dX12_atHome_24 lX12_318 iX12_personOf rfl rfl rfl (Nat.le_of_ble_eq_true rfl) T (fun r_2 M2 T => ?_)
    refine r_icmp_ne (tgt := 34) dX12_atHome_27 (by decide) (fun h_1 => ?_) (fun h_1 => ?_)
    · have T := T.1 h_1
      refine r_iconst dX12_atHome_34 (by decide) ?_
      refine r_iadd dX12_atHome_35 ?_
      refine r_istore_n dX12_atHome_36 (by decide) rfl ?_
      refine r_iinc dX12_atHome_37 rfl (by decide) rfl ?_
      refine r_goto (tgt := 4) dX12_atHome_40 (by decide) ?_
      exact T
    · have T := T.2 h_1
      refine r_iconst dX12_atHome_30 (by decide) ?_
      refine r_goto (tgt := 35) dX12_atHome_31 (by decide) ?_
      refine r_iadd dX12_atHome_35 ?_
      refine r_istore_n dX12_atHome_36 (by decide) rfl ?_
      refine r_iinc dX12_atHome_37 rfl (by decide) rfl ?_
      refine r_goto (tgt := 4) dX12_atHome_40 (by decide) ?_
      exact T
theorem eX12_atHome {G : Gx} {n : Nat} {M : Mem} {Q : Int → Mem → Prop}   (h : ∀ K : Kx, CW G K mX12_atHome n 0 [some (vO 0), none, none] [] M (qI Q)) : OkI G n mX12_atHome [vO 0] M Q := Ok_of (by decide) (Nat.le_of_ble_eq_true rfl) rfl h
-- DownOnlyModel onTheWay ()I
set_option maxRecDepth 20000 in
set_option maxHeartbeats 1000000 in
theorem bX12_onTheWay_0 {G : Gx} {K : Kx} {n : Nat} {M : Mem} {Q : Int → Mem → Prop}    (T : CW G K mX12_onTheWay (n + 1) 4 [some (vO 0), some (vI 0), some (vI 0)] [] M (qI Q)) : CW G K mX12_onTheWay (n + 1) 0 [some (vO 0), none, none] [] M (qI Q) := by
  refine r_iconst dX12_onTheWay_0 (by decide) ?_
  refine r_istore_n dX12_onTheWay_1 (by decide) rfl ?_
  refine r_iconst dX12_onTheWay_2 (by decide) ?_
  refine r_istore_n dX12_onTheWay_3 (by decide) rfl ?_
  exact T
set_option maxRecDepth 20000 in
set_option maxHeartbeats 1000000 in
theorem bX12_onTheWay_4 {G : Gx} {K : Kx} {n : Nat} {M : Mem} {Q : Int → Mem → Prop}  {x1 : Int} {x2 : Int}  (T : (M 0 26 2 ≤ x2 → Q x1 M) ∧ (¬ (M 0 26 2 ≤ x2) → OkI G n mX12_personOf [vO 0, vI x2, vI 0] M (fun r_1 M1 => (0 ≤ r_1 → CW G K mX12_onTheWay (n + 1) 4 [some (vO 0), some (vI (wr (x1 + 0))), some (vI (wr (x2 + 1)))] [] M1 (qI Q)) ∧ (¬ (0 ≤ r_1) → CW G K mX12_onTheWay (n + 1) 4 [some (vO 0), some (vI (wr (x1 + 1))), some (vI (wr (x2 + 1)))] [] M1 (qI Q))))) : CW G K mX12_onTheWay (n + 1) 4 [some (vO 0), some (vI x1), some (vI x2)] [] M (qI Q) := by
  refine r_iload_n dX12_onTheWay_4 rfl ?_
  refine r_aload_n dX12_onTheWay_5 rfl ?_
  refine r_getA dX12_onTheWay_6 fX12_48 rfl uX12_26 ?_
  refine r_iconst dX12_onTheWay_9 (by decide) ?_
  refine s_iald dX12_onTheWay_10 rfl tX12_26 aX12_26 (by decide) ?_
  refine r_icmp_ge (tgt := 37) dX12_onTheWay_11 (by decide) (fun h_2 => ?_) (fun h_2 => ?_)
  · have T := T.1 h_2
    refine r_iload_n dX12_onTheWay_37 rfl ?_
    exact r_ireturn dX12_onTheWay_38 rfl ⟨_, rfl, T⟩
  · have T := T.2 h_2
    refine r_iload_n dX12_onTheWay_14 rfl ?_
    refine r_aload_n dX12_onTheWay_15 rfl ?_
    refine r_iload_n dX12_onTheWay_16 rfl ?_
    refine r_iconst dX12_onTheWay_17 (by decide) ?_
    refine r_callVI (md' := mX12_personOf) (as := [vI x2, vI 0]) dX12_onTheWay_18 lX12_318 iX12_personOf rfl rfl rfl (Nat.le_of_ble_eq_true rfl) T (fun r_1 M1 T => ?_)
    refine r_if_ge (tgt := 28) dX12_onTheWay_21 (by decide) (fun h_1 => ?_) (fun h_1 => ?_)
    · have T := T.1 h_1
      refine r_iconst dX12_onTheWay_28 (by decide) ?_
      refine r_iadd dX12_onTheWay_29 ?_
      refine r_istore_n dX12_onTheWay_30 (by decide) rfl ?_
      refine r_iinc dX12_onTheWay_31 rfl (by decide) rfl ?_
      refine r_goto (tgt := 4) dX12_onTheWay_34 (by decide) ?_
      exact T
    · have T := T.2 h_1
      refine r_iconst dX12_onTheWay_24 (by decide) ?_
      refine r_goto (tgt := 29) dX12_onTheWay_25 (by decide) ?_
      refine r_iadd dX12_onTheWay_29 ?_
      refine r_istore_n dX12_onTheWay_30 (by decide) rfl ?_
      refine r_iinc dX12_onTheWay_31 rfl (by decide) rfl ?_
      refine r_goto (tgt := 4) dX12_onTheWay_34 (by decide) ?_
      exact T
theorem eX12_onTheWay {G : Gx} {n : Nat} {M : Mem} {Q : Int → Mem → Prop}   (h : ∀ K : Kx, CW G K mX12_onTheWay n 0 [some (vO 0), none, none] [] M (qI Q)) : OkI G n mX12_onTheWay [vO 0] M Q := Ok_of (by decide) (Nat.le_of_ble_eq_true rfl) rfl h
-- DownOnlyModel haveRidden ()I
set_option maxRecDepth 20000 in
set_option maxHeartbeats 1000000 in
theorem bX12_haveRidden_0 {G : Gx} {K : Kx} {n : Nat} {M : Mem} {Q : Int → Mem → Prop}    (T : CW G K mX12_haveRidden (n + 1) 4 [some (vO 0), some (vI 0), some (vI 0)] [] M (qI Q)) : CW G K mX12_haveRidden (n + 1) 0 [some (vO 0), none, none] [] M (qI Q) := by
  refine r_iconst dX12_haveRidden_0 (by decide) ?_
  refine r_istore_n dX12_haveRidden_1 (by decide) rfl ?_
  refine r_iconst dX12_haveRidden_2 (by decide) ?_
  refine r_istore_n dX12_haveRidden_3 (by decide) rfl ?_
  exact T
set_option maxRecDepth 20000 in
set_option maxHeartbeats 1000000 in
theorem bX12_haveRidden_4 {G : Gx} {K : Kx} {n : Nat} {M : Mem} {Q : Int → Mem → Prop}  {x1 : Int} {x2 : Int}  (T : (M 0 26 2 ≤ x2 → Q x1 M) ∧ (¬ (M 0 26 2 ≤ x2) → OkI G n mX12_ridden [vO 0, vI x2] M (fun r_1 M1 => (r_1 = 0 → CW G K mX12_haveRidden (n + 1) 4 [some (vO 0), some (vI (wr (x1 + 0))), some (vI (wr (x2 + 1)))] [] M1 (qI Q)) ∧ (¬ (r_1 = 0) → CW G K mX12_haveRidden (n + 1) 4 [some (vO 0), some (vI (wr (x1 + 1))), some (vI (wr (x2 + 1)))] [] M1 (qI Q))))) : CW G K mX12_haveRidden (n + 1) 4 [some (vO 0), some (vI x1), some (vI x2)] [] M (qI Q) := by
  refine r_iload_n dX12_haveRidden_4 rfl ?_
  refine r_aload_n dX12_haveRidden_5 rfl ?_
  refine r_getA dX12_haveRidden_6 fX12_48 rfl uX12_26 ?_
  refine r_iconst dX12_haveRidden_9 (by decide) ?_
  refine s_iald dX12_haveRidden_10 rfl tX12_26 aX12_26 (by decide) ?_
  refine r_icmp_ge (tgt := 36) dX12_haveRidden_11 (by decide) (fun h_2 => ?_) (fun h_2 => ?_)
  · have T := T.1 h_2
    refine r_iload_n dX12_haveRidden_36 rfl ?_
    exact r_ireturn dX12_haveRidden_37 rfl ⟨_, rfl, T⟩
  · have T := T.2 h_2
    refine r_iload_n dX12_haveRidden_14 rfl ?_
    refine r_aload_n dX12_haveRidden_15 rfl ?_
    refine r_iload_n dX12_haveRidden_16 rfl ?_
    refine r_callVI (md' := mX12_ridden) (as := [vI x2]) dX12_haveRidden_17 lX12_346 iX12_ridden rfl rfl rfl (Nat.le_of_ble_eq_true rfl) T (fun r_1 M1 T => ?_)
    refine r_if_eq (tgt := 27) dX12_haveRidden_20 (by decide) (fun h_1 => ?_) (fun h_1 => ?_)
    · have T := T.1 h_1
      refine r_iconst dX12_haveRidden_27 (by decide) ?_
      refine r_iadd dX12_haveRidden_28 ?_
      refine r_istore_n dX12_haveRidden_29 (by decide) rfl ?_
      refine r_iinc dX12_haveRidden_30 rfl (by decide) rfl ?_
      refine r_goto (tgt := 4) dX12_haveRidden_33 (by decide) ?_
      exact T
    · have T := T.2 h_1
      refine r_iconst dX12_haveRidden_23 (by decide) ?_
      refine r_goto (tgt := 28) dX12_haveRidden_24 (by decide) ?_
      refine r_iadd dX12_haveRidden_28 ?_
      refine r_istore_n dX12_haveRidden_29 (by decide) rfl ?_
      refine r_iinc dX12_haveRidden_30 rfl (by decide) rfl ?_
      refine r_goto (tgt := 4) dX12_haveRidden_33 (by decide) ?_
      exact T
theorem eX12_haveRidden {G : Gx} {n : Nat} {M : Mem} {Q : Int → Mem → Prop}   (h : ∀ K : Kx, CW G K mX12_haveRidden n 0 [some (vO 0), none, none] [] M (qI Q)) : OkI G n mX12_haveRidden [vO 0] M Q := Ok_of (by decide) (Nat.le_of_ble_eq_true rfl) rfl h
-- DownOnlyModel ahead (II)I
set_option maxRecDepth 20000 in
set_option maxHeartbeats 1000000 in
theorem bX12_ahead_0 {G : Gx} {K : Kx} {n : Nat} {M : Mem} {Q : Int → Mem → Prop}  {x1 : Int} {x2 : Int}  (T : OkI G n mX12_isRule [vO 0, vI x1] M (fun r_1 M1 => (r_1 = 0 → Q (-1) M1) ∧ (¬ (r_1 = 0) → OkI G n mX12_in [vL x2, vL 0, vL 2] M1 (fun r_2 M2 => (¬ r_2 = 0 → OkV G n mX12_keeps [vO 0] M2 (fun M3 => CW G K mX12_ahead (n + 1) 26 [some (vO 0), some (vI x1), some (vI x2), none] [] M3 (qI Q))) ∧ (r_2 = 0 → Q (-1) M2))))) : CW G K mX12_ahead (n + 1) 0 [some (vO 0), some (vI x1), some (vI x2), none] [] M (qI Q) := by
  refine r_aload_n dX12_ahead_0 rfl ?_
  refine r_iload_n dX12_ahead_1 rfl ?_
  refine r_callVI (md' := mX12_isRule) (as := [vI x1]) dX12_ahead_2 lX12_381 iX12_isRule rfl rfl rfl (Nat.le_of_ble_eq_true rfl) T (fun r_1 M1 T => ?_)
  refine r_if_eq (tgt := 20) dX12_ahead_5 (by decide) (fun h_2 => ?_) (fun h_2 => ?_)
  · have T := T.1 h_2
    refine r_iconst dX12_ahead_20 (by decide) ?_
    exact r_ireturn dX12_ahead_21 rfl ⟨_, rfl, T⟩
  · have T := T.2 h_2
    refine r_iload_n dX12_ahead_8 rfl ?_
    refine r_i2l dX12_ahead_9 ?_
    refine r_lconst (z := 0) dX12_ahead_10 (by decide) (by decide) ?_
    refine r_ldc2 (z := 2) dX12_ahead_11 kX12_328 (by decide) (by decide) ?_
    refine r_callSI (md' := mX12_in) (as := [vL x2, vL 0, vL 2]) dX12_ahead_14 lX12_148 iX12_in rfl rfl (Nat.le_of_ble_eq_true rfl) T (fun r_2 M2 T => ?_)
    refine r_if_ne (tgt := 22) dX12_ahead_17 (by decide) (fun h_1 => ?_) (fun h_1 => ?_)
    · have T := T.1 h_1
      refine r_aload_n dX12_ahead_22 rfl ?_
      refine r_callVV (md' := mX12_keeps) (as := []) dX12_ahead_23 lX12_389 iX12_keeps rfl rfl rfl (Nat.le_of_ble_eq_true rfl) T (fun M3 T => ?_)
      exact T
    · have T := T.2 h_1
      refine r_iconst dX12_ahead_20 (by decide) ?_
      exact r_ireturn dX12_ahead_21 rfl ⟨_, rfl, T⟩
set_option maxRecDepth 20000 in
set_option maxHeartbeats 1000000 in
theorem bX12_ahead_26 {G : Gx} {K : Kx} {n : Nat} {M : Mem} {Q : Int → Mem → Prop}  {x1 : Int} {x2 : Int}  (T : (1440 ≤ M 0 26 3 → (¬ x2 = 0 → (¬ x2 = 1 → OkI G n mX12_haveRidden [vO 0] M (fun r_1 M1 => OkV G n mX12_putsBack [vO 0] M1 (fun M2 => Q r_1 M2))) ∧ (x2 = 1 → OkI G n mX12_onTheWay [vO 0] M (fun r_2 M3 => OkV G n mX12_putsBack [vO 0] M3 (fun M4 => Q r_2 M4)))) ∧ (x2 = 0 → OkI G n mX12_atHome [vO 0] M (fun r_3 M5 => OkV G n mX12_putsBack [vO 0] M5 (fun M6 => Q r_3 M6)))) ∧ (¬ (1440 ≤ M 0 26 3) → OkV G n mX12_minute [vO 0, vI x1] M (fun M7 => CW G K mX12_ahead (n + 1) 26 [some (vO 0), some (vI x1), some (vI x2), none] [] M7 (qI Q)))) : CW G K mX12_ahead (n + 1) 26 [some (vO 0), some (vI x1), some (vI x2), none] [] M (qI Q) := by
  refine r_aload_n dX12_ahead_26 rfl ?_
  refine r_getA dX12_ahead_27 fX12_48 rfl uX12_26 ?_
  refine r_iconst dX12_ahead_30 (by decide) ?_
  refine s_iald dX12_ahead_31 rfl tX12_26 aX12_26 (by decide) ?_
  refine r_sipush dX12_ahead_32 (by decide) (by decide) ?_
  refine r_icmp_ge (tgt := 46) dX12_ahead_35 (by decide) (fun h_3 => ?_) (fun h_3 => ?_)
  · have T := T.1 h_3
    refine r_iload_n dX12_ahead_46 rfl ?_
    refine r_if_ne (tgt := 57) dX12_ahead_47 (by decide) (fun h_2 => ?_) (fun h_2 => ?_)
    · have T := T.1 h_2
      refine r_iload_n dX12_ahead_57 rfl ?_
      refine r_iconst dX12_ahead_58 (by decide) ?_
      refine r_icmp_ne (tgt := 69) dX12_ahead_59 (by decide) (fun h_1 => ?_) (fun h_1 => ?_)
      · have T := T.1 h_1
        refine r_aload_n dX12_ahead_69 rfl ?_
        refine r_callVI (md' := mX12_haveRidden) (as := []) dX12_ahead_70 lX12_398 iX12_haveRidden rfl rfl rfl (Nat.le_of_ble_eq_true rfl) T (fun r_1 M1 T => ?_)
        refine r_istore_n dX12_ahead_73 (by decide) rfl ?_
        refine r_aload_n dX12_ahead_74 rfl ?_
        refine r_callVV (md' := mX12_putsBack) (as := []) dX12_ahead_75 lX12_401 iX12_putsBack rfl rfl rfl (Nat.le_of_ble_eq_true rfl) T (fun M2 T => ?_)
        refine r_iload_n dX12_ahead_78 rfl ?_
        exact r_ireturn dX12_ahead_79 rfl ⟨_, rfl, T⟩
      · have T := T.2 h_1
        refine r_aload_n dX12_ahead_62 rfl ?_
        refine r_callVI (md' := mX12_onTheWay) (as := []) dX12_ahead_63 lX12_395 iX12_onTheWay rfl rfl rfl (Nat.le_of_ble_eq_true rfl) T (fun r_2 M3 T => ?_)
        refine r_goto (tgt := 73) dX12_ahead_66 (by decide) ?_
        refine r_istore_n dX12_ahead_73 (by decide) rfl ?_
        refine r_aload_n dX12_ahead_74 rfl ?_
        refine r_callVV (md' := mX12_putsBack) (as := []) dX12_ahead_75 lX12_401 iX12_putsBack rfl rfl rfl (Nat.le_of_ble_eq_true rfl) T (fun M4 T => ?_)
        refine r_iload_n dX12_ahead_78 rfl ?_
        exact r_ireturn dX12_ahead_79 rfl ⟨_, rfl, T⟩
    · have T := T.2 h_2
      refine r_aload_n dX12_ahead_50 rfl ?_
      refine r_callVI (md' := mX12_atHome) (as := []) dX12_ahead_51 lX12_392 iX12_atHome rfl rfl rfl (Nat.le_of_ble_eq_true rfl) T (fun r_3 M5 T => ?_)
      refine r_goto (tgt := 73) dX12_ahead_54 (by decide) ?_
      refine r_istore_n dX12_ahead_73 (by decide) rfl ?_
      refine r_aload_n dX12_ahead_74 rfl ?_
      refine r_callVV (md' := mX12_putsBack) (as := []) dX12_ahead_75 lX12_401 iX12_putsBack rfl rfl rfl (Nat.le_of_ble_eq_true rfl) T (fun M6 T => ?_)
      refine r_iload_n dX12_ahead_78 rfl ?_
      exact r_ireturn dX12_ahead_79 rfl ⟨_, rfl, T⟩
  · have T := T.2 h_3
    refine r_aload_n dX12_ahead_38 rfl ?_
    refine r_iload_n dX12_ahead_39 rfl ?_
    refine r_callVV (md' := mX12_minute) (as := [vI x1]) dX12_ahead_40 lX12_386 iX12_minute rfl rfl rfl (Nat.le_of_ble_eq_true rfl) T (fun M7 T => ?_)
    refine r_goto (tgt := 26) dX12_ahead_43 (by decide) ?_
    exact T
theorem eX12_ahead {G : Gx} {n : Nat} {M : Mem} {Q : Int → Mem → Prop}  {x1 : Int} {x2 : Int} (h : ∀ K : Kx, CW G K mX12_ahead n 0 [some (vO 0), some (vI x1), some (vI x2), none] [] M (qI Q)) : OkI G n mX12_ahead [vO 0, vI x1, vI x2] M Q := Ok_of (by decide) (Nat.le_of_ble_eq_true rfl) rfl h
-- DownOnlyModel opens (II)I
set_option maxRecDepth 20000 in
set_option maxHeartbeats 1000000 in
theorem bX12_opens__0 {G : Gx} {K : Kx} {n : Nat} {M : Mem} {Q : Int → Mem → Prop}  {x1 : Int} {x2 : Int}  (T : OkI G n mX12_wayOf [vO 0, vI x1, vI 4] M (fun r_1 M1 => (0 ≤ r_1 → OkI G n mX12_wayOf [vO 0, vI x1, vI 4] M1 (fun r_2 M2 => OkI G n mX12_later [vI x2, vI r_2] M2 (fun r_3 M3 => OkI G n mX12_wayOf [vO 0, vI x1, vI 5] M3 (fun r_4 M4 => (r_3 ≤ r_4 → Q r_3 M4) ∧ (¬ (r_3 ≤ r_4) → Q 99999 M4))))) ∧ (¬ (0 ≤ r_1) → Q x2 M1))) : CW G K mX12_opens_ (n + 1) 0 [some (vO 0), some (vI x1), some (vI x2), none] [] M (qI Q) := by
  refine r_aload_n dX12_opens__0 rfl ?_
  refine r_iload_n dX12_opens__1 rfl ?_
  refine r_iconst dX12_opens__2 (by decide) ?_
  refine r_callVI (md' := mX12_wayOf) (as := [vI x1, vI 4]) dX12_opens__3 lX12_322 iX12_wayOf rfl rfl rfl (Nat.le_of_ble_eq_true rfl) T (fun r_1 M1 T => ?_)
  refine r_if_ge (tgt := 11) dX12_opens__6 (by decide) (fun h_2 => ?_) (fun h_2 => ?_)
  · have T := T.1 h_2
    refine r_iload_n dX12_opens__11 rfl ?_
    refine r_aload_n dX12_opens__12 rfl ?_
    refine r_iload_n dX12_opens__13 rfl ?_
    refine r_iconst dX12_opens__14 (by decide) ?_
    refine r_callVI (md' := mX12_wayOf) (as := [vI x1, vI 4]) dX12_opens__15 lX12_322 iX12_wayOf rfl rfl rfl (Nat.le_of_ble_eq_true rfl) T (fun r_2 M2 T => ?_)
    refine r_callSI (md' := mX12_later) (as := [vI x2, vI r_2]) dX12_opens__18 lX12_404 iX12_later rfl rfl (Nat.le_of_ble_eq_true rfl) T (fun r_3 M3 T => ?_)
    refine r_istore_n dX12_opens__21 (by decide) rfl ?_
    refine r_iload_n dX12_opens__22 rfl ?_
    refine r_aload_n dX12_opens__23 rfl ?_
    refine r_iload_n dX12_opens__24 rfl ?_
    refine r_iconst dX12_opens__25 (by decide) ?_
    refine r_callVI (md' := mX12_wayOf) (as := [vI x1, vI 5]) dX12_opens__26 lX12_322 iX12_wayOf rfl rfl rfl (Nat.le_of_ble_eq_true rfl) T (fun r_4 M4 T => ?_)
    refine r_icmp_le (tgt := 37) dX12_opens__29 (by decide) (fun h_1 => ?_) (fun h_1 => ?_)
    · have T := T.1 h_1
      refine r_iload_n dX12_opens__37 rfl ?_
      exact r_ireturn dX12_opens__38 rfl ⟨_, rfl, T⟩
    · have T := T.2 h_1
      refine r_ldc (z := 99999) dX12_opens__32 kX12_188 (by decide) (by decide) ?_
      refine r_goto (tgt := 38) dX12_opens__34 (by decide) ?_
      exact r_ireturn dX12_opens__38 rfl ⟨_, rfl, T⟩
  · have T := T.2 h_2
    refine r_iload_n dX12_opens__9 rfl ?_
    exact r_ireturn dX12_opens__10 rfl ⟨_, rfl, T⟩
theorem eX12_opens_ {G : Gx} {n : Nat} {M : Mem} {Q : Int → Mem → Prop}  {x1 : Int} {x2 : Int} (h : ∀ K : Kx, CW G K mX12_opens_ n 0 [some (vO 0), some (vI x1), some (vI x2), none] [] M (qI Q)) : OkI G n mX12_opens_ [vO 0, vI x1, vI x2] M Q := Ok_of (by decide) (Nat.le_of_ble_eq_true rfl) rfl h
-- DownOnlyModel nearest ()I
set_option maxRecDepth 20000 in
set_option maxHeartbeats 1000000 in
theorem bX12_nearest_0 {G : Gx} {K : Kx} {n : Nat} {M : Mem} {Q : Int → Mem → Prop}    (T : CW G K mX12_nearest n 4 [some (vO 0), some (vI (-1)), some (vI 0)] [] M (qI Q)) : CW G K mX12_nearest n 0 [some (vO 0), none, none] [] M (qI Q) := by
  refine r_iconst dX12_nearest_0 (by decide) ?_
  refine r_istore_n dX12_nearest_1 (by decide) rfl ?_
  refine r_iconst dX12_nearest_2 (by decide) ?_
  refine r_istore_n dX12_nearest_3 (by decide) rfl ?_
  exact T
set_option maxRecDepth 20000 in
set_option maxHeartbeats 1000000 in
theorem bX12_nearest_4 {G : Gx} {K : Kx} {n : Nat} {M : Mem} {Q : Int → Mem → Prop}  {x1 : Int} {x2 : Int}  (T : (32 ≤ x2 → Q x1 M) ∧ (¬ (32 ≤ x2) → (0 ≤ x2 ∧ x2 < 32) ∧ ((¬ M 0 29 x2.toNat = 0 → CW G K mX12_nearest n 4 [some (vO 0), some (vI x1), some (vI (wr (x2 + 1)))] [] M (qI Q)) ∧ (M 0 29 x2.toNat = 0 → (0 ≤ x2 ∧ x2 < 32) ∧ ((1439 < M 0 28 x2.toNat → CW G K mX12_nearest n 4 [some (vO 0), some (vI x1), some (vI (wr (x2 + 1)))] [] M (qI Q)) ∧ (¬ (1439 < M 0 28 x2.toNat) → (x1 < 0 → CW G K mX12_nearest n 4 [some (vO 0), some (vI x2), some (vI (wr (x2 + 1)))] [] M (qI Q)) ∧ (¬ (x1 < 0) → (0 ≤ x2 ∧ x2 < 32) ∧ ((0 ≤ x1 ∧ x1 < 32) ∧ ((M 0 28 x1.toNat ≤ M 0 28 x2.toNat → CW G K mX12_nearest n 4 [some (vO 0), some (vI x1), some (vI (wr (x2 + 1)))] [] M (qI Q)) ∧ (¬ (M 0 28 x1.toNat ≤ M 0 28 x2.toNat) → CW G K mX12_nearest n 4 [some (vO 0), some (vI x2), some (vI (wr (x2 + 1)))] [] M (qI Q))))))))))) : CW G K mX12_nearest n 4 [some (vO 0), some (vI x1), some (vI x2)] [] M (qI Q) := by
  refine r_iload_n dX12_nearest_4 rfl ?_
  refine r_bipush dX12_nearest_5 (by decide) (by decide) ?_
  refine r_icmp_ge (tgt := 58) dX12_nearest_7 (by decide) (fun h_5 => ?_) (fun h_5 => ?_)
  · have T := T.1 h_5
    refine r_iload_n dX12_nearest_58 rfl ?_
    exact r_ireturn dX12_nearest_59 rfl ⟨_, rfl, T⟩
  · have T := T.2 h_5
    refine r_aload_n dX12_nearest_10 rfl ?_
    refine r_getA dX12_nearest_11 fX12_57 rfl uX12_29 ?_
    refine r_iload_n dX12_nearest_14 rfl ?_
    refine s_bald dX12_nearest_15 rfl (Or.inr tX12_29) aX12_29 T.1 ?_
    have T := T.2
    refine r_if_ne (tgt := 52) dX12_nearest_16 (by decide) (fun h_4 => ?_) (fun h_4 => ?_)
    · have T := T.1 h_4
      refine r_iinc dX12_nearest_52 rfl (by decide) rfl ?_
      refine r_goto (tgt := 4) dX12_nearest_55 (by decide) ?_
      exact T
    · have T := T.2 h_4
      refine r_aload_n dX12_nearest_19 rfl ?_
      refine r_getA dX12_nearest_20 fX12_54 rfl uX12_28 ?_
      refine r_iload_n dX12_nearest_23 rfl ?_
      refine s_iald dX12_nearest_24 rfl tX12_28 aX12_28 T.1 ?_
      have T := T.2
      refine r_sipush dX12_nearest_25 (by decide) (by decide) ?_
      refine r_icmp_gt (tgt := 52) dX12_nearest_28 (by decide) (fun h_3 => ?_) (fun h_3 => ?_)
      · have T := T.1 h_3
        refine r_iinc dX12_nearest_52 rfl (by decide) rfl ?_
        refine r_goto (tgt := 4) dX12_nearest_55 (by decide) ?_
        exact T
      · have T := T.2 h_3
        refine r_iload_n dX12_nearest_31 rfl ?_
        refine r_if_lt (tgt := 50) dX12_nearest_32 (by decide) (fun h_2 => ?_) (fun h_2 => ?_)
        · have T := T.1 h_2
          refine r_iload_n dX12_nearest_50 rfl ?_
          refine r_istore_n dX12_nearest_51 (by decide) rfl ?_
          refine r_iinc dX12_nearest_52 rfl (by decide) rfl ?_
          refine r_goto (tgt := 4) dX12_nearest_55 (by decide) ?_
          exact T
        · have T := T.2 h_2
          refine r_aload_n dX12_nearest_35 rfl ?_
          refine r_getA dX12_nearest_36 fX12_54 rfl uX12_28 ?_
          refine r_iload_n dX12_nearest_39 rfl ?_
          refine s_iald dX12_nearest_40 rfl tX12_28 aX12_28 T.1 ?_
          have T := T.2
          refine r_aload_n dX12_nearest_41 rfl ?_
          refine r_getA dX12_nearest_42 fX12_54 rfl uX12_28 ?_
          refine r_iload_n dX12_nearest_45 rfl ?_
          refine s_iald dX12_nearest_46 rfl tX12_28 aX12_28 T.1 ?_
          have T := T.2
          refine r_icmp_ge (tgt := 52) dX12_nearest_47 (by decide) (fun h_1 => ?_) (fun h_1 => ?_)
          · have T := T.1 h_1
            refine r_iinc dX12_nearest_52 rfl (by decide) rfl ?_
            refine r_goto (tgt := 4) dX12_nearest_55 (by decide) ?_
            exact T
          · have T := T.2 h_1
            refine r_iload_n dX12_nearest_50 rfl ?_
            refine r_istore_n dX12_nearest_51 (by decide) rfl ?_
            refine r_iinc dX12_nearest_52 rfl (by decide) rfl ?_
            refine r_goto (tgt := 4) dX12_nearest_55 (by decide) ?_
            exact T
theorem eX12_nearest {G : Gx} {n : Nat} {M : Mem} {Q : Int → Mem → Prop}   (h : ∀ K : Kx, CW G K mX12_nearest n 0 [some (vO 0), none, none] [] M (qI Q)) : OkI G n mX12_nearest [vO 0] M Q := Ok_of (by decide) (Nat.le_of_ble_eq_true rfl) rfl h
-- DownOnlyModel comesTo (II)V
set_option maxRecDepth 20000 in
set_option maxHeartbeats 1000000 in
theorem bX12_comesTo_0 {G : Gx} {K : Kx} {n : Nat} {M : Mem} {Q : Mem → Prop}  {x1 : Int} {x2 : Int}  (T : (0 ≤ x1 ∧ x1 < 32) ∧ ((M 0 28 x1.toNat ≤ x2 → Q M) ∧ (¬ (M 0 28 x1.toNat ≤ x2) → (0 ≤ x1 ∧ x1 < 32) ∧ (∀ M1 : Mem, M1 = mset M 0 28 x1.toNat x2 → Q M1)))) : CW G K mX12_comesTo n 0 [some (vO 0), some (vI x1), some (vI x2)] [] M (qV Q) := by
  refine r_iload_n dX12_comesTo_0 rfl ?_
  refine r_aload_n dX12_comesTo_1 rfl ?_
  refine r_getA dX12_comesTo_2 fX12_54 rfl uX12_28 ?_
  refine r_iload_n dX12_comesTo_5 rfl ?_
  refine s_iald dX12_comesTo_6 rfl tX12_28 aX12_28 T.1 ?_
  have T := T.2
  refine r_icmp_ge (tgt := 17) dX12_comesTo_7 (by decide) (fun h_1 => ?_) (fun h_1 => ?_)
  · have T := T.1 h_1
    exact r_return dX12_comesTo_17 rfl ⟨rfl, T⟩
  · have T := T.2 h_1
    refine r_aload_n dX12_comesTo_10 rfl ?_
    refine r_getA dX12_comesTo_11 fX12_54 rfl uX12_28 ?_
    refine r_iload_n dX12_comesTo_14 rfl ?_
    refine r_iload_n dX12_comesTo_15 rfl ?_
    refine n_iast dX12_comesTo_16 rfl tX12_28 aX12_28 T.1 (fun M1 hM1 => ?_)
    have T := T.2 M1 hM1
    exact r_return dX12_comesTo_17 rfl ⟨rfl, T⟩
theorem eX12_comesTo {G : Gx} {n : Nat} {M : Mem} {Q : Mem → Prop}  {x1 : Int} {x2 : Int} (h : ∀ K : Kx, CW G K mX12_comesTo n 0 [some (vO 0), some (vI x1), some (vI x2)] [] M (qV Q)) : OkV G n mX12_comesTo [vO 0, vI x1, vI x2] M Q := Ok_of (by decide) (Nat.le_of_ble_eq_true rfl) rfl h
-- DownOnlyModel spreads (IIZ)V
set_option maxRecDepth 20000 in
set_option maxHeartbeats 1000000 in
theorem bX12_spreads_0 {G : Gx} {K : Kx} {n : Nat} {M : Mem} {Q : Mem → Prop}  {x1 : Int} {x2 : Int} {x3 : Int}  (T : CW G K mX12_spreads (n + 1) 3 [some (vO 0), some (vI x1), some (vI x2), some (vI x3), some (vI 0), none, none, none] [] M (qV Q)) : CW G K mX12_spreads (n + 1) 0 [some (vO 0), some (vI x1), some (vI x2), some (vI x3), none, none, none, none] [] M (qV Q) := by
  refine r_iconst dX12_spreads_0 (by decide) ?_
  refine r_istore dX12_spreads_1 (by decide) rfl ?_
  exact T
set_option maxRecDepth 20000 in
set_option maxHeartbeats 1000000 in
theorem bX12_spreads_3 {G : Gx} {K : Kx} {n : Nat} {M : Mem} {Q : Mem → Prop}  {x1 : Int} {x2 : Int} {x3 : Int} {x4 : Int}  (T : (32 ≤ x4 → (x3 = 0 → (0 ≤ wr (wr (2 * x1) + 1) ∧ wr (wr (2 * x1) + 1) < 32) ∧ (∀ M1 : Mem, M1 = mset M 0 28 (wr (wr (2 * x1) + 1)).toNat x2 → OkI G n mX12_nearest [vO 0] M1 (fun r_1 M2 => CW G K mX12_spreads (n + 1) 58 [some (vO 0), none, none, none, some (vI r_1), none, none, none] [] M2 (qV Q)))) ∧ (¬ (x3 = 0) → (0 ≤ wr (wr (2 * x1) + 0) ∧ wr (wr (2 * x1) + 0) < 32) ∧ (∀ M3 : Mem, M3 = mset M 0 28 (wr (wr (2 * x1) + 0)).toNat x2 → OkI G n mX12_nearest [vO 0] M3 (fun r_2 M4 => CW G K mX12_spreads (n + 1) 58 [some (vO 0), none, none, none, some (vI r_2), none, none, none] [] M4 (qV Q))))) ∧ (¬ (32 ≤ x4) → (0 ≤ x4 ∧ x4 < 32) ∧ (∀ M5 : Mem, M5 = mset M 0 28 x4.toNat 99999 → (0 ≤ x4 ∧ x4 < 32) ∧ (∀ M6 : Mem, M6 = mset M5 0 29 x4.toNat 0 → CW G K mX12_spreads (n + 1) 3 [some (vO 0), some (vI x1), some (vI x2), some (vI x3), some (vI (wr (x4 + 1))), none, none, none] [] M6 (qV Q))))) : CW G K mX12_spreads (n + 1) 3 [some (vO 0), some (vI x1), some (vI x2), some (vI x3), some (vI x4), none, none, none] [] M (qV Q) := by
  refine r_iload dX12_spreads_3 rfl ?_
  refine r_bipush dX12_spreads_5 (by decide) (by decide) ?_
  refine r_icmp_ge (tgt := 33) dX12_spreads_7 (by decide) (fun h_2 => ?_) (fun h_2 => ?_)
  · have T := T.1 h_2
    refine r_aload_n dX12_spreads_33 rfl ?_
    refine r_getA dX12_spreads_34 fX12_54 rfl uX12_28 ?_
    refine r_iconst dX12_spreads_37 (by decide) ?_
    refine r_iload_n dX12_spreads_38 rfl ?_
    refine r_imul dX12_spreads_39 ?_
    refine r_iload_n dX12_spreads_40 rfl ?_
    refine r_if_eq (tgt := 48) dX12_spreads_41 (by decide) (fun h_1 => ?_) (fun h_1 => ?_)
    · have T := T.1 h_1
      refine r_iconst dX12_spreads_48 (by decide) ?_
      refine r_iadd dX12_spreads_49 ?_
      refine r_iload_n dX12_spreads_50 rfl ?_
      refine n_iast dX12_spreads_51 rfl tX12_28 aX12_28 T.1 (fun M1 hM1 => ?_)
      have T := T.2 M1 hM1
      refine r_aload_n dX12_spreads_52 rfl ?_
      refine r_callVI (md' := mX12_nearest) (as := []) dX12_spreads_53 lX12_407 iX12_nearest rfl rfl rfl (Nat.le_of_ble_eq_true rfl) T (fun r_1 M2 T => ?_)
      refine r_istore dX12_spreads_56 (by decide) rfl ?_
      exact CW_msk [true, false, false, false, true, false, false, false] rfl T
    · have T := T.2 h_1
      refine r_iconst dX12_spreads_44 (by decide) ?_
      refine r_goto (tgt := 49) dX12_spreads_45 (by decide) ?_
      refine r_iadd dX12_spreads_49 ?_
      refine r_iload_n dX12_spreads_50 rfl ?_
      refine n_iast dX12_spreads_51 rfl tX12_28 aX12_28 T.1 (fun M3 hM3 => ?_)
      have T := T.2 M3 hM3
      refine r_aload_n dX12_spreads_52 rfl ?_
      refine r_callVI (md' := mX12_nearest) (as := []) dX12_spreads_53 lX12_407 iX12_nearest rfl rfl rfl (Nat.le_of_ble_eq_true rfl) T (fun r_2 M4 T => ?_)
      refine r_istore dX12_spreads_56 (by decide) rfl ?_
      exact CW_msk [true, false, false, false, true, false, false, false] rfl T
  · have T := T.2 h_2
    refine r_aload_n dX12_spreads_10 rfl ?_
    refine r_getA dX12_spreads_11 fX12_54 rfl uX12_28 ?_
    refine r_iload dX12_spreads_14 rfl ?_
    refine r_ldc (z := 99999) dX12_spreads_16 kX12_188 (by decide) (by decide) ?_
    refine n_iast dX12_spreads_18 rfl tX12_28 aX12_28 T.1 (fun M5 hM5 => ?_)
    have T := T.2 M5 hM5
    refine r_aload_n dX12_spreads_19 rfl ?_
    refine r_getA dX12_spreads_20 fX12_57 rfl uX12_29 ?_
    refine r_iload dX12_spreads_23 rfl ?_
    refine r_iconst dX12_spreads_25 (by decide) ?_
    refine n_zast dX12_spreads_26 rfl tX12_29 aX12_29 T.1 (by decide) (fun M6 hM6 => ?_)
    have T := T.2 M6 hM6
    refine r_iinc dX12_spreads_27 rfl (by decide) rfl ?_
    refine r_goto (tgt := 3) dX12_spreads_30 (by decide) ?_
    exact T
set_option maxRecDepth 20000 in
set_option maxHeartbeats 1000000 in
theorem bX12_spreads_58 {G : Gx} {K : Kx} {n : Nat} {M : Mem} {Q : Mem → Prop}  {x4 : Int}  (T : (x4 < 0 → Q M) ∧ (¬ (x4 < 0) → (0 ≤ x4 ∧ x4 < 32) ∧ (∀ M1 : Mem, M1 = mset M 0 29 x4.toNat 1 → (0 ≤ x4 ∧ x4 < 32) ∧ (CW G K mX12_spreads (n + 1) 83 [some (vO 0), none, none, none, some (vI x4), some (vI (M1 0 28 x4.toNat)), some (vI 0), none] [] M1 (qV Q))))) : CW G K mX12_spreads (n + 1) 58 [some (vO 0), none, none, none, some (vI x4), none, none, none] [] M (qV Q) := by
  refine r_iload dX12_spreads_58 rfl ?_
  refine r_if_lt (tgt := 244) dX12_spreads_60 (by decide) (fun h_1 => ?_) (fun h_1 => ?_)
  · have T := T.1 h_1
    exact r_return dX12_spreads_244 rfl ⟨rfl, T⟩
  · have T := T.2 h_1
    refine r_aload_n dX12_spreads_63 rfl ?_
    refine r_getA dX12_spreads_64 fX12_57 rfl uX12_29 ?_
    refine r_iload dX12_spreads_67 rfl ?_
    refine r_iconst dX12_spreads_69 (by decide) ?_
    refine n_zast dX12_spreads_70 rfl tX12_29 aX12_29 T.1 (by decide) (fun M1 hM1 => ?_)
    have T := T.2 M1 hM1
    refine r_aload_n dX12_spreads_71 rfl ?_
    refine r_getA dX12_spreads_72 fX12_54 rfl uX12_28 ?_
    refine r_iload dX12_spreads_75 rfl ?_
    refine s_iald dX12_spreads_77 rfl tX12_28 aX12_28 T.1 ?_
    have T := T.2
    refine r_istore dX12_spreads_78 (by decide) rfl ?_
    refine r_iconst dX12_spreads_80 (by decide) ?_
    refine r_istore dX12_spreads_81 (by decide) rfl ?_
    exact T
set_option maxRecDepth 20000 in
set_option maxHeartbeats 1000000 in
theorem bX12_spreads_83 {G : Gx} {K : Kx} {n : Nat} {M : Mem} {Q : Mem → Prop}  {x4 : Int} {x5 : Int} {x6 : Int}  (T : (M 0 26 1 ≤ x6 → (¬ wr (Int.tmod x4 2) = 0 → OkI G n mX12_nearest [vO 0] M (fun r_1 M1 => CW G K mX12_spreads (n + 1) 58 [some (vO 0), none, none, none, some (vI r_1), none, none, none] [] M1 (qV Q))) ∧ (wr (Int.tmod x4 2) = 0 → (M 0 26 4 ≤ 0 → OkI G n mX12_nearest [vO 0] M (fun r_2 M2 => CW G K mX12_spreads (n + 1) 58 [some (vO 0), none, none, none, some (vI r_2), none, none, none] [] M2 (qV Q))) ∧ (¬ (M 0 26 4 ≤ 0) → ((M 0 26 6) ≠ 0) ∧ ((1439 < wr ((wr (Int.tdiv (wr (wr (x5 + (M 0 26 6)) - 1)) (M 0 26 6))) * (M 0 26 6)) → OkI G n mX12_nearest [vO 0] M (fun r_3 M3 => CW G K mX12_spreads (n + 1) 58 [some (vO 0), none, none, none, some (vI r_3), none, none, none] [] M3 (qV Q))) ∧ (¬ (1439 < wr ((wr (Int.tdiv (wr (wr (x5 + (M 0 26 6)) - 1)) (M 0 26 6))) * (M 0 26 6))) → OkI G n mX12_topRoom [vO 0] M (fun r_4 M4 => OkV G n mX12_comesTo [vO 0, vI (wr (wr (2 * r_4) + 1)), vI (wr (wr ((wr (Int.tdiv (wr (wr (x5 + (M 0 26 6)) - 1)) (M 0 26 6))) * (M 0 26 6)) + (M4 0 26 4)))] M4 (fun M5 => OkI G n mX12_nearest [vO 0] M5 (fun r_5 M6 => CW G K mX12_spreads (n + 1) 58 [some (vO 0), none, none, none, some (vI r_5), none, none, none] [] M6 (qV Q))))))))) ∧ (¬ (M 0 26 1 ≤ x6) → OkI G n mX12_endOf [vO 0, vI x6, vI (wr (Int.tdiv x4 2))] M (fun r_6 M7 => (r_6 < 0 → CW G K mX12_spreads (n + 1) 83 [some (vO 0), none, none, none, some (vI x4), some (vI x5), some (vI (wr (x6 + 1))), none] [] M7 (qV Q)) ∧ (¬ (r_6 < 0) → OkI G n mX12_opens_ [vO 0, vI x6, vI x5] M7 (fun r_7 M8 => (1439 < r_7 → CW G K mX12_spreads (n + 1) 83 [some (vO 0), none, none, none, some (vI x4), some (vI x5), some (vI (wr (x6 + 1))), none] [] M8 (qV Q)) ∧ (¬ (1439 < r_7) → OkI G n mX12_opens_ [vO 0, vI x6, vI x5] M8 (fun r_8 M9 => OkI G n mX12_wayOf [vO 0, vI x6, vI 2] M9 (fun r_9 M10 => OkV G n mX12_comesTo [vO 0, vI (wr (wr (2 * r_6) + (wr (Int.tmod x4 2)))), vI (wr (r_8 + r_9))] M10 (fun M11 => CW G K mX12_spreads (n + 1) 83 [some (vO 0), none, none, none, some (vI x4), some (vI x5), some (vI (wr (x6 + 1))), none] [] M11 (qV Q)))))))))) : CW G K mX12_spreads (n + 1) 83 [some (vO 0), none, none, none, some (vI x4), some (vI x5), some (vI x6), none] [] M (qV Q) := by
  refine r_iload dX12_spreads_83 rfl ?_
  refine r_aload_n dX12_spreads_85 rfl ?_
  refine r_getA dX12_spreads_86 fX12_48 rfl uX12_26 ?_
  refine r_iconst dX12_spreads_89 (by decide) ?_
  refine s_iald dX12_spreads_90 rfl tX12_26 aX12_26 (by decide) ?_
  refine r_icmp_ge (tgt := 160) dX12_spreads_91 (by decide) (fun h_6 => ?_) (fun h_6 => ?_)
  · have T := T.1 h_6
    refine r_iload dX12_spreads_160 rfl ?_
    refine r_iconst dX12_spreads_162 (by decide) ?_
    refine r_irem dX12_spreads_163 (by decide) ?_
    refine r_if_ne (tgt := 235) dX12_spreads_164 (by decide) (fun h_3 => ?_) (fun h_3 => ?_)
    · have T := T.1 h_3
      refine r_aload_n dX12_spreads_235 rfl ?_
      refine r_callVI (md' := mX12_nearest) (as := []) dX12_spreads_236 lX12_407 iX12_nearest rfl rfl rfl (Nat.le_of_ble_eq_true rfl) T (fun r_1 M1 T => ?_)
      refine r_istore dX12_spreads_239 (by decide) rfl ?_
      refine r_goto (tgt := 58) dX12_spreads_241 (by decide) ?_
      exact CW_msk [true, false, false, false, true, false, false, false] rfl T
    · have T := T.2 h_3
      refine r_aload_n dX12_spreads_167 rfl ?_
      refine r_getA dX12_spreads_168 fX12_48 rfl uX12_26 ?_
      refine r_iconst dX12_spreads_171 (by decide) ?_
      refine s_iald dX12_spreads_172 rfl tX12_26 aX12_26 (by decide) ?_
      refine r_if_le (tgt := 235) dX12_spreads_173 (by decide) (fun h_2 => ?_) (fun h_2 => ?_)
      · have T := T.1 h_2
        refine r_aload_n dX12_spreads_235 rfl ?_
        refine r_callVI (md' := mX12_nearest) (as := []) dX12_spreads_236 lX12_407 iX12_nearest rfl rfl rfl (Nat.le_of_ble_eq_true rfl) T (fun r_2 M2 T => ?_)
        refine r_istore dX12_spreads_239 (by decide) rfl ?_
        refine r_goto (tgt := 58) dX12_spreads_241 (by decide) ?_
        exact CW_msk [true, false, false, false, true, false, false, false] rfl T
      · have T := T.2 h_2
        refine r_iload dX12_spreads_176 rfl ?_
        refine r_aload_n dX12_spreads_178 rfl ?_
        refine r_getA dX12_spreads_179 fX12_48 rfl uX12_26 ?_
        refine r_bipush dX12_spreads_182 (by decide) (by decide) ?_
        refine s_iald dX12_spreads_184 rfl tX12_26 aX12_26 (by decide) ?_
        refine r_iadd dX12_spreads_185 ?_
        refine r_iconst dX12_spreads_186 (by decide) ?_
        refine r_isub dX12_spreads_187 ?_
        refine r_aload_n dX12_spreads_188 rfl ?_
        refine r_getA dX12_spreads_189 fX12_48 rfl uX12_26 ?_
        refine r_bipush dX12_spreads_192 (by decide) (by decide) ?_
        refine s_iald dX12_spreads_194 rfl tX12_26 aX12_26 (by decide) ?_
        refine r_idiv dX12_spreads_195 T.1 ?_
        have T := T.2
        refine r_aload_n dX12_spreads_196 rfl ?_
        refine r_getA dX12_spreads_197 fX12_48 rfl uX12_26 ?_
        refine r_bipush dX12_spreads_200 (by decide) (by decide) ?_
        refine s_iald dX12_spreads_202 rfl tX12_26 aX12_26 (by decide) ?_
        refine r_imul dX12_spreads_203 ?_
        refine r_istore dX12_spreads_204 (by decide) rfl ?_
        refine r_iload dX12_spreads_206 rfl ?_
        refine r_sipush dX12_spreads_208 (by decide) (by decide) ?_
        refine r_icmp_gt (tgt := 235) dX12_spreads_211 (by decide) (fun h_1 => ?_) (fun h_1 => ?_)
        · have T := T.1 h_1
          refine r_aload_n dX12_spreads_235 rfl ?_
          refine r_callVI (md' := mX12_nearest) (as := []) dX12_spreads_236 lX12_407 iX12_nearest rfl rfl rfl (Nat.le_of_ble_eq_true rfl) T (fun r_3 M3 T => ?_)
          refine r_istore dX12_spreads_239 (by decide) rfl ?_
          refine r_goto (tgt := 58) dX12_spreads_241 (by decide) ?_
          exact CW_msk [true, false, false, false, true, false, false, false] rfl T
        · have T := T.2 h_1
          refine r_aload_n dX12_spreads_214 rfl ?_
          refine r_iconst dX12_spreads_215 (by decide) ?_
          refine r_aload_n dX12_spreads_216 rfl ?_
          refine r_callVI (md' := mX12_topRoom) (as := []) dX12_spreads_217 lX12_333 iX12_topRoom rfl rfl rfl (Nat.le_of_ble_eq_true rfl) T (fun r_4 M4 T => ?_)
          refine r_imul dX12_spreads_220 ?_
          refine r_iconst dX12_spreads_221 (by decide) ?_
          refine r_iadd dX12_spreads_222 ?_
          refine r_iload dX12_spreads_223 rfl ?_
          refine r_aload_n dX12_spreads_225 rfl ?_
          refine r_getA dX12_spreads_226 fX12_48 rfl uX12_26 ?_
          refine r_iconst dX12_spreads_229 (by decide) ?_
          refine s_iald dX12_spreads_230 rfl tX12_26 aX12_26 (by decide) ?_
          refine r_iadd dX12_spreads_231 ?_
          refine r_callVV (md' := mX12_comesTo) (as := [vI (wr (wr (2 * r_4) + 1)), vI (wr (wr ((wr (Int.tdiv (wr (wr (x5 + (M 0 26 6)) - 1)) (M 0 26 6))) * (M 0 26 6)) + (M4 0 26 4)))]) dX12_spreads_232 lX12_412 iX12_comesTo rfl rfl rfl (Nat.le_of_ble_eq_true rfl) T (fun M5 T => ?_)
          refine r_aload_n dX12_spreads_235 rfl ?_
          refine r_callVI (md' := mX12_nearest) (as := []) dX12_spreads_236 lX12_407 iX12_nearest rfl rfl rfl (Nat.le_of_ble_eq_true rfl) T (fun r_5 M6 T => ?_)
          refine r_istore dX12_spreads_239 (by decide) rfl ?_
          refine r_goto (tgt := 58) dX12_spreads_241 (by decide) ?_
          exact CW_msk [true, false, false, false, true, false, false, false] rfl T
  · have T := T.2 h_6
    refine r_aload_n dX12_spreads_94 rfl ?_
    refine r_iload dX12_spreads_95 rfl ?_
    refine r_iload dX12_spreads_97 rfl ?_
    refine r_iconst dX12_spreads_99 (by decide) ?_
    refine r_idiv dX12_spreads_100 (by decide) ?_
    refine r_callVI (md' := mX12_endOf) (as := [vI x6, vI (wr (Int.tdiv x4 2))]) dX12_spreads_101 lX12_349 iX12_endOf rfl rfl rfl (Nat.le_of_ble_eq_true rfl) T (fun r_6 M7 T => ?_)
    refine r_istore dX12_spreads_104 (by decide) rfl ?_
    refine r_iload dX12_spreads_106 rfl ?_
    refine r_if_lt (tgt := 154) dX12_spreads_108 (by decide) (fun h_5 => ?_) (fun h_5 => ?_)
    · have T := T.1 h_5
      refine r_iinc dX12_spreads_154 rfl (by decide) rfl ?_
      refine r_goto (tgt := 83) dX12_spreads_157 (by decide) ?_
      exact CW_msk [true, false, false, false, true, true, true, false] rfl T
    · have T := T.2 h_5
      refine r_aload_n dX12_spreads_111 rfl ?_
      refine r_iload dX12_spreads_112 rfl ?_
      refine r_iload dX12_spreads_114 rfl ?_
      refine r_callVI (md' := mX12_opens_) (as := [vI x6, vI x5]) dX12_spreads_116 lX12_410 iX12_opens_ rfl rfl rfl (Nat.le_of_ble_eq_true rfl) T (fun r_7 M8 T => ?_)
      refine r_sipush dX12_spreads_119 (by decide) (by decide) ?_
      refine r_icmp_gt (tgt := 154) dX12_spreads_122 (by decide) (fun h_4 => ?_) (fun h_4 => ?_)
      · have T := T.1 h_4
        refine r_iinc dX12_spreads_154 rfl (by decide) rfl ?_
        refine r_goto (tgt := 83) dX12_spreads_157 (by decide) ?_
        exact CW_msk [true, false, false, false, true, true, true, false] rfl T
      · have T := T.2 h_4
        refine r_aload_n dX12_spreads_125 rfl ?_
        refine r_iconst dX12_spreads_126 (by decide) ?_
        refine r_iload dX12_spreads_127 rfl ?_
        refine r_imul dX12_spreads_129 ?_
        refine r_iload dX12_spreads_130 rfl ?_
        refine r_iconst dX12_spreads_132 (by decide) ?_
        refine r_irem dX12_spreads_133 (by decide) ?_
        refine r_iadd dX12_spreads_134 ?_
        refine r_aload_n dX12_spreads_135 rfl ?_
        refine r_iload dX12_spreads_136 rfl ?_
        refine r_iload dX12_spreads_138 rfl ?_
        refine r_callVI (md' := mX12_opens_) (as := [vI x6, vI x5]) dX12_spreads_140 lX12_410 iX12_opens_ rfl rfl rfl (Nat.le_of_ble_eq_true rfl) T (fun r_8 M9 T => ?_)
        refine r_aload_n dX12_spreads_143 rfl ?_
        refine r_iload dX12_spreads_144 rfl ?_
        refine r_iconst dX12_spreads_146 (by decide) ?_
        refine r_callVI (md' := mX12_wayOf) (as := [vI x6, vI 2]) dX12_spreads_147 lX12_322 iX12_wayOf rfl rfl rfl (Nat.le_of_ble_eq_true rfl) T (fun r_9 M10 T => ?_)
        refine r_iadd dX12_spreads_150 ?_
        refine r_callVV (md' := mX12_comesTo) (as := [vI (wr (wr (2 * r_6) + (wr (Int.tmod x4 2)))), vI (wr (r_8 + r_9))]) dX12_spreads_151 lX12_412 iX12_comesTo rfl rfl rfl (Nat.le_of_ble_eq_true rfl) T (fun M11 T => ?_)
        refine r_iinc dX12_spreads_154 rfl (by decide) rfl ?_
        refine r_goto (tgt := 83) dX12_spreads_157 (by decide) ?_
        exact CW_msk [true, false, false, false, true, true, true, false] rfl T
theorem eX12_spreads {G : Gx} {n : Nat} {M : Mem} {Q : Mem → Prop}  {x1 : Int} {x2 : Int} {x3 : Int} (h : ∀ K : Kx, CW G K mX12_spreads n 0 [some (vO 0), some (vI x1), some (vI x2), some (vI x3), none, none, none, none] [] M (qV Q)) : OkV G n mX12_spreads [vO 0, vI x1, vI x2, vI x3] M Q := Ok_of (by decide) (Nat.le_of_ble_eq_true rfl) rfl h
-- DownOnlyModel soonestTo (I)I
set_option maxRecDepth 20000 in
set_option maxHeartbeats 1000000 in
theorem bX12_soonestTo_0 {G : Gx} {K : Kx} {n : Nat} {M : Mem} {Q : Int → Mem → Prop}  {x1 : Int}  (T : (0 ≤ wr (2 * x1) ∧ wr (2 * x1) < 32) ∧ ((0 ≤ wr (wr (2 * x1) + 1) ∧ wr (wr (2 * x1) + 1) < 32) ∧ ((M 0 28 (wr (wr (2 * x1) + 1)).toNat ≤ M 0 28 (wr (2 * x1)).toNat → (0 ≤ wr (wr (2 * x1) + 1) ∧ wr (wr (2 * x1) + 1) < 32) ∧ ((M 0 28 (wr (wr (2 * x1) + 1)).toNat ≤ 1439 → Q (M 0 28 (wr (wr (2 * x1) + 1)).toNat) M) ∧ (¬ (M 0 28 (wr (wr (2 * x1) + 1)).toNat ≤ 1439) → Q 99999 M))) ∧ (¬ (M 0 28 (wr (wr (2 * x1) + 1)).toNat ≤ M 0 28 (wr (2 * x1)).toNat) → (0 ≤ wr (2 * x1) ∧ wr (2 * x1) < 32) ∧ ((M 0 28 (wr (2 * x1)).toNat ≤ 1439 → Q (M 0 28 (wr (2 * x1)).toNat) M) ∧ (¬ (M 0 28 (wr (2 * x1)).toNat ≤ 1439) → Q 99999 M)))))) : CW G K mX12_soonestTo n 0 [some (vO 0), some (vI x1), none] [] M (qI Q) := by
  refine r_aload_n dX12_soonestTo_0 rfl ?_
  refine r_getA dX12_soonestTo_1 fX12_54 rfl uX12_28 ?_
  refine r_iconst dX12_soonestTo_4 (by decide) ?_
  refine r_iload_n dX12_soonestTo_5 rfl ?_
  refine r_imul dX12_soonestTo_6 ?_
  refine s_iald dX12_soonestTo_7 rfl tX12_28 aX12_28 T.1 ?_
  have T := T.2
  refine r_aload_n dX12_soonestTo_8 rfl ?_
  refine r_getA dX12_soonestTo_9 fX12_54 rfl uX12_28 ?_
  refine r_iconst dX12_soonestTo_12 (by decide) ?_
  refine r_iload_n dX12_soonestTo_13 rfl ?_
  refine r_imul dX12_soonestTo_14 ?_
  refine r_iconst dX12_soonestTo_15 (by decide) ?_
  refine r_iadd dX12_soonestTo_16 ?_
  refine s_iald dX12_soonestTo_17 rfl tX12_28 aX12_28 T.1 ?_
  have T := T.2
  refine r_icmp_ge (tgt := 32) dX12_soonestTo_18 (by decide) (fun h_3 => ?_) (fun h_3 => ?_)
  · have T := T.1 h_3
    refine r_aload_n dX12_soonestTo_32 rfl ?_
    refine r_getA dX12_soonestTo_33 fX12_54 rfl uX12_28 ?_
    refine r_iconst dX12_soonestTo_36 (by decide) ?_
    refine r_iload_n dX12_soonestTo_37 rfl ?_
    refine r_imul dX12_soonestTo_38 ?_
    refine r_iconst dX12_soonestTo_39 (by decide) ?_
    refine r_iadd dX12_soonestTo_40 ?_
    refine s_iald dX12_soonestTo_41 rfl tX12_28 aX12_28 T.1 ?_
    have T := T.2
    refine r_istore_n dX12_soonestTo_42 (by decide) rfl ?_
    refine r_iload_n dX12_soonestTo_43 rfl ?_
    refine r_sipush dX12_soonestTo_44 (by decide) (by decide) ?_
    refine r_icmp_le (tgt := 55) dX12_soonestTo_47 (by decide) (fun h_1 => ?_) (fun h_1 => ?_)
    · have T := T.1 h_1
      refine r_iload_n dX12_soonestTo_55 rfl ?_
      exact r_ireturn dX12_soonestTo_56 rfl ⟨_, rfl, T⟩
    · have T := T.2 h_1
      refine r_ldc (z := 99999) dX12_soonestTo_50 kX12_188 (by decide) (by decide) ?_
      refine r_goto (tgt := 56) dX12_soonestTo_52 (by decide) ?_
      exact r_ireturn dX12_soonestTo_56 rfl ⟨_, rfl, T⟩
  · have T := T.2 h_3
    refine r_aload_n dX12_soonestTo_21 rfl ?_
    refine r_getA dX12_soonestTo_22 fX12_54 rfl uX12_28 ?_
    refine r_iconst dX12_soonestTo_25 (by decide) ?_
    refine r_iload_n dX12_soonestTo_26 rfl ?_
    refine r_imul dX12_soonestTo_27 ?_
    refine s_iald dX12_soonestTo_28 rfl tX12_28 aX12_28 T.1 ?_
    have T := T.2
    refine r_goto (tgt := 42) dX12_soonestTo_29 (by decide) ?_
    refine r_istore_n dX12_soonestTo_42 (by decide) rfl ?_
    refine r_iload_n dX12_soonestTo_43 rfl ?_
    refine r_sipush dX12_soonestTo_44 (by decide) (by decide) ?_
    refine r_icmp_le (tgt := 55) dX12_soonestTo_47 (by decide) (fun h_2 => ?_) (fun h_2 => ?_)
    · have T := T.1 h_2
      refine r_iload_n dX12_soonestTo_55 rfl ?_
      exact r_ireturn dX12_soonestTo_56 rfl ⟨_, rfl, T⟩
    · have T := T.2 h_2
      refine r_ldc (z := 99999) dX12_soonestTo_50 kX12_188 (by decide) (by decide) ?_
      refine r_goto (tgt := 56) dX12_soonestTo_52 (by decide) ?_
      exact r_ireturn dX12_soonestTo_56 rfl ⟨_, rfl, T⟩
theorem eX12_soonestTo {G : Gx} {n : Nat} {M : Mem} {Q : Int → Mem → Prop}  {x1 : Int} (h : ∀ K : Kx, CW G K mX12_soonestTo n 0 [some (vO 0), some (vI x1), none] [] M (qI Q)) : OkI G n mX12_soonestTo [vO 0, vI x1] M Q := Ok_of (by decide) (Nat.le_of_ble_eq_true rfl) rfl h
-- DownOnlyModel soonest (IIIZ)I
set_option maxRecDepth 20000 in
set_option maxHeartbeats 1000000 in
theorem bX12_soonest_0 {G : Gx} {K : Kx} {n : Nat} {M : Mem} {Q : Int → Mem → Prop}  {x1 : Int} {x2 : Int} {x3 : Int} {x4 : Int}  (T : OkI G n mX12_isRoom [vO 0, vI x1] M (fun r_1 M1 => (r_1 = 0 → Q (-1) M1) ∧ (¬ (r_1 = 0) → OkI G n mX12_isMinute [vI x2] M1 (fun r_2 M2 => (r_2 = 0 → Q (-1) M2) ∧ (¬ (r_2 = 0) → OkI G n mX12_isRoom [vO 0, vI x3] M2 (fun r_3 M3 => (¬ r_3 = 0 → OkV G n mX12_spreads [vO 0, vI x1, vI x2, vI x4] M3 (fun M4 => OkI G n mX12_soonestTo [vO 0, vI x3] M4 (fun r_4 M5 => (¬ r_4 = 99999 → OkI G n mX12_soonestTo [vO 0, vI x3] M5 (fun r_5 M6 => Q r_5 M6)) ∧ (r_4 = 99999 → Q (-2) M5)))) ∧ (r_3 = 0 → Q (-1) M3))))))) : CW G K mX12_soonest (n + 1) 0 [some (vO 0), some (vI x1), some (vI x2), some (vI x3), some (vI x4)] [] M (qI Q) := by
  refine r_aload_n dX12_soonest_0 rfl ?_
  refine r_iload_n dX12_soonest_1 rfl ?_
  refine r_callVI (md' := mX12_isRoom) (as := [vI x1]) dX12_soonest_2 lX12_325 iX12_isRoom rfl rfl rfl (Nat.le_of_ble_eq_true rfl) T (fun r_1 M1 T => ?_)
  refine r_if_eq (tgt := 23) dX12_soonest_5 (by decide) (fun h_4 => ?_) (fun h_4 => ?_)
  · have T := T.1 h_4
    refine r_iconst dX12_soonest_23 (by decide) ?_
    exact r_ireturn dX12_soonest_24 rfl ⟨_, rfl, T⟩
  · have T := T.2 h_4
    refine r_iload_n dX12_soonest_8 rfl ?_
    refine r_callSI (md' := mX12_isMinute) (as := [vI x2]) dX12_soonest_9 lX12_415 iX12_isMinute rfl rfl (Nat.le_of_ble_eq_true rfl) T (fun r_2 M2 T => ?_)
    refine r_if_eq (tgt := 23) dX12_soonest_12 (by decide) (fun h_3 => ?_) (fun h_3 => ?_)
    · have T := T.1 h_3
      refine r_iconst dX12_soonest_23 (by decide) ?_
      exact r_ireturn dX12_soonest_24 rfl ⟨_, rfl, T⟩
    · have T := T.2 h_3
      refine r_aload_n dX12_soonest_15 rfl ?_
      refine r_iload_n dX12_soonest_16 rfl ?_
      refine r_callVI (md' := mX12_isRoom) (as := [vI x3]) dX12_soonest_17 lX12_325 iX12_isRoom rfl rfl rfl (Nat.le_of_ble_eq_true rfl) T (fun r_3 M3 T => ?_)
      refine r_if_ne (tgt := 25) dX12_soonest_20 (by decide) (fun h_2 => ?_) (fun h_2 => ?_)
      · have T := T.1 h_2
        refine r_aload_n dX12_soonest_25 rfl ?_
        refine r_iload_n dX12_soonest_26 rfl ?_
        refine r_iload_n dX12_soonest_27 rfl ?_
        refine r_iload dX12_soonest_28 rfl ?_
        refine r_callVV (md' := mX12_spreads) (as := [vI x1, vI x2, vI x4]) dX12_soonest_30 lX12_418 iX12_spreads rfl rfl rfl (Nat.le_of_ble_eq_true rfl) T (fun M4 T => ?_)
        refine r_aload_n dX12_soonest_33 rfl ?_
        refine r_iload_n dX12_soonest_34 rfl ?_
        refine r_callVI (md' := mX12_soonestTo) (as := [vI x3]) dX12_soonest_35 lX12_422 iX12_soonestTo rfl rfl rfl (Nat.le_of_ble_eq_true rfl) T (fun r_4 M5 T => ?_)
        refine r_ldc (z := 99999) dX12_soonest_38 kX12_188 (by decide) (by decide) ?_
        refine r_icmp_ne (tgt := 48) dX12_soonest_40 (by decide) (fun h_1 => ?_) (fun h_1 => ?_)
        · have T := T.1 h_1
          refine r_aload_n dX12_soonest_48 rfl ?_
          refine r_iload_n dX12_soonest_49 rfl ?_
          refine r_callVI (md' := mX12_soonestTo) (as := [vI x3]) dX12_soonest_50 lX12_422 iX12_soonestTo rfl rfl rfl (Nat.le_of_ble_eq_true rfl) T (fun r_5 M6 T => ?_)
          exact r_ireturn dX12_soonest_53 rfl ⟨_, rfl, T⟩
        · have T := T.2 h_1
          refine r_bipush dX12_soonest_43 (by decide) (by decide) ?_
          refine r_goto (tgt := 53) dX12_soonest_45 (by decide) ?_
          exact r_ireturn dX12_soonest_53 rfl ⟨_, rfl, T⟩
      · have T := T.2 h_2
        refine r_iconst dX12_soonest_23 (by decide) ?_
        exact r_ireturn dX12_soonest_24 rfl ⟨_, rfl, T⟩
theorem eX12_soonest {G : Gx} {n : Nat} {M : Mem} {Q : Int → Mem → Prop}  {x1 : Int} {x2 : Int} {x3 : Int} {x4 : Int} (h : ∀ K : Kx, CW G K mX12_soonest n 0 [some (vO 0), some (vI x1), some (vI x2), some (vI x3), some (vI x4)] [] M (qI Q)) : OkI G n mX12_soonest [vO 0, vI x1, vI x2, vI x3, vI x4] M Q := Ok_of (by decide) (Nat.le_of_ble_eq_true rfl) rfl h
-- DownOnlyModel still (IIZ)I
set_option maxRecDepth 20000 in
set_option maxHeartbeats 1000000 in
theorem bX12_still_0 {G : Gx} {K : Kx} {n : Nat} {M : Mem} {Q : Int → Mem → Prop}  {x1 : Int} {x2 : Int} {x3 : Int}  (T : OkI G n mX12_isRoom [vO 0, vI x1] M (fun r_1 M1 => (r_1 = 0 → Q (-1) M1) ∧ (¬ (r_1 = 0) → OkI G n mX12_isMinute [vI x2] M1 (fun r_2 M2 => (¬ r_2 = 0 → OkV G n mX12_spreads [vO 0, vI x1, vI x2, vI x3] M2 (fun M3 => CW G K mX12_still (n + 1) 30 [some (vO 0), none, none, none, some (vI 0), some (vI 0)] [] M3 (qI Q))) ∧ (r_2 = 0 → Q (-1) M2))))) : CW G K mX12_still (n + 1) 0 [some (vO 0), some (vI x1), some (vI x2), some (vI x3), none, none] [] M (qI Q) := by
  refine r_aload_n dX12_still_0 rfl ?_
  refine r_iload_n dX12_still_1 rfl ?_
  refine r_callVI (md' := mX12_isRoom) (as := [vI x1]) dX12_still_2 lX12_325 iX12_isRoom rfl rfl rfl (Nat.le_of_ble_eq_true rfl) T (fun r_1 M1 T => ?_)
  refine r_if_eq (tgt := 15) dX12_still_5 (by decide) (fun h_2 => ?_) (fun h_2 => ?_)
  · have T := T.1 h_2
    refine r_iconst dX12_still_15 (by decide) ?_
    exact r_ireturn dX12_still_16 rfl ⟨_, rfl, T⟩
  · have T := T.2 h_2
    refine r_iload_n dX12_still_8 rfl ?_
    refine r_callSI (md' := mX12_isMinute) (as := [vI x2]) dX12_still_9 lX12_415 iX12_isMinute rfl rfl (Nat.le_of_ble_eq_true rfl) T (fun r_2 M2 T => ?_)
    refine r_if_ne (tgt := 17) dX12_still_12 (by decide) (fun h_1 => ?_) (fun h_1 => ?_)
    · have T := T.1 h_1
      refine r_aload_n dX12_still_17 rfl ?_
      refine r_iload_n dX12_still_18 rfl ?_
      refine r_iload_n dX12_still_19 rfl ?_
      refine r_iload_n dX12_still_20 rfl ?_
      refine r_callVV (md' := mX12_spreads) (as := [vI x1, vI x2, vI x3]) dX12_still_21 lX12_418 iX12_spreads rfl rfl rfl (Nat.le_of_ble_eq_true rfl) T (fun M3 T => ?_)
      refine r_iconst dX12_still_24 (by decide) ?_
      refine r_istore dX12_still_25 (by decide) rfl ?_
      refine r_iconst dX12_still_27 (by decide) ?_
      refine r_istore dX12_still_28 (by decide) rfl ?_
      exact CW_msk [true, false, false, false, true, true] rfl T
    · have T := T.2 h_1
      refine r_iconst dX12_still_15 (by decide) ?_
      exact r_ireturn dX12_still_16 rfl ⟨_, rfl, T⟩
set_option maxRecDepth 20000 in
set_option maxHeartbeats 1000000 in
theorem bX12_still_30 {G : Gx} {K : Kx} {n : Nat} {M : Mem} {Q : Int → Mem → Prop}  {x4 : Int} {x5 : Int}  (T : (M 0 26 0 ≤ x5 → Q x4 M) ∧ (¬ (M 0 26 0 ≤ x5) → OkI G n mX12_soonestTo [vO 0, vI x5] M (fun r_1 M1 => (99999 ≤ r_1 → CW G K mX12_still (n + 1) 30 [some (vO 0), none, none, none, some (vI (bOr x4 0)), some (vI (wr (x5 + 1)))] [] M1 (qI Q)) ∧ (¬ (99999 ≤ r_1) → CW G K mX12_still (n + 1) 30 [some (vO 0), none, none, none, some (vI (bOr x4 (bShl 1 x5))), some (vI (wr (x5 + 1)))] [] M1 (qI Q))))) : CW G K mX12_still (n + 1) 30 [some (vO 0), none, none, none, some (vI x4), some (vI x5)] [] M (qI Q) := by
  refine r_iload dX12_still_30 rfl ?_
  refine r_aload_n dX12_still_32 rfl ?_
  refine r_getA dX12_still_33 fX12_48 rfl uX12_26 ?_
  refine r_iconst dX12_still_36 (by decide) ?_
  refine s_iald dX12_still_37 rfl tX12_26 aX12_26 (by decide) ?_
  refine r_icmp_ge (tgt := 71) dX12_still_38 (by decide) (fun h_2 => ?_) (fun h_2 => ?_)
  · have T := T.1 h_2
    refine r_iload dX12_still_71 rfl ?_
    exact r_ireturn dX12_still_73 rfl ⟨_, rfl, T⟩
  · have T := T.2 h_2
    refine r_iload dX12_still_41 rfl ?_
    refine r_aload_n dX12_still_43 rfl ?_
    refine r_iload dX12_still_44 rfl ?_
    refine r_callVI (md' := mX12_soonestTo) (as := [vI x5]) dX12_still_46 lX12_422 iX12_soonestTo rfl rfl rfl (Nat.le_of_ble_eq_true rfl) T (fun r_1 M1 T => ?_)
    refine r_ldc (z := 99999) dX12_still_49 kX12_188 (by decide) (by decide) ?_
    refine r_icmp_ge (tgt := 61) dX12_still_51 (by decide) (fun h_1 => ?_) (fun h_1 => ?_)
    · have T := T.1 h_1
      refine r_iconst dX12_still_61 (by decide) ?_
      refine r_ior dX12_still_62 ?_
      refine r_istore dX12_still_63 (by decide) rfl ?_
      refine r_iinc dX12_still_65 rfl (by decide) rfl ?_
      refine r_goto (tgt := 30) dX12_still_68 (by decide) ?_
      exact T
    · have T := T.2 h_1
      refine r_iconst dX12_still_54 (by decide) ?_
      refine r_iload dX12_still_55 rfl ?_
      refine r_ishl dX12_still_57 ?_
      refine r_goto (tgt := 62) dX12_still_58 (by decide) ?_
      refine r_ior dX12_still_62 ?_
      refine r_istore dX12_still_63 (by decide) rfl ?_
      refine r_iinc dX12_still_65 rfl (by decide) rfl ?_
      refine r_goto (tgt := 30) dX12_still_68 (by decide) ?_
      exact T
theorem eX12_still {G : Gx} {n : Nat} {M : Mem} {Q : Int → Mem → Prop}  {x1 : Int} {x2 : Int} {x3 : Int} (h : ∀ K : Kx, CW G K mX12_still n 0 [some (vO 0), some (vI x1), some (vI x2), some (vI x3), none, none] [] M (qI Q)) : OkI G n mX12_still [vO 0, vI x1, vI x2, vI x3] M Q := Ok_of (by decide) (Nat.le_of_ble_eq_true rfl) rfl h
-- DownOnlyModel descends (I)V
set_option maxRecDepth 20000 in
set_option maxHeartbeats 1000000 in
theorem bX12_descends_0 {G : Gx} {K : Kx} {n : Nat} {M : Mem} {Q : Mem → Prop}  {x1 : Int}  (T : CW G K mX12_descends (n + 1) 2 [some (vO 0), some (vI x1), some (vI 0), none, none, none] [] M (qV Q)) : CW G K mX12_descends (n + 1) 0 [some (vO 0), some (vI x1), none, none, none, none] [] M (qV Q) := by
  refine r_iconst dX12_descends_0 (by decide) ?_
  refine r_istore_n dX12_descends_1 (by decide) rfl ?_
  exact T
set_option maxRecDepth 20000 in
set_option maxHeartbeats 1000000 in
theorem bX12_descends_2 {G : Gx} {K : Kx} {n : Nat} {M : Mem} {Q : Mem → Prop}  {x1 : Int} {x2 : Int}  (T : (16 ≤ x2 → (0 ≤ wr (12 + x1) ∧ wr (12 + x1) < 328) ∧ (CW G K mX12_descends (n + 1) 58 [some (vO 0), none, some (vI (wr (M 0 26 (wr (12 + x1)).toNat + 1))), none, none, none] [] M (qV Q))) ∧ (¬ (16 ≤ x2) → (¬ x2 = x1 → CW G K mX12_descends (n + 1) 23 [some (vO 0), some (vI x1), some (vI x2), none, none, none] [vI 0, vI x2, vA 0 30] M (qV Q)) ∧ (x2 = x1 → CW G K mX12_descends (n + 1) 23 [some (vO 0), some (vI x1), some (vI x2), none, none, none] [vI 1, vI x2, vA 0 30] M (qV Q)))) : CW G K mX12_descends (n + 1) 2 [some (vO 0), some (vI x1), some (vI x2), none, none, none] [] M (qV Q) := by
  refine r_iload_n dX12_descends_2 rfl ?_
  refine r_bipush dX12_descends_3 (by decide) (by decide) ?_
  refine r_icmp_ge (tgt := 46) dX12_descends_5 (by decide) (fun h_2 => ?_) (fun h_2 => ?_)
  · have T := T.1 h_2
    refine r_aload_n dX12_descends_46 rfl ?_
    refine r_getA dX12_descends_47 fX12_48 rfl uX12_26 ?_
    refine r_bipush dX12_descends_50 (by decide) (by decide) ?_
    refine r_iload_n dX12_descends_52 rfl ?_
    refine r_iadd dX12_descends_53 ?_
    refine s_iald dX12_descends_54 rfl tX12_26 aX12_26 T.1 ?_
    have T := T.2
    refine r_iconst dX12_descends_55 (by decide) ?_
    refine r_iadd dX12_descends_56 ?_
    refine r_istore_n dX12_descends_57 (by decide) rfl ?_
    exact CW_msk [true, false, true, false, false, false] rfl T
  · have T := T.2 h_2
    refine r_aload_n dX12_descends_8 rfl ?_
    refine r_getA dX12_descends_9 fX12_61 rfl uX12_30 ?_
    refine r_iload_n dX12_descends_12 rfl ?_
    refine r_iload_n dX12_descends_13 rfl ?_
    refine r_iload_n dX12_descends_14 rfl ?_
    refine r_icmp_ne (tgt := 22) dX12_descends_15 (by decide) (fun h_1 => ?_) (fun h_1 => ?_)
    · have T := T.1 h_1
      refine r_iconst dX12_descends_22 (by decide) ?_
      exact T
    · have T := T.2 h_1
      refine r_iconst dX12_descends_18 (by decide) ?_
      refine r_goto (tgt := 23) dX12_descends_19 (by decide) ?_
      exact T
set_option maxRecDepth 20000 in
set_option maxHeartbeats 1000000 in
theorem bX12_descends_58 {G : Gx} {K : Kx} {n : Nat} {M : Mem} {Q : Mem → Prop}  {x2 : Int}  (T : (40 < x2 → Q M) ∧ (¬ (40 < x2) → CW G K mX12_descends (n + 1) 66 [some (vO 0), none, some (vI x2), some (vI 0), none, none] [] M (qV Q))) : CW G K mX12_descends (n + 1) 58 [some (vO 0), none, some (vI x2), none, none, none] [] M (qV Q) := by
  refine r_iload_n dX12_descends_58 rfl ?_
  refine r_bipush dX12_descends_59 (by decide) (by decide) ?_
  refine r_icmp_gt (tgt := 235) dX12_descends_61 (by decide) (fun h_1 => ?_) (fun h_1 => ?_)
  · have T := T.1 h_1
    exact r_return dX12_descends_235 rfl ⟨rfl, T⟩
  · have T := T.2 h_1
    refine r_iconst dX12_descends_64 (by decide) ?_
    refine r_istore_n dX12_descends_65 (by decide) rfl ?_
    exact T
set_option maxRecDepth 20000 in
set_option maxHeartbeats 1000000 in
theorem bX12_descends_23 {G : Gx} {K : Kx} {n : Nat} {M : Mem} {Q : Mem → Prop}  {x1 : Int} {x2 : Int} {z0 : Int} {z1 : Int}  (T : (0 ≤ z1 ∧ z1 < 16) ∧ (∀ M1 : Mem, M1 = mset M 0 30 z1.toNat z0 → (¬ x2 = x1 → (0 ≤ x2 ∧ x2 < 16) ∧ (∀ M2 : Mem, M2 = mset M1 0 31 x2.toNat (-1) → CW G K mX12_descends (n + 1) 2 [some (vO 0), some (vI x1), some (vI (wr (x2 + 1))), none, none, none] [] M2 (qV Q))) ∧ (x2 = x1 → (0 ≤ x2 ∧ x2 < 16) ∧ (∀ M3 : Mem, M3 = mset M1 0 31 x2.toNat 0 → CW G K mX12_descends (n + 1) 2 [some (vO 0), some (vI x1), some (vI (wr (x2 + 1))), none, none, none] [] M3 (qV Q))))) : CW G K mX12_descends (n + 1) 23 [some (vO 0), some (vI x1), some (vI x2), none, none, none] [vI z0, vI z1, vA 0 30] M (qV Q) := by
  refine n_iast dX12_descends_23 rfl tX12_30 aX12_30 T.1 (fun M1 hM1 => ?_)
  have T := T.2 M1 hM1
  refine r_aload_n dX12_descends_24 rfl ?_
  refine r_getA dX12_descends_25 fX12_64 rfl uX12_31 ?_
  refine r_iload_n dX12_descends_28 rfl ?_
  refine r_iload_n dX12_descends_29 rfl ?_
  refine r_iload_n dX12_descends_30 rfl ?_
  refine r_icmp_ne (tgt := 38) dX12_descends_31 (by decide) (fun h_1 => ?_) (fun h_1 => ?_)
  · have T := T.1 h_1
    refine r_iconst dX12_descends_38 (by decide) ?_
    refine n_iast dX12_descends_39 rfl tX12_31 aX12_31 T.1 (fun M2 hM2 => ?_)
    have T := T.2 M2 hM2
    refine r_iinc dX12_descends_40 rfl (by decide) rfl ?_
    refine r_goto (tgt := 2) dX12_descends_43 (by decide) ?_
    exact T
  · have T := T.2 h_1
    refine r_iconst dX12_descends_34 (by decide) ?_
    refine r_goto (tgt := 39) dX12_descends_35 (by decide) ?_
    refine n_iast dX12_descends_39 rfl tX12_31 aX12_31 T.1 (fun M3 hM3 => ?_)
    have T := T.2 M3 hM3
    refine r_iinc dX12_descends_40 rfl (by decide) rfl ?_
    refine r_goto (tgt := 2) dX12_descends_43 (by decide) ?_
    exact T
set_option maxRecDepth 20000 in
set_option maxHeartbeats 1000000 in
theorem bX12_descends_66 {G : Gx} {K : Kx} {n : Nat} {M : Mem} {Q : Mem → Prop}  {x2 : Int} {x3 : Int}  (T : (M 0 26 0 ≤ x3 → CW G K mX12_descends (n + 1) 58 [some (vO 0), none, some (vI (wr (x2 + 1))), none, none, none] [] M (qV Q)) ∧ (¬ (M 0 26 0 ≤ x3) → CW G K mX12_descends (n + 1) 79 [some (vO 0), none, some (vI x2), some (vI x3), some (vI 0), none] [] M (qV Q))) : CW G K mX12_descends (n + 1) 66 [some (vO 0), none, some (vI x2), some (vI x3), none, none] [] M (qV Q) := by
  refine r_iload_n dX12_descends_66 rfl ?_
  refine r_aload_n dX12_descends_67 rfl ?_
  refine r_getA dX12_descends_68 fX12_48 rfl uX12_26 ?_
  refine r_iconst dX12_descends_71 (by decide) ?_
  refine s_iald dX12_descends_72 rfl tX12_26 aX12_26 (by decide) ?_
  refine r_icmp_ge (tgt := 229) dX12_descends_73 (by decide) (fun h_1 => ?_) (fun h_1 => ?_)
  · have T := T.1 h_1
    refine r_iinc dX12_descends_229 rfl (by decide) rfl ?_
    refine r_goto (tgt := 58) dX12_descends_232 (by decide) ?_
    exact CW_msk [true, false, true, false, false, false] rfl T
  · have T := T.2 h_1
    refine r_iconst dX12_descends_76 (by decide) ?_
    refine r_istore dX12_descends_77 (by decide) rfl ?_
    exact T
set_option maxRecDepth 20000 in
set_option maxHeartbeats 1000000 in
theorem bX12_descends_79 {G : Gx} {K : Kx} {n : Nat} {M : Mem} {Q : Mem → Prop}  {x2 : Int} {x3 : Int} {x4 : Int}  (T : (M 0 26 1 ≤ x4 → CW G K mX12_descends (n + 1) 66 [some (vO 0), none, some (vI x2), some (vI (wr (x3 + 1))), none, none] [] M (qV Q)) ∧ (¬ (M 0 26 1 ≤ x4) → (0 ≤ wr (12 + x3) ∧ wr (12 + x3) < 328) ∧ ((¬ M 0 26 (wr (12 + x3)).toNat = x2 → CW G K mX12_descends (n + 1) 66 [some (vO 0), none, some (vI x2), some (vI (wr (x3 + 1))), none, none] [] M (qV Q)) ∧ (M 0 26 (wr (12 + x3)).toNat = x2 → OkI G n mX12_wayOf [vO 0, vI x4, vI 1] M (fun r_1 M1 => OkI G n mX12_wayOf [vO 0, vI x4, vI 3] M1 (fun r_2 M2 => (r_2 = 1 → CW G K mX12_descends (n + 1) 79 [some (vO 0), none, some (vI x2), some (vI x3), some (vI (wr (x4 + 1))), none] [] M2 (qV Q)) ∧ (¬ (r_2 = 1) → OkI G n mX12_wayOf [vO 0, vI x4, vI 0] M2 (fun r_3 M3 => (¬ r_3 = x3 → CW G K mX12_descends (n + 1) 79 [some (vO 0), none, some (vI x2), some (vI x3), some (vI (wr (x4 + 1))), none] [] M3 (qV Q)) ∧ (r_3 = x3 → (0 ≤ r_1 ∧ r_1 < 16) ∧ ((0 ≤ M3 0 31 r_1.toNat → (0 ≤ x3 ∧ x3 < 16) ∧ ((0 ≤ r_1 ∧ r_1 < 16) ∧ ((wr (M3 0 30 x3.toNat + (M3 0 30 r_1.toNat)) ≤ 1000000 → (0 ≤ x3 ∧ x3 < 16) ∧ ((0 ≤ r_1 ∧ r_1 < 16) ∧ (CW G K mX12_descends (n + 1) 192 [some (vO 0), none, some (vI x2), some (vI x3), some (vI x4), some (vI r_1)] [vI (wr (M3 0 30 x3.toNat + (M3 0 30 r_1.toNat))), vI x3, vA 0 30] M3 (qV Q)))) ∧ (¬ (wr (M3 0 30 x3.toNat + (M3 0 30 r_1.toNat)) ≤ 1000000) → CW G K mX12_descends (n + 1) 192 [some (vO 0), none, some (vI x2), some (vI x3), some (vI x4), some (vI r_1)] [vI 1000000, vI x3, vA 0 30] M3 (qV Q))))) ∧ (¬ (0 ≤ M3 0 31 r_1.toNat) → CW G K mX12_descends (n + 1) 79 [some (vO 0), none, some (vI x2), some (vI x3), some (vI (wr (x4 + 1))), none] [] M3 (qV Q)))))))))))) : CW G K mX12_descends (n + 1) 79 [some (vO 0), none, some (vI x2), some (vI x3), some (vI x4), none] [] M (qV Q) := by
  refine r_iload dX12_descends_79 rfl ?_
  refine r_aload_n dX12_descends_81 rfl ?_
  refine r_getA dX12_descends_82 fX12_48 rfl uX12_26 ?_
  refine r_iconst dX12_descends_85 (by decide) ?_
  refine s_iald dX12_descends_86 rfl tX12_26 aX12_26 (by decide) ?_
  refine r_icmp_ge (tgt := 223) dX12_descends_87 (by decide) (fun h_6 => ?_) (fun h_6 => ?_)
  · have T := T.1 h_6
    refine r_iinc dX12_descends_223 rfl (by decide) rfl ?_
    refine r_goto (tgt := 66) dX12_descends_226 (by decide) ?_
    exact CW_msk [true, false, true, true, false, false] rfl T
  · have T := T.2 h_6
    refine r_aload_n dX12_descends_90 rfl ?_
    refine r_getA dX12_descends_91 fX12_48 rfl uX12_26 ?_
    refine r_bipush dX12_descends_94 (by decide) (by decide) ?_
    refine r_iload_n dX12_descends_96 rfl ?_
    refine r_iadd dX12_descends_97 ?_
    refine s_iald dX12_descends_98 rfl tX12_26 aX12_26 T.1 ?_
    have T := T.2
    refine r_iload_n dX12_descends_99 rfl ?_
    refine r_icmp_ne (tgt := 223) dX12_descends_100 (by decide) (fun h_5 => ?_) (fun h_5 => ?_)
    · have T := T.1 h_5
      refine r_iinc dX12_descends_223 rfl (by decide) rfl ?_
      refine r_goto (tgt := 66) dX12_descends_226 (by decide) ?_
      exact CW_msk [true, false, true, true, false, false] rfl T
    · have T := T.2 h_5
      refine r_aload_n dX12_descends_103 rfl ?_
      refine r_iload dX12_descends_104 rfl ?_
      refine r_iconst dX12_descends_106 (by decide) ?_
      refine r_callVI (md' := mX12_wayOf) (as := [vI x4, vI 1]) dX12_descends_107 lX12_322 iX12_wayOf rfl rfl rfl (Nat.le_of_ble_eq_true rfl) T (fun r_1 M1 T => ?_)
      refine r_istore dX12_descends_110 (by decide) rfl ?_
      refine r_aload_n dX12_descends_112 rfl ?_
      refine r_iload dX12_descends_113 rfl ?_
      refine r_iconst dX12_descends_115 (by decide) ?_
      refine r_callVI (md' := mX12_wayOf) (as := [vI x4, vI 3]) dX12_descends_116 lX12_322 iX12_wayOf rfl rfl rfl (Nat.le_of_ble_eq_true rfl) T (fun r_2 M2 T => ?_)
      refine r_iconst dX12_descends_119 (by decide) ?_
      refine r_icmp_eq (tgt := 217) dX12_descends_120 (by decide) (fun h_4 => ?_) (fun h_4 => ?_)
      · have T := T.1 h_4
        refine r_iinc dX12_descends_217 rfl (by decide) rfl ?_
        refine r_goto (tgt := 79) dX12_descends_220 (by decide) ?_
        exact CW_msk [true, false, true, true, true, false] rfl T
      · have T := T.2 h_4
        refine r_aload_n dX12_descends_123 rfl ?_
        refine r_iload dX12_descends_124 rfl ?_
        refine r_iconst dX12_descends_126 (by decide) ?_
        refine r_callVI (md' := mX12_wayOf) (as := [vI x4, vI 0]) dX12_descends_127 lX12_322 iX12_wayOf rfl rfl rfl (Nat.le_of_ble_eq_true rfl) T (fun r_3 M3 T => ?_)
        refine r_iload_n dX12_descends_130 rfl ?_
        refine r_icmp_ne (tgt := 217) dX12_descends_131 (by decide) (fun h_3 => ?_) (fun h_3 => ?_)
        · have T := T.1 h_3
          refine r_iinc dX12_descends_217 rfl (by decide) rfl ?_
          refine r_goto (tgt := 79) dX12_descends_220 (by decide) ?_
          exact CW_msk [true, false, true, true, true, false] rfl T
        · have T := T.2 h_3
          refine r_aload_n dX12_descends_134 rfl ?_
          refine r_getA dX12_descends_135 fX12_64 rfl uX12_31 ?_
          refine r_iload dX12_descends_138 rfl ?_
          refine s_iald dX12_descends_140 rfl tX12_31 aX12_31 T.1 ?_
          have T := T.2
          refine r_if_ge (tgt := 147) dX12_descends_141 (by decide) (fun h_2 => ?_) (fun h_2 => ?_)
          · have T := T.1 h_2
            refine r_aload_n dX12_descends_147 rfl ?_
            refine r_getA dX12_descends_148 fX12_61 rfl uX12_30 ?_
            refine r_iload_n dX12_descends_151 rfl ?_
            refine r_aload_n dX12_descends_152 rfl ?_
            refine r_getA dX12_descends_153 fX12_61 rfl uX12_30 ?_
            refine r_iload_n dX12_descends_156 rfl ?_
            refine s_iald dX12_descends_157 rfl tX12_30 aX12_30 T.1 ?_
            have T := T.2
            refine r_aload_n dX12_descends_158 rfl ?_
            refine r_getA dX12_descends_159 fX12_61 rfl uX12_30 ?_
            refine r_iload dX12_descends_162 rfl ?_
            refine s_iald dX12_descends_164 rfl tX12_30 aX12_30 T.1 ?_
            have T := T.2
            refine r_iadd dX12_descends_165 ?_
            refine r_ldcw (z := 1000000) dX12_descends_166 kX12_425 (by decide) (by decide) ?_
            refine r_icmp_le (tgt := 178) dX12_descends_169 (by decide) (fun h_1 => ?_) (fun h_1 => ?_)
            · have T := T.1 h_1
              refine r_aload_n dX12_descends_178 rfl ?_
              refine r_getA dX12_descends_179 fX12_61 rfl uX12_30 ?_
              refine r_iload_n dX12_descends_182 rfl ?_
              refine s_iald dX12_descends_183 rfl tX12_30 aX12_30 T.1 ?_
              have T := T.2
              refine r_aload_n dX12_descends_184 rfl ?_
              refine r_getA dX12_descends_185 fX12_61 rfl uX12_30 ?_
              refine r_iload dX12_descends_188 rfl ?_
              refine s_iald dX12_descends_190 rfl tX12_30 aX12_30 T.1 ?_
              have T := T.2
              refine r_iadd dX12_descends_191 ?_
              exact T
            · have T := T.2 h_1
              refine r_ldcw (z := 1000000) dX12_descends_172 kX12_425 (by decide) (by decide) ?_
              refine r_goto (tgt := 192) dX12_descends_175 (by decide) ?_
              exact T
          · have T := T.2 h_2
            refine r_goto (tgt := 217) dX12_descends_144 (by decide) ?_
            refine r_iinc dX12_descends_217 rfl (by decide) rfl ?_
            refine r_goto (tgt := 79) dX12_descends_220 (by decide) ?_
            exact CW_msk [true, false, true, true, true, false] rfl T
set_option maxRecDepth 20000 in
set_option maxHeartbeats 1000000 in
theorem bX12_descends_192 {G : Gx} {K : Kx} {n : Nat} {M : Mem} {Q : Mem → Prop}  {x2 : Int} {x3 : Int} {x4 : Int} {x5 : Int} {z0 : Int} {z1 : Int}  (T : (0 ≤ z1 ∧ z1 < 16) ∧ (∀ M1 : Mem, M1 = mset M 0 30 z1.toNat z0 → (0 ≤ x3 ∧ x3 < 16) ∧ ((0 ≤ x5 ∧ x5 < 16) ∧ (OkI G n mX12_later [vI (M1 0 31 x3.toNat), vI (wr (M1 0 31 x5.toNat + 1))] M1 (fun r_1 M2 => (0 ≤ x3 ∧ x3 < 16) ∧ (∀ M3 : Mem, M3 = mset M2 0 31 x3.toNat r_1 → CW G K mX12_descends (n + 1) 79 [some (vO 0), none, some (vI x2), some (vI x3), some (vI (wr (x4 + 1))), none] [] M3 (qV Q))))))) : CW G K mX12_descends (n + 1) 192 [some (vO 0), none, some (vI x2), some (vI x3), some (vI x4), some (vI x5)] [vI z0, vI z1, vA 0 30] M (qV Q) := by
  refine n_iast dX12_descends_192 rfl tX12_30 aX12_30 T.1 (fun M1 hM1 => ?_)
  have T := T.2 M1 hM1
  refine r_aload_n dX12_descends_193 rfl ?_
  refine r_getA dX12_descends_194 fX12_64 rfl uX12_31 ?_
  refine r_iload_n dX12_descends_197 rfl ?_
  refine r_aload_n dX12_descends_198 rfl ?_
  refine r_getA dX12_descends_199 fX12_64 rfl uX12_31 ?_
  refine r_iload_n dX12_descends_202 rfl ?_
  refine s_iald dX12_descends_203 rfl tX12_31 aX12_31 T.1 ?_
  have T := T.2
  refine r_aload_n dX12_descends_204 rfl ?_
  refine r_getA dX12_descends_205 fX12_64 rfl uX12_31 ?_
  refine r_iload dX12_descends_208 rfl ?_
  refine s_iald dX12_descends_210 rfl tX12_31 aX12_31 T.1 ?_
  have T := T.2
  refine r_iconst dX12_descends_211 (by decide) ?_
  refine r_iadd dX12_descends_212 ?_
  refine r_callSI (md' := mX12_later) (as := [vI (M1 0 31 x3.toNat), vI (wr (M1 0 31 x5.toNat + 1))]) dX12_descends_213 lX12_404 iX12_later rfl rfl (Nat.le_of_ble_eq_true rfl) T (fun r_1 M2 T => ?_)
  refine n_iast dX12_descends_216 rfl tX12_31 aX12_31 T.1 (fun M3 hM3 => ?_)
  have T := T.2 M3 hM3
  refine r_iinc dX12_descends_217 rfl (by decide) rfl ?_
  refine r_goto (tgt := 79) dX12_descends_220 (by decide) ?_
  exact CW_msk [true, false, true, true, true, false] rfl T
theorem eX12_descends {G : Gx} {n : Nat} {M : Mem} {Q : Mem → Prop}  {x1 : Int} (h : ∀ K : Kx, CW G K mX12_descends n 0 [some (vO 0), some (vI x1), none, none, none, none] [] M (qV Q)) : OkV G n mX12_descends [vO 0, vI x1] M Q := Ok_of (by decide) (Nat.le_of_ble_eq_true rfl) rfl h
