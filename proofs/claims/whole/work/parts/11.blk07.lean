-- DownOnlyModel isHouseWord ()Z
set_option maxRecDepth 20000 in
set_option maxHeartbeats 1000000 in
theorem bX12_isHouseWord_0 {G : Gx} {K : Kx} {n : Nat} {M : Mem} {Q : Int → Mem → Prop}    (T : OkI G n mX12_isWord [vO 0, vL 1919905645] M (fun r_1 M1 => (¬ r_1 = 0 → Q 1 M1) ∧ (r_1 = 0 → OkI G n mX12_isWord [vO 0, vL 112615810885748] M1 (fun r_2 M2 => (¬ r_2 = 0 → Q 1 M2) ∧ (r_2 = 0 → OkI G n mX12_isWord [vO 0, vL 31632345876490085] M2 (fun r_3 M3 => (¬ r_3 = 0 → Q 1 M3) ∧ (r_3 = 0 → OkI G n mX12_isWord [vO 0, vL 1685024626] M3 (fun r_4 M4 => (¬ r_4 = 0 → Q 1 M4) ∧ (r_4 = 0 → OkI G n mX12_isWord [vO 0, vL 448545780596] M4 (fun r_5 M5 => (¬ r_5 = 0 → Q 1 M5) ∧ (r_5 = 0 → OkI G n mX12_isWord [vO 0, vL 123581014175598] M5 (fun r_6 M6 => (r_6 = 0 → Q 0 M6) ∧ (¬ (r_6 = 0) → Q 1 M6))))))))))))) : CW G K mX12_isHouseWord (n + 1) 0 [some (vO 0)] [] M (qI Q) := by
  refine r_aload_n dX12_isHouseWord_0 rfl ?_
  refine r_ldc2 (z := 1919905645) dX12_isHouseWord_1 kX12_156 (by decide) (by decide) ?_
  refine r_callVI (md' := mX12_isWord) (as := [vL 1919905645]) dX12_isHouseWord_4 lX12_131 iX12_isWord rfl rfl rfl (Nat.le_of_ble_eq_true rfl) T (fun r_1 M1 T => ?_)
  refine r_if_ne (tgt := 60) dX12_isHouseWord_7 (by decide) (fun h_6 => ?_) (fun h_6 => ?_)
  · have T := T.1 h_6
    refine r_iconst dX12_isHouseWord_60 (by decide) ?_
    refine r_goto (tgt := 65) dX12_isHouseWord_61 (by decide) ?_
    exact r_zreturn dX12_isHouseWord_65 rfl (by decide) ⟨_, rfl, T⟩
  · have T := T.2 h_6
    refine r_aload_n dX12_isHouseWord_10 rfl ?_
    refine r_ldc2 (z := 112615810885748) dX12_isHouseWord_11 kX12_252 (by decide) (by decide) ?_
    refine r_callVI (md' := mX12_isWord) (as := [vL 112615810885748]) dX12_isHouseWord_14 lX12_131 iX12_isWord rfl rfl rfl (Nat.le_of_ble_eq_true rfl) T (fun r_2 M2 T => ?_)
    refine r_if_ne (tgt := 60) dX12_isHouseWord_17 (by decide) (fun h_5 => ?_) (fun h_5 => ?_)
    · have T := T.1 h_5
      refine r_iconst dX12_isHouseWord_60 (by decide) ?_
      refine r_goto (tgt := 65) dX12_isHouseWord_61 (by decide) ?_
      exact r_zreturn dX12_isHouseWord_65 rfl (by decide) ⟨_, rfl, T⟩
    · have T := T.2 h_5
      refine r_aload_n dX12_isHouseWord_20 rfl ?_
      refine r_ldc2 (z := 31632345876490085) dX12_isHouseWord_21 kX12_254 (by decide) (by decide) ?_
      refine r_callVI (md' := mX12_isWord) (as := [vL 31632345876490085]) dX12_isHouseWord_24 lX12_131 iX12_isWord rfl rfl rfl (Nat.le_of_ble_eq_true rfl) T (fun r_3 M3 T => ?_)
      refine r_if_ne (tgt := 60) dX12_isHouseWord_27 (by decide) (fun h_4 => ?_) (fun h_4 => ?_)
      · have T := T.1 h_4
        refine r_iconst dX12_isHouseWord_60 (by decide) ?_
        refine r_goto (tgt := 65) dX12_isHouseWord_61 (by decide) ?_
        exact r_zreturn dX12_isHouseWord_65 rfl (by decide) ⟨_, rfl, T⟩
      · have T := T.2 h_4
        refine r_aload_n dX12_isHouseWord_30 rfl ?_
        refine r_ldc2 (z := 1685024626) dX12_isHouseWord_31 kX12_260 (by decide) (by decide) ?_
        refine r_callVI (md' := mX12_isWord) (as := [vL 1685024626]) dX12_isHouseWord_34 lX12_131 iX12_isWord rfl rfl rfl (Nat.le_of_ble_eq_true rfl) T (fun r_4 M4 T => ?_)
        refine r_if_ne (tgt := 60) dX12_isHouseWord_37 (by decide) (fun h_3 => ?_) (fun h_3 => ?_)
        · have T := T.1 h_3
          refine r_iconst dX12_isHouseWord_60 (by decide) ?_
          refine r_goto (tgt := 65) dX12_isHouseWord_61 (by decide) ?_
          exact r_zreturn dX12_isHouseWord_65 rfl (by decide) ⟨_, rfl, T⟩
        · have T := T.2 h_3
          refine r_aload_n dX12_isHouseWord_40 rfl ?_
          refine r_ldc2 (z := 448545780596) dX12_isHouseWord_41 kX12_265 (by decide) (by decide) ?_
          refine r_callVI (md' := mX12_isWord) (as := [vL 448545780596]) dX12_isHouseWord_44 lX12_131 iX12_isWord rfl rfl rfl (Nat.le_of_ble_eq_true rfl) T (fun r_5 M5 T => ?_)
          refine r_if_ne (tgt := 60) dX12_isHouseWord_47 (by decide) (fun h_2 => ?_) (fun h_2 => ?_)
          · have T := T.1 h_2
            refine r_iconst dX12_isHouseWord_60 (by decide) ?_
            refine r_goto (tgt := 65) dX12_isHouseWord_61 (by decide) ?_
            exact r_zreturn dX12_isHouseWord_65 rfl (by decide) ⟨_, rfl, T⟩
          · have T := T.2 h_2
            refine r_aload_n dX12_isHouseWord_50 rfl ?_
            refine r_ldc2 (z := 123581014175598) dX12_isHouseWord_51 kX12_154 (by decide) (by decide) ?_
            refine r_callVI (md' := mX12_isWord) (as := [vL 123581014175598]) dX12_isHouseWord_54 lX12_131 iX12_isWord rfl rfl rfl (Nat.le_of_ble_eq_true rfl) T (fun r_6 M6 T => ?_)
            refine r_if_eq (tgt := 64) dX12_isHouseWord_57 (by decide) (fun h_1 => ?_) (fun h_1 => ?_)
            · have T := T.1 h_1
              refine r_iconst dX12_isHouseWord_64 (by decide) ?_
              exact r_zreturn dX12_isHouseWord_65 rfl (by decide) ⟨_, rfl, T⟩
            · have T := T.2 h_1
              refine r_iconst dX12_isHouseWord_60 (by decide) ?_
              refine r_goto (tgt := 65) dX12_isHouseWord_61 (by decide) ?_
              exact r_zreturn dX12_isHouseWord_65 rfl (by decide) ⟨_, rfl, T⟩
theorem eX12_isHouseWord {G : Gx} {n : Nat} {M : Mem} {Q : Int → Mem → Prop}   (h : ∀ K : Kx, CW G K mX12_isHouseWord n 0 [some (vO 0)] [] M (qI Q)) : OkI G n mX12_isHouseWord [vO 0] M Q := Ok_of (by decide) (Nat.le_of_ble_eq_true rfl) rfl h
-- DownOnlyModel clauseHere ()Z
set_option maxRecDepth 20000 in
set_option maxHeartbeats 1000000 in
theorem bX12_clauseHere_0 {G : Gx} {K : Kx} {n : Nat} {M : Mem} {Q : Int → Mem → Prop}    (T : OkI G n mX12_see [vO 0] M (fun r_1 M1 => (¬ M1 0 17 0 = 6 → CW G K mX12_clauseHere (n + 1) 24 [some (vO 0), some (vI (M1 0 14 0)), none] [vI 0] M1 (qI Q)) ∧ (M1 0 17 0 = 6 → CW G K mX12_clauseHere (n + 1) 24 [some (vO 0), some (vI (M1 0 14 0)), none] [vI 1] M1 (qI Q)))) : CW G K mX12_clauseHere (n + 1) 0 [some (vO 0), none, none] [] M (qI Q) := by
  refine r_aload_n dX12_clauseHere_0 rfl ?_
  refine r_callVI (md' := mX12_see) (as := []) dX12_clauseHere_1 lX12_123 iX12_see rfl rfl rfl (Nat.le_of_ble_eq_true rfl) T (fun r_1 M1 T => ?_)
  refine r_pop dX12_clauseHere_4 rfl ?_
  refine r_aload_n dX12_clauseHere_5 rfl ?_
  refine r_getI dX12_clauseHere_6 fX12_120 rfl tX12_14 ?_
  refine r_istore_n dX12_clauseHere_9 (by decide) rfl ?_
  refine r_aload_n dX12_clauseHere_10 rfl ?_
  refine r_getI dX12_clauseHere_11 fX12_168 rfl tX12_17 ?_
  refine r_bipush dX12_clauseHere_14 (by decide) (by decide) ?_
  refine r_icmp_ne (tgt := 23) dX12_clauseHere_16 (by decide) (fun h_1 => ?_) (fun h_1 => ?_)
  · have T := T.1 h_1
    refine r_iconst dX12_clauseHere_23 (by decide) ?_
    exact T
  · have T := T.2 h_1
    refine r_iconst dX12_clauseHere_19 (by decide) ?_
    refine r_goto (tgt := 24) dX12_clauseHere_20 (by decide) ?_
    exact T
set_option maxRecDepth 20000 in
set_option maxHeartbeats 1000000 in
theorem bX12_clauseHere_24 {G : Gx} {K : Kx} {n : Nat} {M : Mem} {Q : Int → Mem → Prop}  {x1 : Int} {z0 : Int}  (T : (z0 = 0 → OkI G n mX12_isWord [vO 0, vL 1952541541] M (fun r_1 M1 => (¬ r_1 = 0 → (z0 = 0 → CW G K mX12_clauseHere (n + 1) 91 [some (vO 0), some (vI x1), some (vI z0)] [vI 12, vI (M1 0 20 0)] M1 (qI Q)) ∧ (¬ (z0 = 0) → CW G K mX12_clauseHere (n + 1) 91 [some (vO 0), some (vI x1), some (vI z0)] [vI 40, vI (M1 0 20 0)] M1 (qI Q))) ∧ (r_1 = 0 → OkI G n mX12_isWord [vO 0, vL 1919509605] M1 (fun r_2 M2 => (¬ r_2 = 0 → (z0 = 0 → CW G K mX12_clauseHere (n + 1) 91 [some (vO 0), some (vI x1), some (vI z0)] [vI 12, vI (M2 0 20 0)] M2 (qI Q)) ∧ (¬ (z0 = 0) → CW G K mX12_clauseHere (n + 1) 91 [some (vO 0), some (vI x1), some (vI z0)] [vI 40, vI (M2 0 20 0)] M2 (qI Q))) ∧ (r_2 = 0 → OkI G n mX12_isWord [vO 0, vL 2002872692] M2 (fun r_3 M3 => (¬ r_3 = 0 → (z0 = 0 → CW G K mX12_clauseHere (n + 1) 91 [some (vO 0), some (vI x1), some (vI z0)] [vI 12, vI (M3 0 20 0)] M3 (qI Q)) ∧ (¬ (z0 = 0) → CW G K mX12_clauseHere (n + 1) 91 [some (vO 0), some (vI x1), some (vI z0)] [vI 40, vI (M3 0 20 0)] M3 (qI Q))) ∧ (r_3 = 0 → OkI G n mX12_fails [vO 0, vI 0, vI x1] M3 (fun r_4 M4 => (r_4 = 0 ∨ r_4 = 1) ∧ Q r_4 M4)))))))) ∧ (¬ (z0 = 0) → OkI G n mX12_isHouseWord [vO 0] M (fun r_5 M5 => (r_5 = 0 → OkI G n mX12_fails [vO 0, vI 0, vI x1] M5 (fun r_6 M6 => (r_6 = 0 ∨ r_6 = 1) ∧ Q r_6 M6)) ∧ (¬ (r_5 = 0) → (z0 = 0 → CW G K mX12_clauseHere (n + 1) 91 [some (vO 0), some (vI x1), some (vI z0)] [vI 12, vI (M5 0 20 0)] M5 (qI Q)) ∧ (¬ (z0 = 0) → CW G K mX12_clauseHere (n + 1) 91 [some (vO 0), some (vI x1), some (vI z0)] [vI 40, vI (M5 0 20 0)] M5 (qI Q)))))) : CW G K mX12_clauseHere (n + 1) 24 [some (vO 0), some (vI x1), none] [vI z0] M (qI Q) := by
  refine r_istore_n dX12_clauseHere_24 (by decide) rfl ?_
  refine r_iload_n dX12_clauseHere_25 rfl ?_
  refine r_if_eq (tgt := 39) dX12_clauseHere_26 (by decide) (fun h_9 => ?_) (fun h_9 => ?_)
  · have T := T.1 h_9
    refine r_aload_n dX12_clauseHere_39 rfl ?_
    refine r_ldc2 (z := 1952541541) dX12_clauseHere_40 kX12_276 (by decide) (by decide) ?_
    refine r_callVI (md' := mX12_isWord) (as := [vL 1952541541]) dX12_clauseHere_43 lX12_131 iX12_isWord rfl rfl rfl (Nat.le_of_ble_eq_true rfl) T (fun r_1 M1 T => ?_)
    refine r_if_ne (tgt := 76) dX12_clauseHere_46 (by decide) (fun h_6 => ?_) (fun h_6 => ?_)
    · have T := T.1 h_6
      refine r_aload_n dX12_clauseHere_76 rfl ?_
      refine r_getI dX12_clauseHere_77 fX12_282 rfl tX12_20 ?_
      refine r_iload_n dX12_clauseHere_80 rfl ?_
      refine r_if_eq (tgt := 89) dX12_clauseHere_81 (by decide) (fun h_1 => ?_) (fun h_1 => ?_)
      · have T := T.1 h_1
        refine r_bipush dX12_clauseHere_89 (by decide) (by decide) ?_
        exact T
      · have T := T.2 h_1
        refine r_bipush dX12_clauseHere_84 (by decide) (by decide) ?_
        refine r_goto (tgt := 91) dX12_clauseHere_86 (by decide) ?_
        exact T
    · have T := T.2 h_6
      refine r_aload_n dX12_clauseHere_49 rfl ?_
      refine r_ldc2 (z := 1919509605) dX12_clauseHere_50 kX12_278 (by decide) (by decide) ?_
      refine r_callVI (md' := mX12_isWord) (as := [vL 1919509605]) dX12_clauseHere_53 lX12_131 iX12_isWord rfl rfl rfl (Nat.le_of_ble_eq_true rfl) T (fun r_2 M2 T => ?_)
      refine r_if_ne (tgt := 76) dX12_clauseHere_56 (by decide) (fun h_5 => ?_) (fun h_5 => ?_)
      · have T := T.1 h_5
        refine r_aload_n dX12_clauseHere_76 rfl ?_
        refine r_getI dX12_clauseHere_77 fX12_282 rfl tX12_20 ?_
        refine r_iload_n dX12_clauseHere_80 rfl ?_
        refine r_if_eq (tgt := 89) dX12_clauseHere_81 (by decide) (fun h_2 => ?_) (fun h_2 => ?_)
        · have T := T.1 h_2
          refine r_bipush dX12_clauseHere_89 (by decide) (by decide) ?_
          exact T
        · have T := T.2 h_2
          refine r_bipush dX12_clauseHere_84 (by decide) (by decide) ?_
          refine r_goto (tgt := 91) dX12_clauseHere_86 (by decide) ?_
          exact T
      · have T := T.2 h_5
        refine r_aload_n dX12_clauseHere_59 rfl ?_
        refine r_ldc2 (z := 2002872692) dX12_clauseHere_60 kX12_280 (by decide) (by decide) ?_
        refine r_callVI (md' := mX12_isWord) (as := [vL 2002872692]) dX12_clauseHere_63 lX12_131 iX12_isWord rfl rfl rfl (Nat.le_of_ble_eq_true rfl) T (fun r_3 M3 T => ?_)
        refine r_if_ne (tgt := 76) dX12_clauseHere_66 (by decide) (fun h_4 => ?_) (fun h_4 => ?_)
        · have T := T.1 h_4
          refine r_aload_n dX12_clauseHere_76 rfl ?_
          refine r_getI dX12_clauseHere_77 fX12_282 rfl tX12_20 ?_
          refine r_iload_n dX12_clauseHere_80 rfl ?_
          refine r_if_eq (tgt := 89) dX12_clauseHere_81 (by decide) (fun h_3 => ?_) (fun h_3 => ?_)
          · have T := T.1 h_3
            refine r_bipush dX12_clauseHere_89 (by decide) (by decide) ?_
            exact T
          · have T := T.2 h_3
            refine r_bipush dX12_clauseHere_84 (by decide) (by decide) ?_
            refine r_goto (tgt := 91) dX12_clauseHere_86 (by decide) ?_
            exact T
        · have T := T.2 h_4
          refine r_aload_n dX12_clauseHere_69 rfl ?_
          refine r_iconst dX12_clauseHere_70 (by decide) ?_
          refine r_iload_n dX12_clauseHere_71 rfl ?_
          refine r_callVI (md' := mX12_fails) (as := [vI 0, vI x1]) dX12_clauseHere_72 lX12_141 iX12_fails rfl rfl rfl (Nat.le_of_ble_eq_true rfl) T (fun r_4 M4 T => ?_)
          exact r_zreturn dX12_clauseHere_75 rfl T.1 ⟨_, rfl, T.2⟩
  · have T := T.2 h_9
    refine r_aload_n dX12_clauseHere_29 rfl ?_
    refine r_callVI (md' := mX12_isHouseWord) (as := []) dX12_clauseHere_30 lX12_273 iX12_isHouseWord rfl rfl rfl (Nat.le_of_ble_eq_true rfl) T (fun r_5 M5 T => ?_)
    refine r_if_eq (tgt := 69) dX12_clauseHere_33 (by decide) (fun h_8 => ?_) (fun h_8 => ?_)
    · have T := T.1 h_8
      refine r_aload_n dX12_clauseHere_69 rfl ?_
      refine r_iconst dX12_clauseHere_70 (by decide) ?_
      refine r_iload_n dX12_clauseHere_71 rfl ?_
      refine r_callVI (md' := mX12_fails) (as := [vI 0, vI x1]) dX12_clauseHere_72 lX12_141 iX12_fails rfl rfl rfl (Nat.le_of_ble_eq_true rfl) T (fun r_6 M6 T => ?_)
      exact r_zreturn dX12_clauseHere_75 rfl T.1 ⟨_, rfl, T.2⟩
    · have T := T.2 h_8
      refine r_goto (tgt := 76) dX12_clauseHere_36 (by decide) ?_
      refine r_aload_n dX12_clauseHere_76 rfl ?_
      refine r_getI dX12_clauseHere_77 fX12_282 rfl tX12_20 ?_
      refine r_iload_n dX12_clauseHere_80 rfl ?_
      refine r_if_eq (tgt := 89) dX12_clauseHere_81 (by decide) (fun h_7 => ?_) (fun h_7 => ?_)
      · have T := T.1 h_7
        refine r_bipush dX12_clauseHere_89 (by decide) (by decide) ?_
        exact T
      · have T := T.2 h_7
        refine r_bipush dX12_clauseHere_84 (by decide) (by decide) ?_
        refine r_goto (tgt := 91) dX12_clauseHere_86 (by decide) ?_
        exact T
set_option maxRecDepth 20000 in
set_option maxHeartbeats 1000000 in
theorem bX12_clauseHere_91 {G : Gx} {K : Kx} {n : Nat} {M : Mem} {Q : Int → Mem → Prop}  {x1 : Int} {x2 : Int} {z0 : Int} {z1 : Int}  (T : (¬ z1 = z0 → ∀ M1 : Mem, M1 = mset M 0 20 0 (wr (M 0 20 0 + 1)) → (x2 = 0 → OkI G n mX12_isWord [vO 0, vL 1952541541] M1 (fun r_1 M2 => (r_1 = 0 → OkI G n mX12_isWord [vO 0, vL 1919509605] M2 (fun r_2 M3 => (r_2 = 0 → OkI G n mX12_isDoingHere [vO 0, vI 2] M3 (fun r_3 M4 => (r_3 = 0 ∨ r_3 = 1) ∧ Q r_3 M4)) ∧ (¬ (r_2 = 0) → OkI G n mX12_isDoingHere [vO 0, vI 1] M3 (fun r_4 M5 => (r_4 = 0 ∨ r_4 = 1) ∧ Q r_4 M5)))) ∧ (¬ (r_1 = 0) → OkI G n mX12_isDoingHere [vO 0, vI 0] M2 (fun r_5 M6 => (r_5 = 0 ∨ r_5 = 1) ∧ Q r_5 M6)))) ∧ (¬ (x2 = 0) → OkI G n mX12_houseLineHere [vO 0, vI x1] M1 (fun r_6 M7 => (r_6 = 0 ∨ r_6 = 1) ∧ Q r_6 M7))) ∧ (z1 = z0 → OkI G n mX12_fails [vO 0, vI 4, vI x1] M (fun r_7 M8 => (r_7 = 0 ∨ r_7 = 1) ∧ Q r_7 M8))) : CW G K mX12_clauseHere (n + 1) 91 [some (vO 0), some (vI x1), some (vI x2)] [vI z0, vI z1] M (qI Q) := by
  refine r_icmp_ne (tgt := 101) dX12_clauseHere_91 (by decide) (fun h_4 => ?_) (fun h_4 => ?_)
  · have T := T.1 h_4
    refine r_aload_n dX12_clauseHere_101 rfl ?_
    refine r_dup dX12_clauseHere_102 rfl ?_
    refine r_getI dX12_clauseHere_103 fX12_282 rfl tX12_20 ?_
    refine r_iconst dX12_clauseHere_106 (by decide) ?_
    refine r_iadd dX12_clauseHere_107 ?_
    refine n_put dX12_clauseHere_108 pX12_282 rfl tX12_20 (fun M1 hM1 => ?_)
    have T := T M1 hM1
    refine r_iload_n dX12_clauseHere_111 rfl ?_
    refine r_if_eq (tgt := 121) dX12_clauseHere_112 (by decide) (fun h_3 => ?_) (fun h_3 => ?_)
    · have T := T.1 h_3
      refine r_aload_n dX12_clauseHere_121 rfl ?_
      refine r_aload_n dX12_clauseHere_122 rfl ?_
      refine r_ldc2 (z := 1952541541) dX12_clauseHere_123 kX12_276 (by decide) (by decide) ?_
      refine r_callVI (md' := mX12_isWord) (as := [vL 1952541541]) dX12_clauseHere_126 lX12_131 iX12_isWord rfl rfl rfl (Nat.le_of_ble_eq_true rfl) T (fun r_1 M2 T => ?_)
      refine r_if_eq (tgt := 136) dX12_clauseHere_129 (by decide) (fun h_2 => ?_) (fun h_2 => ?_)
      · have T := T.1 h_2
        refine r_aload_n dX12_clauseHere_136 rfl ?_
        refine r_ldc2 (z := 1919509605) dX12_clauseHere_137 kX12_278 (by decide) (by decide) ?_
        refine r_callVI (md' := mX12_isWord) (as := [vL 1919509605]) dX12_clauseHere_140 lX12_131 iX12_isWord rfl rfl rfl (Nat.le_of_ble_eq_true rfl) T (fun r_2 M3 T => ?_)
        refine r_if_eq (tgt := 150) dX12_clauseHere_143 (by decide) (fun h_1 => ?_) (fun h_1 => ?_)
        · have T := T.1 h_1
          refine r_iconst dX12_clauseHere_150 (by decide) ?_
          refine r_callVI (md' := mX12_isDoingHere) (as := [vI 2]) dX12_clauseHere_151 lX12_288 iX12_isDoingHere rfl rfl rfl (Nat.le_of_ble_eq_true rfl) T (fun r_3 M4 T => ?_)
          exact r_zreturn dX12_clauseHere_154 rfl T.1 ⟨_, rfl, T.2⟩
        · have T := T.2 h_1
          refine r_iconst dX12_clauseHere_146 (by decide) ?_
          refine r_goto (tgt := 151) dX12_clauseHere_147 (by decide) ?_
          refine r_callVI (md' := mX12_isDoingHere) (as := [vI 1]) dX12_clauseHere_151 lX12_288 iX12_isDoingHere rfl rfl rfl (Nat.le_of_ble_eq_true rfl) T (fun r_4 M5 T => ?_)
          exact r_zreturn dX12_clauseHere_154 rfl T.1 ⟨_, rfl, T.2⟩
      · have T := T.2 h_2
        refine r_iconst dX12_clauseHere_132 (by decide) ?_
        refine r_goto (tgt := 151) dX12_clauseHere_133 (by decide) ?_
        refine r_callVI (md' := mX12_isDoingHere) (as := [vI 0]) dX12_clauseHere_151 lX12_288 iX12_isDoingHere rfl rfl rfl (Nat.le_of_ble_eq_true rfl) T (fun r_5 M6 T => ?_)
        exact r_zreturn dX12_clauseHere_154 rfl T.1 ⟨_, rfl, T.2⟩
    · have T := T.2 h_3
      refine r_aload_n dX12_clauseHere_115 rfl ?_
      refine r_iload_n dX12_clauseHere_116 rfl ?_
      refine r_callVI (md' := mX12_houseLineHere) (as := [vI x1]) dX12_clauseHere_117 lX12_285 iX12_houseLineHere rfl rfl rfl (Nat.le_of_ble_eq_true rfl) T (fun r_6 M7 T => ?_)
      exact r_zreturn dX12_clauseHere_120 rfl T.1 ⟨_, rfl, T.2⟩
  · have T := T.2 h_4
    refine r_aload_n dX12_clauseHere_94 rfl ?_
    refine r_iconst dX12_clauseHere_95 (by decide) ?_
    refine r_iload_n dX12_clauseHere_96 rfl ?_
    refine r_callVI (md' := mX12_fails) (as := [vI 4, vI x1]) dX12_clauseHere_97 lX12_141 iX12_fails rfl rfl rfl (Nat.le_of_ble_eq_true rfl) T (fun r_7 M8 T => ?_)
    exact r_zreturn dX12_clauseHere_100 rfl T.1 ⟨_, rfl, T.2⟩
theorem eX12_clauseHere {G : Gx} {n : Nat} {M : Mem} {Q : Int → Mem → Prop}   (h : ∀ K : Kx, CW G K mX12_clauseHere n 0 [some (vO 0), none, none] [] M (qI Q)) : OkI G n mX12_clauseHere [vO 0] M Q := Ok_of (by decide) (Nat.le_of_ble_eq_true rfl) rfl h
-- DownOnlyModel readsAll ()Z
set_option maxRecDepth 20000 in
set_option maxHeartbeats 1000000 in
theorem bX12_readsAll_0 {G : Gx} {K : Kx} {n : Nat} {M : Mem} {Q : Int → Mem → Prop}    (T : (0 ≤ M 0 17 0 ∧ M 0 17 0 < 7) ∧ (∀ M1 : Mem, M1 = mset M 0 4 (M 0 17 0).toNat 0 → ∀ M2 : Mem, M2 = mset M1 0 20 0 0 → ∀ M3 : Mem, M3 = mset M2 0 14 0 0 → ∀ M4 : Mem, M4 = mset M3 0 15 0 0 → ∀ M5 : Mem, M5 = mset M4 0 18 0 0 → OkI G n mX12_clauseHere [vO 0] M5 (fun r_1 M6 => CW G K mX12_readsAll (n + 1) 35 [some (vO 0), some (vI r_1)] [] M6 (qI Q)))) : CW G K mX12_readsAll (n + 1) 0 [some (vO 0), none] [] M (qI Q) := by
  refine r_aload_n dX12_readsAll_0 rfl ?_
  refine r_getA dX12_readsAll_1 fX12_17 rfl uX12_4 ?_
  refine r_aload_n dX12_readsAll_4 rfl ?_
  refine r_getI dX12_readsAll_5 fX12_168 rfl tX12_17 ?_
  refine r_iconst dX12_readsAll_8 (by decide) ?_
  refine n_iast dX12_readsAll_9 rfl tX12_4 aX12_4 T.1 (fun M1 hM1 => ?_)
  have T := T.2 M1 hM1
  refine r_aload_n dX12_readsAll_10 rfl ?_
  refine r_iconst dX12_readsAll_11 (by decide) ?_
  refine n_put dX12_readsAll_12 pX12_282 rfl tX12_20 (fun M2 hM2 => ?_)
  have T := T M2 hM2
  refine r_aload_n dX12_readsAll_15 rfl ?_
  refine r_iconst dX12_readsAll_16 (by decide) ?_
  refine n_put dX12_readsAll_17 pX12_120 rfl tX12_14 (fun M3 hM3 => ?_)
  have T := T M3 hM3
  refine r_aload_n dX12_readsAll_20 rfl ?_
  refine r_iconst dX12_readsAll_21 (by decide) ?_
  refine n_put dX12_readsAll_22 pX12_117 rfl tX12_15 (fun M4 hM4 => ?_)
  have T := T M4 hM4
  refine r_aload_n dX12_readsAll_25 rfl ?_
  refine r_iconst dX12_readsAll_26 (by decide) ?_
  refine n_put dX12_readsAll_27 pX12_171 rfl tX12_18 (fun M5 hM5 => ?_)
  have T := T M5 hM5
  refine r_aload_n dX12_readsAll_30 rfl ?_
  refine r_callVI (md' := mX12_clauseHere) (as := []) dX12_readsAll_31 lX12_291 iX12_clauseHere rfl rfl rfl (Nat.le_of_ble_eq_true rfl) T (fun r_1 M6 T => ?_)
  refine r_istore_n dX12_readsAll_34 (by decide) rfl ?_
  exact T
set_option maxRecDepth 20000 in
set_option maxHeartbeats 1000000 in
theorem bX12_readsAll_35 {G : Gx} {K : Kx} {n : Nat} {M : Mem} {Q : Int → Mem → Prop}  {x1 : Int}  (T : (x1 = 0 → CW G K mX12_readsAll (n + 1) 66 [some (vO 0), some (vI x1)] [] M (qI Q)) ∧ (¬ (x1 = 0) → OkI G n mX12_see [vO 0] M (fun r_1 M1 => (¬ r_1 = 59 → CW G K mX12_readsAll (n + 1) 66 [some (vO 0), some (vI x1)] [] M1 (qI Q)) ∧ (r_1 = 59 → ∀ M2 : Mem, M2 = mset M1 0 14 0 (wr (M1 0 14 0 + 1)) → OkI G n mX12_clauseHere [vO 0] M2 (fun r_2 M3 => CW G K mX12_readsAll (n + 1) 35 [some (vO 0), some (vI r_2)] [] M3 (qI Q)))))) : CW G K mX12_readsAll (n + 1) 35 [some (vO 0), some (vI x1)] [] M (qI Q) := by
  refine r_iload_n dX12_readsAll_35 rfl ?_
  refine r_if_eq (tgt := 66) dX12_readsAll_36 (by decide) (fun h_2 => ?_) (fun h_2 => ?_)
  · have T := T.1 h_2
    exact T
  · have T := T.2 h_2
    refine r_aload_n dX12_readsAll_39 rfl ?_
    refine r_callVI (md' := mX12_see) (as := []) dX12_readsAll_40 lX12_123 iX12_see rfl rfl rfl (Nat.le_of_ble_eq_true rfl) T (fun r_1 M1 T => ?_)
    refine r_bipush dX12_readsAll_43 (by decide) (by decide) ?_
    refine r_icmp_ne (tgt := 66) dX12_readsAll_45 (by decide) (fun h_1 => ?_) (fun h_1 => ?_)
    · have T := T.1 h_1
      exact T
    · have T := T.2 h_1
      refine r_aload_n dX12_readsAll_48 rfl ?_
      refine r_dup dX12_readsAll_49 rfl ?_
      refine r_getI dX12_readsAll_50 fX12_120 rfl tX12_14 ?_
      refine r_iconst dX12_readsAll_53 (by decide) ?_
      refine r_iadd dX12_readsAll_54 ?_
      refine n_put dX12_readsAll_55 pX12_120 rfl tX12_14 (fun M2 hM2 => ?_)
      have T := T M2 hM2
      refine r_aload_n dX12_readsAll_58 rfl ?_
      refine r_callVI (md' := mX12_clauseHere) (as := []) dX12_readsAll_59 lX12_291 iX12_clauseHere rfl rfl rfl (Nat.le_of_ble_eq_true rfl) T (fun r_2 M3 T => ?_)
      refine r_istore_n dX12_readsAll_62 (by decide) rfl ?_
      refine r_goto (tgt := 35) dX12_readsAll_63 (by decide) ?_
      exact T
set_option maxRecDepth 20000 in
set_option maxHeartbeats 1000000 in
theorem bX12_readsAll_66 {G : Gx} {K : Kx} {n : Nat} {M : Mem} {Q : Int → Mem → Prop}  {x1 : Int}  (T : (x1 = 0 → CW G K mX12_readsAll (n + 1) 88 [some (vO 0), some (vI x1)] [] M (qI Q)) ∧ (¬ (x1 = 0) → OkI G n mX12_see [vO 0] M (fun r_1 M1 => (r_1 = (-1) → CW G K mX12_readsAll (n + 1) 88 [some (vO 0), some (vI x1)] [] M1 (qI Q)) ∧ (¬ (r_1 = (-1)) → OkI G n mX12_fails [vO 0, vI 0, vI (M1 0 14 0)] M1 (fun r_2 M2 => CW G K mX12_readsAll (n + 1) 88 [some (vO 0), some (vI r_2)] [] M2 (qI Q)))))) : CW G K mX12_readsAll (n + 1) 66 [some (vO 0), some (vI x1)] [] M (qI Q) := by
  refine r_iload_n dX12_readsAll_66 rfl ?_
  refine r_if_eq (tgt := 88) dX12_readsAll_67 (by decide) (fun h_2 => ?_) (fun h_2 => ?_)
  · have T := T.1 h_2
    exact T
  · have T := T.2 h_2
    refine r_aload_n dX12_readsAll_70 rfl ?_
    refine r_callVI (md' := mX12_see) (as := []) dX12_readsAll_71 lX12_123 iX12_see rfl rfl rfl (Nat.le_of_ble_eq_true rfl) T (fun r_1 M1 T => ?_)
    refine r_iconst dX12_readsAll_74 (by decide) ?_
    refine r_icmp_eq (tgt := 88) dX12_readsAll_75 (by decide) (fun h_1 => ?_) (fun h_1 => ?_)
    · have T := T.1 h_1
      exact T
    · have T := T.2 h_1
      refine r_aload_n dX12_readsAll_78 rfl ?_
      refine r_iconst dX12_readsAll_79 (by decide) ?_
      refine r_aload_n dX12_readsAll_80 rfl ?_
      refine r_getI dX12_readsAll_81 fX12_120 rfl tX12_14 ?_
      refine r_callVI (md' := mX12_fails) (as := [vI 0, vI (M1 0 14 0)]) dX12_readsAll_84 lX12_141 iX12_fails rfl rfl rfl (Nat.le_of_ble_eq_true rfl) T (fun r_2 M2 T => ?_)
      refine r_istore_n dX12_readsAll_87 (by decide) rfl ?_
      exact T
set_option maxRecDepth 20000 in
set_option maxHeartbeats 1000000 in
theorem bX12_readsAll_88 {G : Gx} {K : Kx} {n : Nat} {M : Mem} {Q : Int → Mem → Prop}  {x1 : Int}  (T : (x1 = 0 → ∀ M1 : Mem, M1 = mset M 0 1 0 0 → (¬ M1 0 15 0 = 0 → Q 0 M1) ∧ (M1 0 15 0 = 0 → Q 1 M1)) ∧ (¬ (x1 = 0) → (¬ M 0 17 0 = 6 → ∀ M2 : Mem, M2 = mset M 0 1 0 0 → (¬ M2 0 15 0 = 0 → Q 0 M2) ∧ (M2 0 15 0 = 0 → Q 1 M2)) ∧ (M 0 17 0 = 6 → (¬ M 0 7 0 = 0 → ∀ M3 : Mem, M3 = mset M 0 1 0 0 → (¬ M3 0 15 0 = 0 → Q 0 M3) ∧ (M3 0 15 0 = 0 → Q 1 M3)) ∧ (M 0 7 0 = 0 → OkI G n mX12_fails [vO 0, vI 0, vI (M 0 14 0)] M (fun r_1 M4 => ∀ M5 : Mem, M5 = mset M4 0 1 0 0 → (¬ M5 0 15 0 = 0 → Q 0 M5) ∧ (M5 0 15 0 = 0 → Q 1 M5)))))) : CW G K mX12_readsAll (n + 1) 88 [some (vO 0), some (vI x1)] [] M (qI Q) := by
  refine r_iload_n dX12_readsAll_88 rfl ?_
  refine r_if_eq (tgt := 118) dX12_readsAll_89 (by decide) (fun h_7 => ?_) (fun h_7 => ?_)
  · have T := T.1 h_7
    refine r_aload_n dX12_readsAll_118 rfl ?_
    refine r_iconst dX12_readsAll_119 (by decide) ?_
    refine n_put dX12_readsAll_120 pX12_109 rfl tX12_1 (fun M1 hM1 => ?_)
    have T := T M1 hM1
    refine r_aload_n dX12_readsAll_123 rfl ?_
    refine r_getI dX12_readsAll_124 fX12_117 rfl tX12_15 ?_
    refine r_if_ne (tgt := 134) dX12_readsAll_127 (by decide) (fun h_1 => ?_) (fun h_1 => ?_)
    · have T := T.1 h_1
      refine r_iconst dX12_readsAll_134 (by decide) ?_
      exact r_zreturn dX12_readsAll_135 rfl (by decide) ⟨_, rfl, T⟩
    · have T := T.2 h_1
      refine r_iconst dX12_readsAll_130 (by decide) ?_
      refine r_goto (tgt := 135) dX12_readsAll_131 (by decide) ?_
      exact r_zreturn dX12_readsAll_135 rfl (by decide) ⟨_, rfl, T⟩
  · have T := T.2 h_7
    refine r_aload_n dX12_readsAll_92 rfl ?_
    refine r_getI dX12_readsAll_93 fX12_168 rfl tX12_17 ?_
    refine r_bipush dX12_readsAll_96 (by decide) (by decide) ?_
    refine r_icmp_ne (tgt := 118) dX12_readsAll_98 (by decide) (fun h_6 => ?_) (fun h_6 => ?_)
    · have T := T.1 h_6
      refine r_aload_n dX12_readsAll_118 rfl ?_
      refine r_iconst dX12_readsAll_119 (by decide) ?_
      refine n_put dX12_readsAll_120 pX12_109 rfl tX12_1 (fun M2 hM2 => ?_)
      have T := T M2 hM2
      refine r_aload_n dX12_readsAll_123 rfl ?_
      refine r_getI dX12_readsAll_124 fX12_117 rfl tX12_15 ?_
      refine r_if_ne (tgt := 134) dX12_readsAll_127 (by decide) (fun h_2 => ?_) (fun h_2 => ?_)
      · have T := T.1 h_2
        refine r_iconst dX12_readsAll_134 (by decide) ?_
        exact r_zreturn dX12_readsAll_135 rfl (by decide) ⟨_, rfl, T⟩
      · have T := T.2 h_2
        refine r_iconst dX12_readsAll_130 (by decide) ?_
        refine r_goto (tgt := 135) dX12_readsAll_131 (by decide) ?_
        exact r_zreturn dX12_readsAll_135 rfl (by decide) ⟨_, rfl, T⟩
    · have T := T.2 h_6
      refine r_aload_n dX12_readsAll_101 rfl ?_
      refine r_getI dX12_readsAll_102 fX12_240 rfl tX12_7 ?_
      refine r_if_ne (tgt := 118) dX12_readsAll_105 (by decide) (fun h_5 => ?_) (fun h_5 => ?_)
      · have T := T.1 h_5
        refine r_aload_n dX12_readsAll_118 rfl ?_
        refine r_iconst dX12_readsAll_119 (by decide) ?_
        refine n_put dX12_readsAll_120 pX12_109 rfl tX12_1 (fun M3 hM3 => ?_)
        have T := T M3 hM3
        refine r_aload_n dX12_readsAll_123 rfl ?_
        refine r_getI dX12_readsAll_124 fX12_117 rfl tX12_15 ?_
        refine r_if_ne (tgt := 134) dX12_readsAll_127 (by decide) (fun h_3 => ?_) (fun h_3 => ?_)
        · have T := T.1 h_3
          refine r_iconst dX12_readsAll_134 (by decide) ?_
          exact r_zreturn dX12_readsAll_135 rfl (by decide) ⟨_, rfl, T⟩
        · have T := T.2 h_3
          refine r_iconst dX12_readsAll_130 (by decide) ?_
          refine r_goto (tgt := 135) dX12_readsAll_131 (by decide) ?_
          exact r_zreturn dX12_readsAll_135 rfl (by decide) ⟨_, rfl, T⟩
      · have T := T.2 h_5
        refine r_aload_n dX12_readsAll_108 rfl ?_
        refine r_iconst dX12_readsAll_109 (by decide) ?_
        refine r_aload_n dX12_readsAll_110 rfl ?_
        refine r_getI dX12_readsAll_111 fX12_120 rfl tX12_14 ?_
        refine r_callVI (md' := mX12_fails) (as := [vI 0, vI (M 0 14 0)]) dX12_readsAll_114 lX12_141 iX12_fails rfl rfl rfl (Nat.le_of_ble_eq_true rfl) T (fun r_1 M4 T => ?_)
        refine r_pop dX12_readsAll_117 rfl ?_
        refine r_aload_n dX12_readsAll_118 rfl ?_
        refine r_iconst dX12_readsAll_119 (by decide) ?_
        refine n_put dX12_readsAll_120 pX12_109 rfl tX12_1 (fun M5 hM5 => ?_)
        have T := T M5 hM5
        refine r_aload_n dX12_readsAll_123 rfl ?_
        refine r_getI dX12_readsAll_124 fX12_117 rfl tX12_15 ?_
        refine r_if_ne (tgt := 134) dX12_readsAll_127 (by decide) (fun h_4 => ?_) (fun h_4 => ?_)
        · have T := T.1 h_4
          refine r_iconst dX12_readsAll_134 (by decide) ?_
          exact r_zreturn dX12_readsAll_135 rfl (by decide) ⟨_, rfl, T⟩
        · have T := T.2 h_4
          refine r_iconst dX12_readsAll_130 (by decide) ?_
          refine r_goto (tgt := 135) dX12_readsAll_131 (by decide) ?_
          exact r_zreturn dX12_readsAll_135 rfl (by decide) ⟨_, rfl, T⟩
theorem eX12_readsAll {G : Gx} {n : Nat} {M : Mem} {Q : Int → Mem → Prop}   (h : ∀ K : Kx, CW G K mX12_readsAll n 0 [some (vO 0), none] [] M (qI Q)) : OkI G n mX12_readsAll [vO 0] M Q := Ok_of (by decide) (Nat.le_of_ble_eq_true rfl) rfl h
-- DownOnlyModel rule ()I
set_option maxRecDepth 20000 in
set_option maxHeartbeats 1000000 in
theorem bX12_rule_0 {G : Gx} {K : Kx} {n : Nat} {M : Mem} {Q : Int → Mem → Prop}    (T : (¬ M 0 2 0 = 6 → ∀ M1 : Mem, M1 = mset M 0 17 0 (M 0 2 0) → (0 ≤ M1 0 17 0 ∧ M1 0 17 0 < 6) ∧ (∀ M2 : Mem, M2 = mset M1 0 6 (M1 0 17 0).toNat 0 → OkI G n mX12_readsAll [vO 0] M2 (fun r_1 M3 => (¬ r_1 = 0 → ∀ M4 : Mem, M4 = mset M3 0 2 0 (wr (M3 0 2 0 + 1)) → Q (wr (M4 0 2 0 - 1)) M4) ∧ (r_1 = 0 → Q (wr ((-2) - (M3 0 15 0))) M3)))) ∧ (M 0 2 0 = 6 → Q (-1) M)) : CW G K mX12_rule (n + 1) 0 [some (vO 0)] [] M (qI Q) := by
  refine r_aload_n dX12_rule_0 rfl ?_
  refine r_getI dX12_rule_1 fX12_294 rfl tX12_2 ?_
  refine r_bipush dX12_rule_4 (by decide) (by decide) ?_
  refine r_icmp_ne (tgt := 11) dX12_rule_6 (by decide) (fun h_2 => ?_) (fun h_2 => ?_)
  · have T := T.1 h_2
    refine r_aload_n dX12_rule_11 rfl ?_
    refine r_aload_n dX12_rule_12 rfl ?_
    refine r_getI dX12_rule_13 fX12_294 rfl tX12_2 ?_
    refine n_put dX12_rule_16 pX12_168 rfl tX12_17 (fun M1 hM1 => ?_)
    have T := T M1 hM1
    refine r_aload_n dX12_rule_19 rfl ?_
    refine r_getA dX12_rule_20 fX12_23 rfl uX12_6 ?_
    refine r_aload_n dX12_rule_23 rfl ?_
    refine r_getI dX12_rule_24 fX12_168 rfl tX12_17 ?_
    refine r_iconst dX12_rule_27 (by decide) ?_
    refine n_iast dX12_rule_28 rfl tX12_6 aX12_6 T.1 (fun M2 hM2 => ?_)
    have T := T.2 M2 hM2
    refine r_aload_n dX12_rule_29 rfl ?_
    refine r_callVI (md' := mX12_readsAll) (as := []) dX12_rule_30 lX12_297 iX12_readsAll rfl rfl rfl (Nat.le_of_ble_eq_true rfl) T (fun r_1 M3 T => ?_)
    refine r_if_ne (tgt := 44) dX12_rule_33 (by decide) (fun h_1 => ?_) (fun h_1 => ?_)
    · have T := T.1 h_1
      refine r_aload_n dX12_rule_44 rfl ?_
      refine r_dup dX12_rule_45 rfl ?_
      refine r_getI dX12_rule_46 fX12_294 rfl tX12_2 ?_
      refine r_iconst dX12_rule_49 (by decide) ?_
      refine r_iadd dX12_rule_50 ?_
      refine n_put dX12_rule_51 pX12_294 rfl tX12_2 (fun M4 hM4 => ?_)
      have T := T M4 hM4
      refine r_aload_n dX12_rule_54 rfl ?_
      refine r_getI dX12_rule_55 fX12_294 rfl tX12_2 ?_
      refine r_iconst dX12_rule_58 (by decide) ?_
      refine r_isub dX12_rule_59 ?_
      exact r_ireturn dX12_rule_60 rfl ⟨_, rfl, T⟩
    · have T := T.2 h_1
      refine r_bipush dX12_rule_36 (by decide) (by decide) ?_
      refine r_aload_n dX12_rule_38 rfl ?_
      refine r_getI dX12_rule_39 fX12_117 rfl tX12_15 ?_
      refine r_isub dX12_rule_42 ?_
      exact r_ireturn dX12_rule_43 rfl ⟨_, rfl, T⟩
  · have T := T.2 h_2
    refine r_iconst dX12_rule_9 (by decide) ?_
    exact r_ireturn dX12_rule_10 rfl ⟨_, rfl, T⟩
theorem eX12_rule {G : Gx} {n : Nat} {M : Mem} {Q : Int → Mem → Prop}   (h : ∀ K : Kx, CW G K mX12_rule n 0 [some (vO 0)] [] M (qI Q)) : OkI G n mX12_rule [vO 0] M Q := Ok_of (by decide) (Nat.le_of_ble_eq_true rfl) rfl h
-- DownOnlyModel house ()I
set_option maxRecDepth 20000 in
set_option maxHeartbeats 1000000 in
theorem bX12_house_0 {G : Gx} {K : Kx} {n : Nat} {M : Mem} {Q : Int → Mem → Prop}    (T : ∀ M1 : Mem, M1 = mset M 0 17 0 6 → ∀ M2 : Mem, M2 = mset M1 0 7 0 0 → ∀ M3 : Mem, M3 = mset M2 0 8 0 0 → ∀ M4 : Mem, M4 = mset M3 0 9 0 0 → ∀ M5 : Mem, M5 = mset M4 0 10 0 0 → ∀ M6 : Mem, M6 = mset M5 0 10 1 0 → ∀ M7 : Mem, M7 = mset M6 0 10 2 0 → OkI G n mX12_readsAll [vO 0] M7 (fun r_1 M8 => (¬ r_1 = 0 → ∀ M9 : Mem, M9 = mset M8 0 26 0 (M8 0 7 0) → ∀ M10 : Mem, M10 = mset M9 0 26 1 (M9 0 8 0) → ∀ M11 : Mem, M11 = mset M10 0 26 2 (M10 0 9 0) → ∀ M12 : Mem, M12 = mset M11 0 26 3 0 → CW G K mX12_house (n + 1) 96 [some (vO 0), some (vI 0)] [] M12 (qI Q)) ∧ (r_1 = 0 → Q (wr ((-2) - (M8 0 15 0))) M8))) : CW G K mX12_house (n + 1) 0 [some (vO 0), none] [] M (qI Q) := by
  refine r_aload_n dX12_house_0 rfl ?_
  refine r_bipush dX12_house_1 (by decide) (by decide) ?_
  refine n_put dX12_house_3 pX12_168 rfl tX12_17 (fun M1 hM1 => ?_)
  have T := T M1 hM1
  refine r_aload_n dX12_house_6 rfl ?_
  refine r_iconst dX12_house_7 (by decide) ?_
  refine n_put dX12_house_8 pX12_240 rfl tX12_7 (fun M2 hM2 => ?_)
  have T := T M2 hM2
  refine r_aload_n dX12_house_11 rfl ?_
  refine r_iconst dX12_house_12 (by decide) ?_
  refine n_put dX12_house_13 pX12_243 rfl tX12_8 (fun M3 hM3 => ?_)
  have T := T M3 hM3
  refine r_aload_n dX12_house_16 rfl ?_
  refine r_iconst dX12_house_17 (by decide) ?_
  refine n_put dX12_house_18 pX12_246 rfl tX12_9 (fun M4 hM4 => ?_)
  have T := T M4 hM4
  refine r_aload_n dX12_house_21 rfl ?_
  refine r_getA dX12_house_22 fX12_26 rfl uX12_10 ?_
  refine r_iconst dX12_house_25 (by decide) ?_
  refine r_iconst dX12_house_26 (by decide) ?_
  refine n_iast dX12_house_27 rfl tX12_10 aX12_10 (by decide) (fun M5 hM5 => ?_)
  have T := T M5 hM5
  refine r_aload_n dX12_house_28 rfl ?_
  refine r_getA dX12_house_29 fX12_26 rfl uX12_10 ?_
  refine r_iconst dX12_house_32 (by decide) ?_
  refine r_iconst dX12_house_33 (by decide) ?_
  refine n_iast dX12_house_34 rfl tX12_10 aX12_10 (by decide) (fun M6 hM6 => ?_)
  have T := T M6 hM6
  refine r_aload_n dX12_house_35 rfl ?_
  refine r_getA dX12_house_36 fX12_26 rfl uX12_10 ?_
  refine r_iconst dX12_house_39 (by decide) ?_
  refine r_iconst dX12_house_40 (by decide) ?_
  refine n_iast dX12_house_41 rfl tX12_10 aX12_10 (by decide) (fun M7 hM7 => ?_)
  have T := T M7 hM7
  refine r_aload_n dX12_house_42 rfl ?_
  refine r_callVI (md' := mX12_readsAll) (as := []) dX12_house_43 lX12_297 iX12_readsAll rfl rfl rfl (Nat.le_of_ble_eq_true rfl) T (fun r_1 M8 T => ?_)
  refine r_if_ne (tgt := 57) dX12_house_46 (by decide) (fun h_1 => ?_) (fun h_1 => ?_)
  · have T := T.1 h_1
    refine r_aload_n dX12_house_57 rfl ?_
    refine r_getA dX12_house_58 fX12_48 rfl uX12_26 ?_
    refine r_iconst dX12_house_61 (by decide) ?_
    refine r_aload_n dX12_house_62 rfl ?_
    refine r_getI dX12_house_63 fX12_240 rfl tX12_7 ?_
    refine n_iast dX12_house_66 rfl tX12_26 aX12_26 (by decide) (fun M9 hM9 => ?_)
    have T := T M9 hM9
    refine r_aload_n dX12_house_67 rfl ?_
    refine r_getA dX12_house_68 fX12_48 rfl uX12_26 ?_
    refine r_iconst dX12_house_71 (by decide) ?_
    refine r_aload_n dX12_house_72 rfl ?_
    refine r_getI dX12_house_73 fX12_243 rfl tX12_8 ?_
    refine n_iast dX12_house_76 rfl tX12_26 aX12_26 (by decide) (fun M10 hM10 => ?_)
    have T := T M10 hM10
    refine r_aload_n dX12_house_77 rfl ?_
    refine r_getA dX12_house_78 fX12_48 rfl uX12_26 ?_
    refine r_iconst dX12_house_81 (by decide) ?_
    refine r_aload_n dX12_house_82 rfl ?_
    refine r_getI dX12_house_83 fX12_246 rfl tX12_9 ?_
    refine n_iast dX12_house_86 rfl tX12_26 aX12_26 (by decide) (fun M11 hM11 => ?_)
    have T := T M11 hM11
    refine r_aload_n dX12_house_87 rfl ?_
    refine r_getA dX12_house_88 fX12_48 rfl uX12_26 ?_
    refine r_iconst dX12_house_91 (by decide) ?_
    refine r_iconst dX12_house_92 (by decide) ?_
    refine n_iast dX12_house_93 rfl tX12_26 aX12_26 (by decide) (fun M12 hM12 => ?_)
    have T := T M12 hM12
    refine r_iconst dX12_house_94 (by decide) ?_
    refine r_istore_n dX12_house_95 (by decide) rfl ?_
    exact T
  · have T := T.2 h_1
    refine r_bipush dX12_house_49 (by decide) (by decide) ?_
    refine r_aload_n dX12_house_51 rfl ?_
    refine r_getI dX12_house_52 fX12_117 rfl tX12_15 ?_
    refine r_isub dX12_house_55 ?_
    exact r_ireturn dX12_house_56 rfl ⟨_, rfl, T⟩
set_option maxRecDepth 20000 in
set_option maxHeartbeats 1000000 in
theorem bX12_house_96 {G : Gx} {K : Kx} {n : Nat} {M : Mem} {Q : Int → Mem → Prop}  {x1 : Int}  (T : (3 ≤ x1 → ∀ M1 : Mem, M1 = mset M 0 26 7 0 → ∀ M2 : Mem, M2 = mset M1 0 26 8 0 → CW G K mX12_house (n + 1) 139 [some (vO 0), some (vI 0)] [] M2 (qI Q)) ∧ (¬ (3 ≤ x1) → (0 ≤ x1 ∧ x1 < 3) ∧ ((0 ≤ wr (4 + x1) ∧ wr (4 + x1) < 328) ∧ (∀ M3 : Mem, M3 = mset M 0 26 (wr (4 + x1)).toNat (M 0 10 x1.toNat) → CW G K mX12_house (n + 1) 96 [some (vO 0), some (vI (wr (x1 + 1)))] [] M3 (qI Q))))) : CW G K mX12_house (n + 1) 96 [some (vO 0), some (vI x1)] [] M (qI Q) := by
  refine r_iload_n dX12_house_96 rfl ?_
  refine r_iconst dX12_house_97 (by decide) ?_
  refine r_icmp_ge (tgt := 121) dX12_house_98 (by decide) (fun h_1 => ?_) (fun h_1 => ?_)
  · have T := T.1 h_1
    refine r_aload_n dX12_house_121 rfl ?_
    refine r_getA dX12_house_122 fX12_48 rfl uX12_26 ?_
    refine r_bipush dX12_house_125 (by decide) (by decide) ?_
    refine r_iconst dX12_house_127 (by decide) ?_
    refine n_iast dX12_house_128 rfl tX12_26 aX12_26 (by decide) (fun M1 hM1 => ?_)
    have T := T M1 hM1
    refine r_aload_n dX12_house_129 rfl ?_
    refine r_getA dX12_house_130 fX12_48 rfl uX12_26 ?_
    refine r_bipush dX12_house_133 (by decide) (by decide) ?_
    refine r_iconst dX12_house_135 (by decide) ?_
    refine n_iast dX12_house_136 rfl tX12_26 aX12_26 (by decide) (fun M2 hM2 => ?_)
    have T := T M2 hM2
    refine r_iconst dX12_house_137 (by decide) ?_
    refine r_istore_n dX12_house_138 (by decide) rfl ?_
    exact T
  · have T := T.2 h_1
    refine r_aload_n dX12_house_101 rfl ?_
    refine r_getA dX12_house_102 fX12_48 rfl uX12_26 ?_
    refine r_iconst dX12_house_105 (by decide) ?_
    refine r_iload_n dX12_house_106 rfl ?_
    refine r_iadd dX12_house_107 ?_
    refine r_aload_n dX12_house_108 rfl ?_
    refine r_getA dX12_house_109 fX12_26 rfl uX12_10 ?_
    refine r_iload_n dX12_house_112 rfl ?_
    refine s_iald dX12_house_113 rfl tX12_10 aX12_10 T.1 ?_
    have T := T.2
    refine n_iast dX12_house_114 rfl tX12_26 aX12_26 T.1 (fun M3 hM3 => ?_)
    have T := T.2 M3 hM3
    refine r_iinc dX12_house_115 rfl (by decide) rfl ?_
    refine r_goto (tgt := 96) dX12_house_118 (by decide) ?_
    exact T
set_option maxRecDepth 20000 in
set_option maxHeartbeats 1000000 in
theorem bX12_house_139 {G : Gx} {K : Kx} {n : Nat} {M : Mem} {Q : Int → Mem → Prop}  {x1 : Int}  (T : (M 0 7 0 ≤ x1 → CW G K mX12_house (n + 1) 170 [some (vO 0), some (vI 0)] [] M (qI Q)) ∧ (¬ (M 0 7 0 ≤ x1) → (0 ≤ x1 ∧ x1 < 16) ∧ ((0 ≤ wr (12 + x1) ∧ wr (12 + x1) < 328) ∧ (∀ M1 : Mem, M1 = mset M 0 26 (wr (12 + x1)).toNat (M 0 11 x1.toNat) → CW G K mX12_house (n + 1) 139 [some (vO 0), some (vI (wr (x1 + 1)))] [] M1 (qI Q))))) : CW G K mX12_house (n + 1) 139 [some (vO 0), some (vI x1)] [] M (qI Q) := by
  refine r_iload_n dX12_house_139 rfl ?_
  refine r_aload_n dX12_house_140 rfl ?_
  refine r_getI dX12_house_141 fX12_240 rfl tX12_7 ?_
  refine r_icmp_ge (tgt := 168) dX12_house_144 (by decide) (fun h_1 => ?_) (fun h_1 => ?_)
  · have T := T.1 h_1
    refine r_iconst dX12_house_168 (by decide) ?_
    refine r_istore_n dX12_house_169 (by decide) rfl ?_
    exact T
  · have T := T.2 h_1
    refine r_aload_n dX12_house_147 rfl ?_
    refine r_getA dX12_house_148 fX12_48 rfl uX12_26 ?_
    refine r_bipush dX12_house_151 (by decide) (by decide) ?_
    refine r_iload_n dX12_house_153 rfl ?_
    refine r_iadd dX12_house_154 ?_
    refine r_aload_n dX12_house_155 rfl ?_
    refine r_getA dX12_house_156 fX12_29 rfl uX12_11 ?_
    refine r_iload_n dX12_house_159 rfl ?_
    refine s_iald dX12_house_160 rfl tX12_11 aX12_11 T.1 ?_
    have T := T.2
    refine n_iast dX12_house_161 rfl tX12_26 aX12_26 T.1 (fun M1 hM1 => ?_)
    have T := T.2 M1 hM1
    refine r_iinc dX12_house_162 rfl (by decide) rfl ?_
    refine r_goto (tgt := 139) dX12_house_165 (by decide) ?_
    exact T
set_option maxRecDepth 20000 in
set_option maxHeartbeats 1000000 in
theorem bX12_house_170 {G : Gx} {K : Kx} {n : Nat} {M : Mem} {Q : Int → Mem → Prop}  {x1 : Int}  (T : (wr (6 * (M 0 8 0)) ≤ x1 → CW G K mX12_house (n + 1) 204 [some (vO 0), some (vI 0)] [] M (qI Q)) ∧ (¬ (wr (6 * (M 0 8 0)) ≤ x1) → (0 ≤ x1 ∧ x1 < 144) ∧ ((0 ≤ wr (28 + x1) ∧ wr (28 + x1) < 328) ∧ (∀ M1 : Mem, M1 = mset M 0 26 (wr (28 + x1)).toNat (M 0 12 x1.toNat) → CW G K mX12_house (n + 1) 170 [some (vO 0), some (vI (wr (x1 + 1)))] [] M1 (qI Q))))) : CW G K mX12_house (n + 1) 170 [some (vO 0), some (vI x1)] [] M (qI Q) := by
  refine r_iload_n dX12_house_170 rfl ?_
  refine r_bipush dX12_house_171 (by decide) (by decide) ?_
  refine r_aload_n dX12_house_173 rfl ?_
  refine r_getI dX12_house_174 fX12_243 rfl tX12_8 ?_
  refine r_imul dX12_house_177 ?_
  refine r_icmp_ge (tgt := 202) dX12_house_178 (by decide) (fun h_1 => ?_) (fun h_1 => ?_)
  · have T := T.1 h_1
    refine r_iconst dX12_house_202 (by decide) ?_
    refine r_istore_n dX12_house_203 (by decide) rfl ?_
    exact T
  · have T := T.2 h_1
    refine r_aload_n dX12_house_181 rfl ?_
    refine r_getA dX12_house_182 fX12_48 rfl uX12_26 ?_
    refine r_bipush dX12_house_185 (by decide) (by decide) ?_
    refine r_iload_n dX12_house_187 rfl ?_
    refine r_iadd dX12_house_188 ?_
    refine r_aload_n dX12_house_189 rfl ?_
    refine r_getA dX12_house_190 fX12_32 rfl uX12_12 ?_
    refine r_iload_n dX12_house_193 rfl ?_
    refine s_iald dX12_house_194 rfl tX12_12 aX12_12 T.1 ?_
    have T := T.2
    refine n_iast dX12_house_195 rfl tX12_26 aX12_26 T.1 (fun M1 hM1 => ?_)
    have T := T.2 M1 hM1
    refine r_iinc dX12_house_196 rfl (by decide) rfl ?_
    refine r_goto (tgt := 170) dX12_house_199 (by decide) ?_
    exact T
set_option maxRecDepth 20000 in
set_option maxHeartbeats 1000000 in
theorem bX12_house_204 {G : Gx} {K : Kx} {n : Nat} {M : Mem} {Q : Int → Mem → Prop}  {x1 : Int}  (T : (M 0 9 0 ≤ x1 → Q (M 0 7 0) M) ∧ (¬ (M 0 9 0 ≤ x1) → (0 ≤ x1 ∧ x1 < 8) ∧ ((0 ≤ wr (wr (172 + (wr (5 * x1))) + 1) ∧ wr (wr (172 + (wr (5 * x1))) + 1) < 328) ∧ (∀ M1 : Mem, M1 = mset M 0 26 (wr (wr (172 + (wr (5 * x1))) + 1)).toNat (M 0 13 x1.toNat) → (0 ≤ x1 ∧ x1 < 8) ∧ (OkV G n mX12_begins [vO 0, vI x1, vI (M1 0 13 x1.toNat)] M1 (fun M2 => CW G K mX12_house (n + 1) 204 [some (vO 0), some (vI (wr (x1 + 1)))] [] M2 (qI Q))))))) : CW G K mX12_house (n + 1) 204 [some (vO 0), some (vI x1)] [] M (qI Q) := by
  refine r_iload_n dX12_house_204 rfl ?_
  refine r_aload_n dX12_house_205 rfl ?_
  refine r_getI dX12_house_206 fX12_246 rfl tX12_9 ?_
  refine r_icmp_ge (tgt := 249) dX12_house_209 (by decide) (fun h_1 => ?_) (fun h_1 => ?_)
  · have T := T.1 h_1
    refine r_aload_n dX12_house_249 rfl ?_
    refine r_getI dX12_house_250 fX12_240 rfl tX12_7 ?_
    exact r_ireturn dX12_house_253 rfl ⟨_, rfl, T⟩
  · have T := T.2 h_1
    refine r_aload_n dX12_house_212 rfl ?_
    refine r_getA dX12_house_213 fX12_48 rfl uX12_26 ?_
    refine r_sipush dX12_house_216 (by decide) (by decide) ?_
    refine r_iconst dX12_house_219 (by decide) ?_
    refine r_iload_n dX12_house_220 rfl ?_
    refine r_imul dX12_house_221 ?_
    refine r_iadd dX12_house_222 ?_
    refine r_iconst dX12_house_223 (by decide) ?_
    refine r_iadd dX12_house_224 ?_
    refine r_aload_n dX12_house_225 rfl ?_
    refine r_getA dX12_house_226 fX12_35 rfl uX12_13 ?_
    refine r_iload_n dX12_house_229 rfl ?_
    refine s_iald dX12_house_230 rfl tX12_13 aX12_13 T.1 ?_
    have T := T.2
    refine n_iast dX12_house_231 rfl tX12_26 aX12_26 T.1 (fun M1 hM1 => ?_)
    have T := T.2 M1 hM1
    refine r_aload_n dX12_house_232 rfl ?_
    refine r_iload_n dX12_house_233 rfl ?_
    refine r_aload_n dX12_house_234 rfl ?_
    refine r_getA dX12_house_235 fX12_35 rfl uX12_13 ?_
    refine r_iload_n dX12_house_238 rfl ?_
    refine s_iald dX12_house_239 rfl tX12_13 aX12_13 T.1 ?_
    have T := T.2
    refine r_callVV (md' := mX12_begins) (as := [vI x1, vI (M1 0 13 x1.toNat)]) dX12_house_240 lX12_300 iX12_begins rfl rfl rfl (Nat.le_of_ble_eq_true rfl) T (fun M2 T => ?_)
    refine r_iinc dX12_house_243 rfl (by decide) rfl ?_
    refine r_goto (tgt := 204) dX12_house_246 (by decide) ?_
    exact T
theorem eX12_house {G : Gx} {n : Nat} {M : Mem} {Q : Int → Mem → Prop}   (h : ∀ K : Kx, CW G K mX12_house n 0 [some (vO 0), none] [] M (qI Q)) : OkI G n mX12_house [vO 0] M Q := Ok_of (by decide) (Nat.le_of_ble_eq_true rfl) rfl h
-- DownOnlyModel isRule (I)Z
set_option maxRecDepth 20000 in
set_option maxHeartbeats 1000000 in
theorem bX12_isRule_0 {G : Gx} {K : Kx} {n : Nat} {M : Mem} {Q : Int → Mem → Prop}  {x1 : Int}  (T : (x1 < 0 → Q 0 M) ∧ (¬ (x1 < 0) → (M 0 2 0 ≤ x1 → Q 0 M) ∧ (¬ (M 0 2 0 ≤ x1) → Q 1 M))) : CW G K mX12_isRule n 0 [some (vO 0), some (vI x1)] [] M (qI Q) := by
  refine r_iload_n dX12_isRule_0 rfl ?_
  refine r_if_lt (tgt := 16) dX12_isRule_1 (by decide) (fun h_2 => ?_) (fun h_2 => ?_)
  · have T := T.1 h_2
    refine r_iconst dX12_isRule_16 (by decide) ?_
    exact r_zreturn dX12_isRule_17 rfl (by decide) ⟨_, rfl, T⟩
  · have T := T.2 h_2
    refine r_iload_n dX12_isRule_4 rfl ?_
    refine r_aload_n dX12_isRule_5 rfl ?_
    refine r_getI dX12_isRule_6 fX12_294 rfl tX12_2 ?_
    refine r_icmp_ge (tgt := 16) dX12_isRule_9 (by decide) (fun h_1 => ?_) (fun h_1 => ?_)
    · have T := T.1 h_1
      refine r_iconst dX12_isRule_16 (by decide) ?_
      exact r_zreturn dX12_isRule_17 rfl (by decide) ⟨_, rfl, T⟩
    · have T := T.2 h_1
      refine r_iconst dX12_isRule_12 (by decide) ?_
      refine r_goto (tgt := 17) dX12_isRule_13 (by decide) ?_
      exact r_zreturn dX12_isRule_17 rfl (by decide) ⟨_, rfl, T⟩
theorem eX12_isRule {G : Gx} {n : Nat} {M : Mem} {Q : Int → Mem → Prop}  {x1 : Int} (h : ∀ K : Kx, CW G K mX12_isRule n 0 [some (vO 0), some (vI x1)] [] M (qI Q)) : OkI G n mX12_isRule [vO 0, vI x1] M Q := Ok_of (by decide) (Nat.le_of_ble_eq_true rfl) rfl h
-- DownOnlyModel push (J)V
set_option maxRecDepth 20000 in
set_option maxHeartbeats 1000000 in
theorem bX12_push_0 {G : Gx} {K : Kx} {n : Nat} {M : Mem} {Q : Mem → Prop}  {x1 : Int}  (T : (0 ≤ M 0 24 0 ∧ M 0 24 0 < 64) ∧ (∀ M1 : Mem, M1 = mset M 0 23 (M 0 24 0).toNat x1 → ∀ M2 : Mem, M2 = mset M1 0 24 0 (wr (M1 0 24 0 + 1)) → Q M2)) : CW G K mX12_push n 0 [some (vO 0), some (vL x1), none] [] M (qV Q) := by
  refine r_aload_n dX12_push_0 rfl ?_
  refine r_getA dX12_push_1 fX12_41 rfl uX12_23 ?_
  refine r_aload_n dX12_push_4 rfl ?_
  refine r_getI dX12_push_5 fX12_303 rfl tX12_24 ?_
  refine r_lload_n dX12_push_8 rfl ?_
  refine n_last dX12_push_9 rfl tX12_23 aX12_23 T.1 (fun M1 hM1 => ?_)
  have T := T.2 M1 hM1
  refine r_aload_n dX12_push_10 rfl ?_
  refine r_dup dX12_push_11 rfl ?_
  refine r_getI dX12_push_12 fX12_303 rfl tX12_24 ?_
  refine r_iconst dX12_push_15 (by decide) ?_
  refine r_iadd dX12_push_16 ?_
  refine n_put dX12_push_17 pX12_303 rfl tX12_24 (fun M2 hM2 => ?_)
  have T := T M2 hM2
  exact r_return dX12_push_20 rfl ⟨rfl, T⟩
theorem eX12_push {G : Gx} {n : Nat} {M : Mem} {Q : Mem → Prop}  {x1 : Int} (h : ∀ K : Kx, CW G K mX12_push n 0 [some (vO 0), some (vL x1), none] [] M (qV Q)) : OkV G n mX12_push [vO 0, vL x1] M Q := Ok_of (by decide) (Nat.le_of_ble_eq_true rfl) rfl h
-- DownOnlyModel pop ()J
set_option maxRecDepth 20000 in
set_option maxHeartbeats 1000000 in
theorem bX12_pop_0 {G : Gx} {K : Kx} {n : Nat} {M : Mem} {Q : Int → Mem → Prop}    (T : ∀ M1 : Mem, M1 = mset M 0 24 0 (wr (M 0 24 0 - 1)) → (0 ≤ M1 0 24 0 ∧ M1 0 24 0 < 64) ∧ (Q (M1 0 23 (M1 0 24 0).toNat) M1)) : CW G K mX12_pop n 0 [some (vO 0)] [] M (qJ Q) := by
  refine r_aload_n dX12_pop_0 rfl ?_
  refine r_dup dX12_pop_1 rfl ?_
  refine r_getI dX12_pop_2 fX12_303 rfl tX12_24 ?_
  refine r_iconst dX12_pop_5 (by decide) ?_
  refine r_isub dX12_pop_6 ?_
  refine n_put dX12_pop_7 pX12_303 rfl tX12_24 (fun M1 hM1 => ?_)
  have T := T M1 hM1
  refine r_aload_n dX12_pop_10 rfl ?_
  refine r_getA dX12_pop_11 fX12_41 rfl uX12_23 ?_
  refine r_aload_n dX12_pop_14 rfl ?_
  refine r_getI dX12_pop_15 fX12_303 rfl tX12_24 ?_
  refine s_lald dX12_pop_18 rfl tX12_23 aX12_23 T.1 ?_
  have T := T.2
  exact r_lreturn dX12_pop_19 rfl ⟨_, rfl, T⟩
theorem eX12_pop {G : Gx} {n : Nat} {M : Mem} {Q : Int → Mem → Prop}   (h : ∀ K : Kx, CW G K mX12_pop n 0 [some (vO 0)] [] M (qJ Q)) : OkJ G n mX12_pop [vO 0] M Q := Ok_of (by decide) (Nat.le_of_ble_eq_true rfl) rfl h
-- DownOnlyModel one (IJJ)J
set_option maxRecDepth 20000 in
set_option maxHeartbeats 1000000 in
theorem bX12_one_0 {G : Gx} {K : Kx} {n : Nat} {M : Mem} {Q : Int → Mem → Prop}  {x0 : Int} {x1 : Int} {x3 : Int}  (T : ((x0 < 2 ∨ 12 < x0) → Q (lOr x1 x3) M) ∧ (x0 = 2 → Q (wl (x1 + x3)) M) ∧ (x0 = 3 → Q (wl (x1 - x3)) M) ∧ (x0 = 4 → Q (wl (x1 * x3)) M) ∧ (x0 = 5 → (¬ sg x3 0 = 0 → (x3 ≠ 0) ∧ (Q (wl (Int.tdiv x1 x3)) M)) ∧ (sg x3 0 = 0 → Q 0 M)) ∧ (x0 = 6 → (0 ≤ sg x1 x3 → Q 0 M) ∧ (¬ (0 ≤ sg x1 x3) → Q 1 M)) ∧ (x0 = 7 → (0 < sg x1 x3 → Q 0 M) ∧ (¬ (0 < sg x1 x3) → Q 1 M)) ∧ (x0 = 8 → (¬ sg x1 x3 = 0 → Q 0 M) ∧ (sg x1 x3 = 0 → Q 1 M)) ∧ (x0 = 9 → (sg x1 x3 < 0 → Q 0 M) ∧ (¬ (sg x1 x3 < 0) → Q 1 M)) ∧ (x0 = 10 → (sg x1 x3 ≤ 0 → Q 0 M) ∧ (¬ (sg x1 x3 ≤ 0) → Q 1 M)) ∧ (x0 = 11 → Q (lOr x1 x3) M) ∧ (x0 = 12 → Q (lAnd x1 x3) M)) : CW G K mX12_one n 0 [some (vI x0), some (vL x1), none, some (vL x3), none] [] M (qJ Q) := by
  refine r_iload_n dX12_one_0 rfl ?_
  refine r_tsw (td := 150) (tg := [60, 64, 68, 72, 86, 98, 110, 122, 134, 150, 146]) dX12_one_1 (by decide) (by decide) (by decide) (fun h_ => ?_) (fun j t ht hx => ?_)
  · have T := T.1 h_
    refine r_lload_n dX12_one_150 rfl ?_
    refine r_lload_n dX12_one_151 rfl ?_
    refine r_lor dX12_one_152 ?_
    exact r_lreturn dX12_one_153 rfl ⟨_, rfl, T⟩
  · match j, ht, hx with
    | 0, ht, hx =>
      cases ht
      have T := T.2.1 (by omega)
      refine r_lload_n dX12_one_60 rfl ?_
      refine r_lload_n dX12_one_61 rfl ?_
      refine r_ladd dX12_one_62 ?_
      exact r_lreturn dX12_one_63 rfl ⟨_, rfl, T⟩
    | 1, ht, hx =>
      cases ht
      have T := T.2.2.1 (by omega)
      refine r_lload_n dX12_one_64 rfl ?_
      refine r_lload_n dX12_one_65 rfl ?_
      refine r_lsub dX12_one_66 ?_
      exact r_lreturn dX12_one_67 rfl ⟨_, rfl, T⟩
    | 2, ht, hx =>
      cases ht
      have T := T.2.2.2.1 (by omega)
      refine r_lload_n dX12_one_68 rfl ?_
      refine r_lload_n dX12_one_69 rfl ?_
      refine r_lmul dX12_one_70 ?_
      exact r_lreturn dX12_one_71 rfl ⟨_, rfl, T⟩
    | 3, ht, hx =>
      cases ht
      have T := T.2.2.2.2.1 (by omega)
      refine r_lload_n dX12_one_72 rfl ?_
      refine r_lconst (z := 0) dX12_one_73 (by decide) (by decide) ?_
      refine r_lcmp dX12_one_74 ?_
      refine r_if_ne (tgt := 82) dX12_one_75 (by decide) (fun h_1 => ?_) (fun h_1 => ?_)
      · have T := T.1 h_1
        refine r_lload_n dX12_one_82 rfl ?_
        refine r_lload_n dX12_one_83 rfl ?_
        refine r_ldiv dX12_one_84 T.1 ?_
        have T := T.2
        exact r_lreturn dX12_one_85 rfl ⟨_, rfl, T⟩
      · have T := T.2 h_1
        refine r_lconst (z := 0) dX12_one_78 (by decide) (by decide) ?_
        refine r_goto (tgt := 85) dX12_one_79 (by decide) ?_
        exact r_lreturn dX12_one_85 rfl ⟨_, rfl, T⟩
    | 4, ht, hx =>
      cases ht
      have T := T.2.2.2.2.2.1 (by omega)
      refine r_lload_n dX12_one_86 rfl ?_
      refine r_lload_n dX12_one_87 rfl ?_
      refine r_lcmp dX12_one_88 ?_
      refine r_if_ge (tgt := 96) dX12_one_89 (by decide) (fun h_2 => ?_) (fun h_2 => ?_)
      · have T := T.1 h_2
        refine r_lconst (z := 0) dX12_one_96 (by decide) (by decide) ?_
        exact r_lreturn dX12_one_97 rfl ⟨_, rfl, T⟩
      · have T := T.2 h_2
        refine r_lconst (z := 1) dX12_one_92 (by decide) (by decide) ?_
        refine r_goto (tgt := 97) dX12_one_93 (by decide) ?_
        exact r_lreturn dX12_one_97 rfl ⟨_, rfl, T⟩
    | 5, ht, hx =>
      cases ht
      have T := T.2.2.2.2.2.2.1 (by omega)
      refine r_lload_n dX12_one_98 rfl ?_
      refine r_lload_n dX12_one_99 rfl ?_
      refine r_lcmp dX12_one_100 ?_
      refine r_if_gt (tgt := 108) dX12_one_101 (by decide) (fun h_3 => ?_) (fun h_3 => ?_)
      · have T := T.1 h_3
        refine r_lconst (z := 0) dX12_one_108 (by decide) (by decide) ?_
        exact r_lreturn dX12_one_109 rfl ⟨_, rfl, T⟩
      · have T := T.2 h_3
        refine r_lconst (z := 1) dX12_one_104 (by decide) (by decide) ?_
        refine r_goto (tgt := 109) dX12_one_105 (by decide) ?_
        exact r_lreturn dX12_one_109 rfl ⟨_, rfl, T⟩
    | 6, ht, hx =>
      cases ht
      have T := T.2.2.2.2.2.2.2.1 (by omega)
      refine r_lload_n dX12_one_110 rfl ?_
      refine r_lload_n dX12_one_111 rfl ?_
      refine r_lcmp dX12_one_112 ?_
      refine r_if_ne (tgt := 120) dX12_one_113 (by decide) (fun h_4 => ?_) (fun h_4 => ?_)
      · have T := T.1 h_4
        refine r_lconst (z := 0) dX12_one_120 (by decide) (by decide) ?_
        exact r_lreturn dX12_one_121 rfl ⟨_, rfl, T⟩
      · have T := T.2 h_4
        refine r_lconst (z := 1) dX12_one_116 (by decide) (by decide) ?_
        refine r_goto (tgt := 121) dX12_one_117 (by decide) ?_
        exact r_lreturn dX12_one_121 rfl ⟨_, rfl, T⟩
    | 7, ht, hx =>
      cases ht
      have T := T.2.2.2.2.2.2.2.2.1 (by omega)
      refine r_lload_n dX12_one_122 rfl ?_
      refine r_lload_n dX12_one_123 rfl ?_
      refine r_lcmp dX12_one_124 ?_
      refine r_if_lt (tgt := 132) dX12_one_125 (by decide) (fun h_5 => ?_) (fun h_5 => ?_)
      · have T := T.1 h_5
        refine r_lconst (z := 0) dX12_one_132 (by decide) (by decide) ?_
        exact r_lreturn dX12_one_133 rfl ⟨_, rfl, T⟩
      · have T := T.2 h_5
        refine r_lconst (z := 1) dX12_one_128 (by decide) (by decide) ?_
        refine r_goto (tgt := 133) dX12_one_129 (by decide) ?_
        exact r_lreturn dX12_one_133 rfl ⟨_, rfl, T⟩
    | 8, ht, hx =>
      cases ht
      have T := T.2.2.2.2.2.2.2.2.2.1 (by omega)
      refine r_lload_n dX12_one_134 rfl ?_
      refine r_lload_n dX12_one_135 rfl ?_
      refine r_lcmp dX12_one_136 ?_
      refine r_if_le (tgt := 144) dX12_one_137 (by decide) (fun h_6 => ?_) (fun h_6 => ?_)
      · have T := T.1 h_6
        refine r_lconst (z := 0) dX12_one_144 (by decide) (by decide) ?_
        exact r_lreturn dX12_one_145 rfl ⟨_, rfl, T⟩
      · have T := T.2 h_6
        refine r_lconst (z := 1) dX12_one_140 (by decide) (by decide) ?_
        refine r_goto (tgt := 145) dX12_one_141 (by decide) ?_
        exact r_lreturn dX12_one_145 rfl ⟨_, rfl, T⟩
    | 9, ht, hx =>
      cases ht
      have T := T.2.2.2.2.2.2.2.2.2.2.1 (by omega)
      refine r_lload_n dX12_one_150 rfl ?_
      refine r_lload_n dX12_one_151 rfl ?_
      refine r_lor dX12_one_152 ?_
      exact r_lreturn dX12_one_153 rfl ⟨_, rfl, T⟩
    | 10, ht, hx =>
      cases ht
      have T := T.2.2.2.2.2.2.2.2.2.2.2 (by omega)
      refine r_lload_n dX12_one_146 rfl ?_
      refine r_lload_n dX12_one_147 rfl ?_
      refine r_land dX12_one_148 ?_
      exact r_lreturn dX12_one_149 rfl ⟨_, rfl, T⟩
    | j + 11, ht, hx => exact absurd ht (by simp)
theorem eX12_one {G : Gx} {n : Nat} {M : Mem} {Q : Int → Mem → Prop}  {x0 : Int} {x1 : Int} {x3 : Int} (h : ∀ K : Kx, CW G K mX12_one n 0 [some (vI x0), some (vL x1), none, some (vL x3), none] [] M (qJ Q)) : OkJ G n mX12_one [vI x0, vL x1, vL x3] M Q := Ok_of (by decide) (Nat.le_of_ble_eq_true rfl) rfl h
-- DownOnlyModel reckons (III)J
set_option maxRecDepth 20000 in
set_option maxHeartbeats 1000000 in
theorem bX12_reckons_0 {G : Gx} {K : Kx} {n : Nat} {M : Mem} {Q : Int → Mem → Prop}  {x1 : Int} {x2 : Int} {x3 : Int}  (T : ∀ M1 : Mem, M1 = mset M 0 24 0 0 → CW G K mX12_reckons (n + 1) 8 [some (vO 0), some (vI x1), none, some (vI x3), some (vI x2), none, none, none, none, none, none] [] M1 (qJ Q)) : CW G K mX12_reckons (n + 1) 0 [some (vO 0), some (vI x1), some (vI x2), some (vI x3), none, none, none, none, none, none, none] [] M (qJ Q) := by
  refine r_aload_n dX12_reckons_0 rfl ?_
  refine r_iconst dX12_reckons_1 (by decide) ?_
  refine n_put dX12_reckons_2 pX12_303 rfl tX12_24 (fun M1 hM1 => ?_)
  have T := T M1 hM1
  refine r_iload_n dX12_reckons_5 rfl ?_
  refine r_istore dX12_reckons_6 (by decide) rfl ?_
  exact CW_msk [true, true, false, true, true, false, false, false, false, false, false] rfl T
set_option maxRecDepth 20000 in
set_option maxHeartbeats 1000000 in
theorem bX12_reckons_8 {G : Gx} {K : Kx} {n : Nat} {M : Mem} {Q : Int → Mem → Prop}  {x1 : Int} {x3 : Int} {x4 : Int}  (T : (x3 ≤ x4 → OkJ G n mX12_pop [vO 0] M (fun r_1 M1 => Q r_1 M1)) ∧ (¬ (x3 ≤ x4) → (0 ≤ wr (wr (400 * x1) + x4) ∧ wr (wr (400 * x1) + x4) < 2400) ∧ ((0 ≤ wr (wr (400 * x1) + x4) ∧ wr (wr (400 * x1) + x4) < 2400) ∧ ((¬ bAnd (M 0 3 (wr (wr (400 * x1) + x4)).toNat) 15 = 0 → (¬ bAnd (M 0 3 (wr (wr (400 * x1) + x4)).toNat) 15 = 1 → (¬ bAnd (M 0 3 (wr (wr (400 * x1) + x4)).toNat) 15 = 11 → OkJ G n mX12_pop [vO 0] M (fun r_2 M2 => OkJ G n mX12_pop [vO 0] M2 (fun r_3 M3 => OkJ G n mX12_one [vI (bAnd (M 0 3 (wr (wr (400 * x1) + x4)).toNat) 15), vL r_3, vL r_2] M3 (fun r_4 M4 => OkV G n mX12_push [vO 0, vL r_4] M4 (fun M5 => CW G K mX12_reckons (n + 1) 8 [some (vO 0), some (vI x1), none, some (vI x3), some (vI (wr (x4 + 1))), none, none, none, none, none, none] [] M5 (qJ Q)))))) ∧ (bAnd (M 0 3 (wr (wr (400 * x1) + x4)).toNat) 15 = 11 → OkJ G n mX12_pop [vO 0] M (fun r_5 M6 => OkV G n mX12_push [vO 0, vL (wl (1 - r_5))] M6 (fun M7 => CW G K mX12_reckons (n + 1) 8 [some (vO 0), some (vI x1), none, some (vI x3), some (vI (wr (x4 + 1))), none, none, none, none, none, none] [] M7 (qJ Q))))) ∧ (bAnd (M 0 3 (wr (wr (400 * x1) + x4)).toNat) 15 = 1 → (0 ≤ bShr (M 0 3 (wr (wr (400 * x1) + x4)).toNat) 4 ∧ bShr (M 0 3 (wr (wr (400 * x1) + x4)).toNat) 4 < 8) ∧ (OkV G n mX12_push [vO 0, vL (M 0 25 (bShr (M 0 3 (wr (wr (400 * x1) + x4)).toNat) 4).toNat)] M (fun M8 => CW G K mX12_reckons (n + 1) 8 [some (vO 0), some (vI x1), none, some (vI x3), some (vI (wr (x4 + 1))), none, none, none, none, none, none] [] M8 (qJ Q))))) ∧ (bAnd (M 0 3 (wr (wr (400 * x1) + x4)).toNat) 15 = 0 → OkV G n mX12_push [vO 0, vL (bShr (M 0 3 (wr (wr (400 * x1) + x4)).toNat) 4)] M (fun M9 => CW G K mX12_reckons (n + 1) 8 [some (vO 0), some (vI x1), none, some (vI x3), some (vI (wr (x4 + 1))), none, none, none, none, none, none] [] M9 (qJ Q))))))) : CW G K mX12_reckons (n + 1) 8 [some (vO 0), some (vI x1), none, some (vI x3), some (vI x4), none, none, none, none, none, none] [] M (qJ Q) := by
  refine r_iload dX12_reckons_8 rfl ?_
  refine r_iload_n dX12_reckons_10 rfl ?_
  refine r_icmp_ge (tgt := 135) dX12_reckons_11 (by decide) (fun h_4 => ?_) (fun h_4 => ?_)
  · have T := T.1 h_4
    refine r_aload_n dX12_reckons_135 rfl ?_
    refine r_callVJ (md' := mX12_pop) (as := []) dX12_reckons_136 lX12_310 iX12_pop rfl rfl rfl (Nat.le_of_ble_eq_true rfl) T (fun r_1 M1 T => ?_)
    exact r_lreturn dX12_reckons_139 rfl ⟨_, rfl, T⟩
  · have T := T.2 h_4
    refine r_aload_n dX12_reckons_14 rfl ?_
    refine r_getA dX12_reckons_15 fX12_13 rfl uX12_3 ?_
    refine r_sipush dX12_reckons_18 (by decide) (by decide) ?_
    refine r_iload_n dX12_reckons_21 rfl ?_
    refine r_imul dX12_reckons_22 ?_
    refine r_iload dX12_reckons_23 rfl ?_
    refine r_iadd dX12_reckons_25 ?_
    refine s_iald dX12_reckons_26 rfl tX12_3 aX12_3 T.1 ?_
    have T := T.2
    refine r_bipush dX12_reckons_27 (by decide) (by decide) ?_
    refine r_iand dX12_reckons_29 ?_
    refine r_istore dX12_reckons_30 (by decide) rfl ?_
    refine r_aload_n dX12_reckons_32 rfl ?_
    refine r_getA dX12_reckons_33 fX12_13 rfl uX12_3 ?_
    refine r_sipush dX12_reckons_36 (by decide) (by decide) ?_
    refine r_iload_n dX12_reckons_39 rfl ?_
    refine r_imul dX12_reckons_40 ?_
    refine r_iload dX12_reckons_41 rfl ?_
    refine r_iadd dX12_reckons_43 ?_
    refine s_iald dX12_reckons_44 rfl tX12_3 aX12_3 T.1 ?_
    have T := T.2
    refine r_iconst dX12_reckons_45 (by decide) ?_
    refine r_ishr dX12_reckons_46 ?_
    refine r_istore dX12_reckons_47 (by decide) rfl ?_
    refine r_iload dX12_reckons_49 rfl ?_
    refine r_if_ne (tgt := 64) dX12_reckons_51 (by decide) (fun h_3 => ?_) (fun h_3 => ?_)
    · have T := T.1 h_3
      refine r_iload dX12_reckons_64 rfl ?_
      refine r_iconst dX12_reckons_66 (by decide) ?_
      refine r_icmp_ne (tgt := 84) dX12_reckons_67 (by decide) (fun h_2 => ?_) (fun h_2 => ?_)
      · have T := T.1 h_2
        refine r_iload dX12_reckons_84 rfl ?_
        refine r_bipush dX12_reckons_86 (by decide) (by decide) ?_
        refine r_icmp_ne (tgt := 104) dX12_reckons_88 (by decide) (fun h_1 => ?_) (fun h_1 => ?_)
        · have T := T.1 h_1
          refine r_aload_n dX12_reckons_104 rfl ?_
          refine r_callVJ (md' := mX12_pop) (as := []) dX12_reckons_105 lX12_310 iX12_pop rfl rfl rfl (Nat.le_of_ble_eq_true rfl) T (fun r_2 M2 T => ?_)
          refine r_lstore dX12_reckons_108 (by decide) rfl ?_
          refine r_aload_n dX12_reckons_110 rfl ?_
          refine r_callVJ (md' := mX12_pop) (as := []) dX12_reckons_111 lX12_310 iX12_pop rfl rfl rfl (Nat.le_of_ble_eq_true rfl) T (fun r_3 M3 T => ?_)
          refine r_lstore dX12_reckons_114 (by decide) rfl ?_
          refine r_aload_n dX12_reckons_116 rfl ?_
          refine r_iload dX12_reckons_117 rfl ?_
          refine r_lload dX12_reckons_119 rfl ?_
          refine r_lload dX12_reckons_121 rfl ?_
          refine r_callSJ (md' := mX12_one) (as := [vI (bAnd (M 0 3 (wr (wr (400 * x1) + x4)).toNat) 15), vL r_3, vL r_2]) dX12_reckons_123 lX12_314 iX12_one rfl rfl (Nat.le_of_ble_eq_true rfl) T (fun r_4 M4 T => ?_)
          refine r_callVV (md' := mX12_push) (as := [vL r_4]) dX12_reckons_126 lX12_306 iX12_push rfl rfl rfl (Nat.le_of_ble_eq_true rfl) T (fun M5 T => ?_)
          refine r_iinc dX12_reckons_129 rfl (by decide) rfl ?_
          refine r_goto (tgt := 8) dX12_reckons_132 (by decide) ?_
          exact CW_msk [true, true, false, true, true, false, false, false, false, false, false] rfl T
        · have T := T.2 h_1
          refine r_aload_n dX12_reckons_91 rfl ?_
          refine r_lconst (z := 1) dX12_reckons_92 (by decide) (by decide) ?_
          refine r_aload_n dX12_reckons_93 rfl ?_
          refine r_callVJ (md' := mX12_pop) (as := []) dX12_reckons_94 lX12_310 iX12_pop rfl rfl rfl (Nat.le_of_ble_eq_true rfl) T (fun r_5 M6 T => ?_)
          refine r_lsub dX12_reckons_97 ?_
          refine r_callVV (md' := mX12_push) (as := [vL (wl (1 - r_5))]) dX12_reckons_98 lX12_306 iX12_push rfl rfl rfl (Nat.le_of_ble_eq_true rfl) T (fun M7 T => ?_)
          refine r_goto (tgt := 129) dX12_reckons_101 (by decide) ?_
          refine r_iinc dX12_reckons_129 rfl (by decide) rfl ?_
          refine r_goto (tgt := 8) dX12_reckons_132 (by decide) ?_
          exact CW_msk [true, true, false, true, true, false, false, false, false, false, false] rfl T
      · have T := T.2 h_2
        refine r_aload_n dX12_reckons_70 rfl ?_
        refine r_aload_n dX12_reckons_71 rfl ?_
        refine r_getA dX12_reckons_72 fX12_45 rfl uX12_25 ?_
        refine r_iload dX12_reckons_75 rfl ?_
        refine s_lald dX12_reckons_77 rfl tX12_25 aX12_25 T.1 ?_
        have T := T.2
        refine r_callVV (md' := mX12_push) (as := [vL (M 0 25 (bShr (M 0 3 (wr (wr (400 * x1) + x4)).toNat) 4).toNat)]) dX12_reckons_78 lX12_306 iX12_push rfl rfl rfl (Nat.le_of_ble_eq_true rfl) T (fun M8 T => ?_)
        refine r_goto (tgt := 129) dX12_reckons_81 (by decide) ?_
        refine r_iinc dX12_reckons_129 rfl (by decide) rfl ?_
        refine r_goto (tgt := 8) dX12_reckons_132 (by decide) ?_
        exact CW_msk [true, true, false, true, true, false, false, false, false, false, false] rfl T
    · have T := T.2 h_3
      refine r_aload_n dX12_reckons_54 rfl ?_
      refine r_iload dX12_reckons_55 rfl ?_
      refine r_i2l dX12_reckons_57 ?_
      refine r_callVV (md' := mX12_push) (as := [vL (bShr (M 0 3 (wr (wr (400 * x1) + x4)).toNat) 4)]) dX12_reckons_58 lX12_306 iX12_push rfl rfl rfl (Nat.le_of_ble_eq_true rfl) T (fun M9 T => ?_)
      refine r_goto (tgt := 129) dX12_reckons_61 (by decide) ?_
      refine r_iinc dX12_reckons_129 rfl (by decide) rfl ?_
      refine r_goto (tgt := 8) dX12_reckons_132 (by decide) ?_
      exact CW_msk [true, true, false, true, true, false, false, false, false, false, false] rfl T
theorem eX12_reckons {G : Gx} {n : Nat} {M : Mem} {Q : Int → Mem → Prop}  {x1 : Int} {x2 : Int} {x3 : Int} (h : ∀ K : Kx, CW G K mX12_reckons n 0 [some (vO 0), some (vI x1), some (vI x2), some (vI x3), none, none, none, none, none, none, none] [] M (qJ Q)) : OkJ G n mX12_reckons [vO 0, vI x1, vI x2, vI x3] M Q := Ok_of (by decide) (Nat.le_of_ble_eq_true rfl) rfl h
-- DownOnlyModel isRoom (I)Z
set_option maxRecDepth 20000 in
set_option maxHeartbeats 1000000 in
theorem bX12_isRoom_0 {G : Gx} {K : Kx} {n : Nat} {M : Mem} {Q : Int → Mem → Prop}  {x1 : Int}  (T : (x1 < 0 → Q 0 M) ∧ (¬ (x1 < 0) → (M 0 26 0 ≤ x1 → Q 0 M) ∧ (¬ (M 0 26 0 ≤ x1) → Q 1 M))) : CW G K mX12_isRoom n 0 [some (vO 0), some (vI x1)] [] M (qI Q) := by
  refine r_iload_n dX12_isRoom_0 rfl ?_
  refine r_if_lt (tgt := 18) dX12_isRoom_1 (by decide) (fun h_2 => ?_) (fun h_2 => ?_)
  · have T := T.1 h_2
    refine r_iconst dX12_isRoom_18 (by decide) ?_
    exact r_zreturn dX12_isRoom_19 rfl (by decide) ⟨_, rfl, T⟩
  · have T := T.2 h_2
    refine r_iload_n dX12_isRoom_4 rfl ?_
    refine r_aload_n dX12_isRoom_5 rfl ?_
    refine r_getA dX12_isRoom_6 fX12_48 rfl uX12_26 ?_
    refine r_iconst dX12_isRoom_9 (by decide) ?_
    refine s_iald dX12_isRoom_10 rfl tX12_26 aX12_26 (by decide) ?_
    refine r_icmp_ge (tgt := 18) dX12_isRoom_11 (by decide) (fun h_1 => ?_) (fun h_1 => ?_)
    · have T := T.1 h_1
      refine r_iconst dX12_isRoom_18 (by decide) ?_
      exact r_zreturn dX12_isRoom_19 rfl (by decide) ⟨_, rfl, T⟩
    · have T := T.2 h_1
      refine r_iconst dX12_isRoom_14 (by decide) ?_
      refine r_goto (tgt := 19) dX12_isRoom_15 (by decide) ?_
      exact r_zreturn dX12_isRoom_19 rfl (by decide) ⟨_, rfl, T⟩
theorem eX12_isRoom {G : Gx} {n : Nat} {M : Mem} {Q : Int → Mem → Prop}  {x1 : Int} (h : ∀ K : Kx, CW G K mX12_isRoom n 0 [some (vO 0), some (vI x1)] [] M (qI Q)) : OkI G n mX12_isRoom [vO 0, vI x1] M Q := Ok_of (by decide) (Nat.le_of_ble_eq_true rfl) rfl h
-- DownOnlyModel isWay (I)Z
set_option maxRecDepth 20000 in
set_option maxHeartbeats 1000000 in
theorem bX12_isWay_0 {G : Gx} {K : Kx} {n : Nat} {M : Mem} {Q : Int → Mem → Prop}  {x1 : Int}  (T : (x1 < 0 → Q 0 M) ∧ (¬ (x1 < 0) → (M 0 26 1 ≤ x1 → Q 0 M) ∧ (¬ (M 0 26 1 ≤ x1) → Q 1 M))) : CW G K mX12_isWay n 0 [some (vO 0), some (vI x1)] [] M (qI Q) := by
  refine r_iload_n dX12_isWay_0 rfl ?_
  refine r_if_lt (tgt := 18) dX12_isWay_1 (by decide) (fun h_2 => ?_) (fun h_2 => ?_)
  · have T := T.1 h_2
    refine r_iconst dX12_isWay_18 (by decide) ?_
    exact r_zreturn dX12_isWay_19 rfl (by decide) ⟨_, rfl, T⟩
  · have T := T.2 h_2
    refine r_iload_n dX12_isWay_4 rfl ?_
    refine r_aload_n dX12_isWay_5 rfl ?_
    refine r_getA dX12_isWay_6 fX12_48 rfl uX12_26 ?_
    refine r_iconst dX12_isWay_9 (by decide) ?_
    refine s_iald dX12_isWay_10 rfl tX12_26 aX12_26 (by decide) ?_
    refine r_icmp_ge (tgt := 18) dX12_isWay_11 (by decide) (fun h_1 => ?_) (fun h_1 => ?_)
    · have T := T.1 h_1
      refine r_iconst dX12_isWay_18 (by decide) ?_
      exact r_zreturn dX12_isWay_19 rfl (by decide) ⟨_, rfl, T⟩
    · have T := T.2 h_1
      refine r_iconst dX12_isWay_14 (by decide) ?_
      refine r_goto (tgt := 19) dX12_isWay_15 (by decide) ?_
      exact r_zreturn dX12_isWay_19 rfl (by decide) ⟨_, rfl, T⟩
theorem eX12_isWay {G : Gx} {n : Nat} {M : Mem} {Q : Int → Mem → Prop}  {x1 : Int} (h : ∀ K : Kx, CW G K mX12_isWay n 0 [some (vO 0), some (vI x1)] [] M (qI Q)) : OkI G n mX12_isWay [vO 0, vI x1] M Q := Ok_of (by decide) (Nat.le_of_ble_eq_true rfl) rfl h
-- DownOnlyModel isPerson (I)Z
set_option maxRecDepth 20000 in
set_option maxHeartbeats 1000000 in
theorem bX12_isPerson_0 {G : Gx} {K : Kx} {n : Nat} {M : Mem} {Q : Int → Mem → Prop}  {x1 : Int}  (T : (x1 < 0 → Q 0 M) ∧ (¬ (x1 < 0) → (M 0 26 2 ≤ x1 → Q 0 M) ∧ (¬ (M 0 26 2 ≤ x1) → Q 1 M))) : CW G K mX12_isPerson n 0 [some (vO 0), some (vI x1)] [] M (qI Q) := by
  refine r_iload_n dX12_isPerson_0 rfl ?_
  refine r_if_lt (tgt := 18) dX12_isPerson_1 (by decide) (fun h_2 => ?_) (fun h_2 => ?_)
  · have T := T.1 h_2
    refine r_iconst dX12_isPerson_18 (by decide) ?_
    exact r_zreturn dX12_isPerson_19 rfl (by decide) ⟨_, rfl, T⟩
  · have T := T.2 h_2
    refine r_iload_n dX12_isPerson_4 rfl ?_
    refine r_aload_n dX12_isPerson_5 rfl ?_
    refine r_getA dX12_isPerson_6 fX12_48 rfl uX12_26 ?_
    refine r_iconst dX12_isPerson_9 (by decide) ?_
    refine s_iald dX12_isPerson_10 rfl tX12_26 aX12_26 (by decide) ?_
    refine r_icmp_ge (tgt := 18) dX12_isPerson_11 (by decide) (fun h_1 => ?_) (fun h_1 => ?_)
    · have T := T.1 h_1
      refine r_iconst dX12_isPerson_18 (by decide) ?_
      exact r_zreturn dX12_isPerson_19 rfl (by decide) ⟨_, rfl, T⟩
    · have T := T.2 h_1
      refine r_iconst dX12_isPerson_14 (by decide) ?_
      refine r_goto (tgt := 19) dX12_isPerson_15 (by decide) ?_
      exact r_zreturn dX12_isPerson_19 rfl (by decide) ⟨_, rfl, T⟩
theorem eX12_isPerson {G : Gx} {n : Nat} {M : Mem} {Q : Int → Mem → Prop}  {x1 : Int} (h : ∀ K : Kx, CW G K mX12_isPerson n 0 [some (vO 0), some (vI x1)] [] M (qI Q)) : OkI G n mX12_isPerson [vO 0, vI x1] M Q := Ok_of (by decide) (Nat.le_of_ble_eq_true rfl) rfl h
-- DownOnlyModel isMinute (I)Z
set_option maxRecDepth 20000 in
set_option maxHeartbeats 1000000 in
theorem bX12_isMinute_0 {G : Gx} {K : Kx} {n : Nat} {M : Mem} {Q : Int → Mem → Prop}  {x0 : Int}  (T : (x0 < 0 → Q 0 M) ∧ (¬ (x0 < 0) → (1439 < x0 → Q 0 M) ∧ (¬ (1439 < x0) → Q 1 M))) : CW G K mX12_isMinute n 0 [some (vI x0)] [] M (qI Q) := by
  refine r_iload_n dX12_isMinute_0 rfl ?_
  refine r_if_lt (tgt := 15) dX12_isMinute_1 (by decide) (fun h_2 => ?_) (fun h_2 => ?_)
  · have T := T.1 h_2
    refine r_iconst dX12_isMinute_15 (by decide) ?_
    exact r_zreturn dX12_isMinute_16 rfl (by decide) ⟨_, rfl, T⟩
  · have T := T.2 h_2
    refine r_iload_n dX12_isMinute_4 rfl ?_
    refine r_sipush dX12_isMinute_5 (by decide) (by decide) ?_
    refine r_icmp_gt (tgt := 15) dX12_isMinute_8 (by decide) (fun h_1 => ?_) (fun h_1 => ?_)
    · have T := T.1 h_1
      refine r_iconst dX12_isMinute_15 (by decide) ?_
      exact r_zreturn dX12_isMinute_16 rfl (by decide) ⟨_, rfl, T⟩
    · have T := T.2 h_1
      refine r_iconst dX12_isMinute_11 (by decide) ?_
      refine r_goto (tgt := 16) dX12_isMinute_12 (by decide) ?_
      exact r_zreturn dX12_isMinute_16 rfl (by decide) ⟨_, rfl, T⟩
theorem eX12_isMinute {G : Gx} {n : Nat} {M : Mem} {Q : Int → Mem → Prop}  {x0 : Int} (h : ∀ K : Kx, CW G K mX12_isMinute n 0 [some (vI x0)] [] M (qI Q)) : OkI G n mX12_isMinute [vI x0] M Q := Ok_of (by decide) (Nat.le_of_ble_eq_true rfl) rfl h
-- DownOnlyModel wayOf (II)I
set_option maxRecDepth 20000 in
set_option maxHeartbeats 1000000 in
theorem bX12_wayOf_0 {G : Gx} {K : Kx} {n : Nat} {M : Mem} {Q : Int → Mem → Prop}  {x1 : Int} {x2 : Int}  (T : (0 ≤ wr (wr (28 + (wr (6 * x1))) + x2) ∧ wr (wr (28 + (wr (6 * x1))) + x2) < 328) ∧ (Q (M 0 26 (wr (wr (28 + (wr (6 * x1))) + x2)).toNat) M)) : CW G K mX12_wayOf n 0 [some (vO 0), some (vI x1), some (vI x2)] [] M (qI Q) := by
  refine r_aload_n dX12_wayOf_0 rfl ?_
  refine r_getA dX12_wayOf_1 fX12_48 rfl uX12_26 ?_
  refine r_bipush dX12_wayOf_4 (by decide) (by decide) ?_
  refine r_bipush dX12_wayOf_6 (by decide) (by decide) ?_
  refine r_iload_n dX12_wayOf_8 rfl ?_
  refine r_imul dX12_wayOf_9 ?_
  refine r_iadd dX12_wayOf_10 ?_
  refine r_iload_n dX12_wayOf_11 rfl ?_
  refine r_iadd dX12_wayOf_12 ?_
  refine s_iald dX12_wayOf_13 rfl tX12_26 aX12_26 T.1 ?_
  have T := T.2
  exact r_ireturn dX12_wayOf_14 rfl ⟨_, rfl, T⟩
theorem eX12_wayOf {G : Gx} {n : Nat} {M : Mem} {Q : Int → Mem → Prop}  {x1 : Int} {x2 : Int} (h : ∀ K : Kx, CW G K mX12_wayOf n 0 [some (vO 0), some (vI x1), some (vI x2)] [] M (qI Q)) : OkI G n mX12_wayOf [vO 0, vI x1, vI x2] M Q := Ok_of (by decide) (Nat.le_of_ble_eq_true rfl) rfl h
-- DownOnlyModel personOf (II)I
set_option maxRecDepth 20000 in
set_option maxHeartbeats 1000000 in
theorem bX12_personOf_0 {G : Gx} {K : Kx} {n : Nat} {M : Mem} {Q : Int → Mem → Prop}  {x1 : Int} {x2 : Int}  (T : (0 ≤ wr (wr (172 + (wr (5 * x1))) + x2) ∧ wr (wr (172 + (wr (5 * x1))) + x2) < 328) ∧ (Q (M 0 26 (wr (wr (172 + (wr (5 * x1))) + x2)).toNat) M)) : CW G K mX12_personOf n 0 [some (vO 0), some (vI x1), some (vI x2)] [] M (qI Q) := by
  refine r_aload_n dX12_personOf_0 rfl ?_
  refine r_getA dX12_personOf_1 fX12_48 rfl uX12_26 ?_
  refine r_sipush dX12_personOf_4 (by decide) (by decide) ?_
  refine r_iconst dX12_personOf_7 (by decide) ?_
  refine r_iload_n dX12_personOf_8 rfl ?_
  refine r_imul dX12_personOf_9 ?_
  refine r_iadd dX12_personOf_10 ?_
  refine r_iload_n dX12_personOf_11 rfl ?_
  refine r_iadd dX12_personOf_12 ?_
  refine s_iald dX12_personOf_13 rfl tX12_26 aX12_26 T.1 ?_
  have T := T.2
  exact r_ireturn dX12_personOf_14 rfl ⟨_, rfl, T⟩
theorem eX12_personOf {G : Gx} {n : Nat} {M : Mem} {Q : Int → Mem → Prop}  {x1 : Int} {x2 : Int} (h : ∀ K : Kx, CW G K mX12_personOf n 0 [some (vO 0), some (vI x1), some (vI x2)] [] M (qI Q)) : OkI G n mX12_personOf [vO 0, vI x1, vI x2] M Q := Ok_of (by decide) (Nat.le_of_ble_eq_true rfl) rfl h
-- DownOnlyModel begins (II)V
set_option maxRecDepth 20000 in
set_option maxHeartbeats 1000000 in
theorem bX12_begins_0 {G : Gx} {K : Kx} {n : Nat} {M : Mem} {Q : Mem → Prop}  {x1 : Int} {x2 : Int}  (T : (0 ≤ wr (172 + (wr (5 * x1))) ∧ wr (172 + (wr (5 * x1))) < 328) ∧ (∀ M1 : Mem, M1 = mset M 0 26 (wr (172 + (wr (5 * x1)))).toNat x2 → (0 ≤ wr (wr (172 + (wr (5 * x1))) + 2) ∧ wr (wr (172 + (wr (5 * x1))) + 2) < 328) ∧ (∀ M2 : Mem, M2 = mset M1 0 26 (wr (wr (172 + (wr (5 * x1))) + 2)).toNat 0 → (0 ≤ wr (wr (172 + (wr (5 * x1))) + 3) ∧ wr (wr (172 + (wr (5 * x1))) + 3) < 328) ∧ (∀ M3 : Mem, M3 = mset M2 0 26 (wr (wr (172 + (wr (5 * x1))) + 3)).toNat (-1) → (0 ≤ wr (wr (172 + (wr (5 * x1))) + 4) ∧ wr (wr (172 + (wr (5 * x1))) + 4) < 328) ∧ (∀ M4 : Mem, M4 = mset M3 0 26 (wr (wr (172 + (wr (5 * x1))) + 4)).toNat (-1) → Q M4))))) : CW G K mX12_begins n 0 [some (vO 0), some (vI x1), some (vI x2), none] [] M (qV Q) := by
  refine r_sipush dX12_begins_0 (by decide) (by decide) ?_
  refine r_iconst dX12_begins_3 (by decide) ?_
  refine r_iload_n dX12_begins_4 rfl ?_
  refine r_imul dX12_begins_5 ?_
  refine r_iadd dX12_begins_6 ?_
  refine r_istore_n dX12_begins_7 (by decide) rfl ?_
  refine r_aload_n dX12_begins_8 rfl ?_
  refine r_getA dX12_begins_9 fX12_48 rfl uX12_26 ?_
  refine r_iload_n dX12_begins_12 rfl ?_
  refine r_iload_n dX12_begins_13 rfl ?_
  refine n_iast dX12_begins_14 rfl tX12_26 aX12_26 T.1 (fun M1 hM1 => ?_)
  have T := T.2 M1 hM1
  refine r_aload_n dX12_begins_15 rfl ?_
  refine r_getA dX12_begins_16 fX12_48 rfl uX12_26 ?_
  refine r_iload_n dX12_begins_19 rfl ?_
  refine r_iconst dX12_begins_20 (by decide) ?_
  refine r_iadd dX12_begins_21 ?_
  refine r_iconst dX12_begins_22 (by decide) ?_
  refine n_iast dX12_begins_23 rfl tX12_26 aX12_26 T.1 (fun M2 hM2 => ?_)
  have T := T.2 M2 hM2
  refine r_aload_n dX12_begins_24 rfl ?_
  refine r_getA dX12_begins_25 fX12_48 rfl uX12_26 ?_
  refine r_iload_n dX12_begins_28 rfl ?_
  refine r_iconst dX12_begins_29 (by decide) ?_
  refine r_iadd dX12_begins_30 ?_
  refine r_iconst dX12_begins_31 (by decide) ?_
  refine n_iast dX12_begins_32 rfl tX12_26 aX12_26 T.1 (fun M3 hM3 => ?_)
  have T := T.2 M3 hM3
  refine r_aload_n dX12_begins_33 rfl ?_
  refine r_getA dX12_begins_34 fX12_48 rfl uX12_26 ?_
  refine r_iload_n dX12_begins_37 rfl ?_
  refine r_iconst dX12_begins_38 (by decide) ?_
  refine r_iadd dX12_begins_39 ?_
  refine r_iconst dX12_begins_40 (by decide) ?_
  refine n_iast dX12_begins_41 rfl tX12_26 aX12_26 T.1 (fun M4 hM4 => ?_)
  have T := T.2 M4 hM4
  exact r_return dX12_begins_42 rfl ⟨rfl, T⟩
theorem eX12_begins {G : Gx} {n : Nat} {M : Mem} {Q : Mem → Prop}  {x1 : Int} {x2 : Int} (h : ∀ K : Kx, CW G K mX12_begins n 0 [some (vO 0), some (vI x1), some (vI x2), none] [] M (qV Q)) : OkV G n mX12_begins [vO 0, vI x1, vI x2] M Q := Ok_of (by decide) (Nat.le_of_ble_eq_true rfl) rfl h
-- DownOnlyModel topRoom ()I
set_option maxRecDepth 20000 in
set_option maxHeartbeats 1000000 in
theorem bX12_topRoom_0 {G : Gx} {K : Kx} {n : Nat} {M : Mem} {Q : Int → Mem → Prop}    (T : CW G K mX12_topRoom n 4 [some (vO 0), some (vI 0), some (vI 1)] [] M (qI Q)) : CW G K mX12_topRoom n 0 [some (vO 0), none, none] [] M (qI Q) := by
  refine r_iconst dX12_topRoom_0 (by decide) ?_
  refine r_istore_n dX12_topRoom_1 (by decide) rfl ?_
  refine r_iconst dX12_topRoom_2 (by decide) ?_
  refine r_istore_n dX12_topRoom_3 (by decide) rfl ?_
  exact T
set_option maxRecDepth 20000 in
set_option maxHeartbeats 1000000 in
theorem bX12_topRoom_4 {G : Gx} {K : Kx} {n : Nat} {M : Mem} {Q : Int → Mem → Prop}  {x1 : Int} {x2 : Int}  (T : (M 0 26 0 ≤ x2 → Q x1 M) ∧ (¬ (M 0 26 0 ≤ x2) → (0 ≤ wr (12 + x2) ∧ wr (12 + x2) < 328) ∧ ((0 ≤ wr (12 + x1) ∧ wr (12 + x1) < 328) ∧ ((M 0 26 (wr (12 + x2)).toNat ≤ M 0 26 (wr (12 + x1)).toNat → CW G K mX12_topRoom n 4 [some (vO 0), some (vI x1), some (vI (wr (x2 + 1)))] [] M (qI Q)) ∧ (¬ (M 0 26 (wr (12 + x2)).toNat ≤ M 0 26 (wr (12 + x1)).toNat) → CW G K mX12_topRoom n 4 [some (vO 0), some (vI x2), some (vI (wr (x2 + 1)))] [] M (qI Q)))))) : CW G K mX12_topRoom n 4 [some (vO 0), some (vI x1), some (vI x2)] [] M (qI Q) := by
  refine r_iload_n dX12_topRoom_4 rfl ?_
  refine r_aload_n dX12_topRoom_5 rfl ?_
  refine r_getA dX12_topRoom_6 fX12_48 rfl uX12_26 ?_
  refine r_iconst dX12_topRoom_9 (by decide) ?_
  refine s_iald dX12_topRoom_10 rfl tX12_26 aX12_26 (by decide) ?_
  refine r_icmp_ge (tgt := 47) dX12_topRoom_11 (by decide) (fun h_2 => ?_) (fun h_2 => ?_)
  · have T := T.1 h_2
    refine r_iload_n dX12_topRoom_47 rfl ?_
    exact r_ireturn dX12_topRoom_48 rfl ⟨_, rfl, T⟩
  · have T := T.2 h_2
    refine r_aload_n dX12_topRoom_14 rfl ?_
    refine r_getA dX12_topRoom_15 fX12_48 rfl uX12_26 ?_
    refine r_bipush dX12_topRoom_18 (by decide) (by decide) ?_
    refine r_iload_n dX12_topRoom_20 rfl ?_
    refine r_iadd dX12_topRoom_21 ?_
    refine s_iald dX12_topRoom_22 rfl tX12_26 aX12_26 T.1 ?_
    have T := T.2
    refine r_aload_n dX12_topRoom_23 rfl ?_
    refine r_getA dX12_topRoom_24 fX12_48 rfl uX12_26 ?_
    refine r_bipush dX12_topRoom_27 (by decide) (by decide) ?_
    refine r_iload_n dX12_topRoom_29 rfl ?_
    refine r_iadd dX12_topRoom_30 ?_
    refine s_iald dX12_topRoom_31 rfl tX12_26 aX12_26 T.1 ?_
    have T := T.2
    refine r_icmp_le (tgt := 39) dX12_topRoom_32 (by decide) (fun h_1 => ?_) (fun h_1 => ?_)
    · have T := T.1 h_1
      refine r_iload_n dX12_topRoom_39 rfl ?_
      refine r_istore_n dX12_topRoom_40 (by decide) rfl ?_
      refine r_iinc dX12_topRoom_41 rfl (by decide) rfl ?_
      refine r_goto (tgt := 4) dX12_topRoom_44 (by decide) ?_
      exact T
    · have T := T.2 h_1
      refine r_iload_n dX12_topRoom_35 rfl ?_
      refine r_goto (tgt := 40) dX12_topRoom_36 (by decide) ?_
      refine r_istore_n dX12_topRoom_40 (by decide) rfl ?_
      refine r_iinc dX12_topRoom_41 rfl (by decide) rfl ?_
      refine r_goto (tgt := 4) dX12_topRoom_44 (by decide) ?_
      exact T
theorem eX12_topRoom {G : Gx} {n : Nat} {M : Mem} {Q : Int → Mem → Prop}   (h : ∀ K : Kx, CW G K mX12_topRoom n 0 [some (vO 0), none, none] [] M (qI Q)) : OkI G n mX12_topRoom [vO 0] M Q := Ok_of (by decide) (Nat.le_of_ble_eq_true rfl) rfl h
-- DownOnlyModel inRoom (I)I
set_option maxRecDepth 20000 in
set_option maxHeartbeats 1000000 in
theorem bX12_inRoom_0 {G : Gx} {K : Kx} {n : Nat} {M : Mem} {Q : Int → Mem → Prop}  {x1 : Int}  (T : CW G K mX12_inRoom (n + 1) 4 [some (vO 0), some (vI x1), some (vI 0), some (vI 0)] [] M (qI Q)) : CW G K mX12_inRoom (n + 1) 0 [some (vO 0), some (vI x1), none, none] [] M (qI Q) := by
  refine r_iconst dX12_inRoom_0 (by decide) ?_
  refine r_istore_n dX12_inRoom_1 (by decide) rfl ?_
  refine r_iconst dX12_inRoom_2 (by decide) ?_
  refine r_istore_n dX12_inRoom_3 (by decide) rfl ?_
  exact T
set_option maxRecDepth 20000 in
set_option maxHeartbeats 1000000 in
theorem bX12_inRoom_4 {G : Gx} {K : Kx} {n : Nat} {M : Mem} {Q : Int → Mem → Prop}  {x1 : Int} {x2 : Int} {x3 : Int}  (T : (M 0 26 2 ≤ x3 → Q x2 M) ∧ (¬ (M 0 26 2 ≤ x3) → OkI G n mX12_personOf [vO 0, vI x3, vI 0] M (fun r_1 M1 => (¬ r_1 = x1 → CW G K mX12_inRoom (n + 1) 4 [some (vO 0), some (vI x1), some (vI (bOr x2 0)), some (vI (wr (x3 + 1)))] [] M1 (qI Q)) ∧ (r_1 = x1 → CW G K mX12_inRoom (n + 1) 4 [some (vO 0), some (vI x1), some (vI (bOr x2 (bShl 1 x3))), some (vI (wr (x3 + 1)))] [] M1 (qI Q))))) : CW G K mX12_inRoom (n + 1) 4 [some (vO 0), some (vI x1), some (vI x2), some (vI x3)] [] M (qI Q) := by
  refine r_iload_n dX12_inRoom_4 rfl ?_
  refine r_aload_n dX12_inRoom_5 rfl ?_
  refine r_getA dX12_inRoom_6 fX12_48 rfl uX12_26 ?_
  refine r_iconst dX12_inRoom_9 (by decide) ?_
  refine s_iald dX12_inRoom_10 rfl tX12_26 aX12_26 (by decide) ?_
  refine r_icmp_ge (tgt := 40) dX12_inRoom_11 (by decide) (fun h_2 => ?_) (fun h_2 => ?_)
  · have T := T.1 h_2
    refine r_iload_n dX12_inRoom_40 rfl ?_
    exact r_ireturn dX12_inRoom_41 rfl ⟨_, rfl, T⟩
  · have T := T.2 h_2
    refine r_iload_n dX12_inRoom_14 rfl ?_
    refine r_aload_n dX12_inRoom_15 rfl ?_
    refine r_iload_n dX12_inRoom_16 rfl ?_
    refine r_iconst dX12_inRoom_17 (by decide) ?_
    refine r_callVI (md' := mX12_personOf) (as := [vI x3, vI 0]) dX12_inRoom_18 lX12_318 iX12_personOf rfl rfl rfl (Nat.le_of_ble_eq_true rfl) T (fun r_1 M1 T => ?_)
    refine r_iload_n dX12_inRoom_21 rfl ?_
    refine r_icmp_ne (tgt := 31) dX12_inRoom_22 (by decide) (fun h_1 => ?_) (fun h_1 => ?_)
    · have T := T.1 h_1
      refine r_iconst dX12_inRoom_31 (by decide) ?_
      refine r_ior dX12_inRoom_32 ?_
      refine r_istore_n dX12_inRoom_33 (by decide) rfl ?_
      refine r_iinc dX12_inRoom_34 rfl (by decide) rfl ?_
      refine r_goto (tgt := 4) dX12_inRoom_37 (by decide) ?_
      exact T
    · have T := T.2 h_1
      refine r_iconst dX12_inRoom_25 (by decide) ?_
      refine r_iload_n dX12_inRoom_26 rfl ?_
      refine r_ishl dX12_inRoom_27 ?_
      refine r_goto (tgt := 32) dX12_inRoom_28 (by decide) ?_
      refine r_ior dX12_inRoom_32 ?_
      refine r_istore_n dX12_inRoom_33 (by decide) rfl ?_
      refine r_iinc dX12_inRoom_34 rfl (by decide) rfl ?_
      refine r_goto (tgt := 4) dX12_inRoom_37 (by decide) ?_
      exact T
theorem eX12_inRoom {G : Gx} {n : Nat} {M : Mem} {Q : Int → Mem → Prop}  {x1 : Int} (h : ∀ K : Kx, CW G K mX12_inRoom n 0 [some (vO 0), some (vI x1), none, none] [] M (qI Q)) : OkI G n mX12_inRoom [vO 0, vI x1] M Q := Ok_of (by decide) (Nat.le_of_ble_eq_true rfl) rfl h
-- DownOnlyModel bits (I)I
set_option maxRecDepth 20000 in
set_option maxHeartbeats 1000000 in
theorem bX12_bits_0 {G : Gx} {K : Kx} {n : Nat} {M : Mem} {Q : Int → Mem → Prop}  {x0 : Int}  (T : CW G K mX12_bits n 4 [none, some (vI 0), some (vI x0)] [] M (qI Q)) : CW G K mX12_bits n 0 [some (vI x0), none, none] [] M (qI Q) := by
  refine r_iconst dX12_bits_0 (by decide) ?_
  refine r_istore_n dX12_bits_1 (by decide) rfl ?_
  refine r_iload_n dX12_bits_2 rfl ?_
  refine r_istore_n dX12_bits_3 (by decide) rfl ?_
  exact CW_msk [false, true, true] rfl T
set_option maxRecDepth 20000 in
set_option maxHeartbeats 1000000 in
theorem bX12_bits_4 {G : Gx} {K : Kx} {n : Nat} {M : Mem} {Q : Int → Mem → Prop}  {x1 : Int} {x2 : Int}  (T : (x2 = 0 → Q x1 M) ∧ (¬ (x2 = 0) → CW G K mX12_bits n 4 [none, some (vI (wr (x1 + 1))), some (vI (bAnd x2 (wr (x2 - 1))))] [] M (qI Q))) : CW G K mX12_bits n 4 [none, some (vI x1), some (vI x2)] [] M (qI Q) := by
  refine r_iload_n dX12_bits_4 rfl ?_
  refine r_if_eq (tgt := 20) dX12_bits_5 (by decide) (fun h_1 => ?_) (fun h_1 => ?_)
  · have T := T.1 h_1
    refine r_iload_n dX12_bits_20 rfl ?_
    exact r_ireturn dX12_bits_21 rfl ⟨_, rfl, T⟩
  · have T := T.2 h_1
    refine r_iinc dX12_bits_8 rfl (by decide) rfl ?_
    refine r_iload_n dX12_bits_11 rfl ?_
    refine r_iload_n dX12_bits_12 rfl ?_
    refine r_iconst dX12_bits_13 (by decide) ?_
    refine r_isub dX12_bits_14 ?_
    refine r_iand dX12_bits_15 ?_
    refine r_istore_n dX12_bits_16 (by decide) rfl ?_
    refine r_goto (tgt := 4) dX12_bits_17 (by decide) ?_
    exact T
theorem eX12_bits {G : Gx} {n : Nat} {M : Mem} {Q : Int → Mem → Prop}  {x0 : Int} (h : ∀ K : Kx, CW G K mX12_bits n 0 [some (vI x0), none, none] [] M (qI Q)) : OkI G n mX12_bits [vI x0] M Q := Ok_of (by decide) (Nat.le_of_ble_eq_true rfl) rfl h
-- DownOnlyModel endOf (II)I
set_option maxRecDepth 20000 in
set_option maxHeartbeats 1000000 in
theorem bX12_endOf_0 {G : Gx} {K : Kx} {n : Nat} {M : Mem} {Q : Int → Mem → Prop}  {x1 : Int} {x2 : Int}  (T : OkI G n mX12_wayOf [vO 0, vI x1, vI 0] M (fun r_1 M1 => (¬ r_1 = x2 → OkI G n mX12_wayOf [vO 0, vI x1, vI 3] M1 (fun r_2 M2 => (¬ r_2 = 1 → Q (-1) M2) ∧ (r_2 = 1 → OkI G n mX12_wayOf [vO 0, vI x1, vI 1] M2 (fun r_3 M3 => (¬ r_3 = x2 → Q (-1) M3) ∧ (r_3 = x2 → OkI G n mX12_wayOf [vO 0, vI x1, vI 0] M3 (fun r_4 M4 => Q r_4 M4)))))) ∧ (r_1 = x2 → OkI G n mX12_wayOf [vO 0, vI x1, vI 1] M1 (fun r_5 M5 => Q r_5 M5)))) : CW G K mX12_endOf (n + 1) 0 [some (vO 0), some (vI x1), some (vI x2)] [] M (qI Q) := by
  refine r_aload_n dX12_endOf_0 rfl ?_
  refine r_iload_n dX12_endOf_1 rfl ?_
  refine r_iconst dX12_endOf_2 (by decide) ?_
  refine r_callVI (md' := mX12_wayOf) (as := [vI x1, vI 0]) dX12_endOf_3 lX12_322 iX12_wayOf rfl rfl rfl (Nat.le_of_ble_eq_true rfl) T (fun r_1 M1 T => ?_)
  refine r_iload_n dX12_endOf_6 rfl ?_
  refine r_icmp_ne (tgt := 17) dX12_endOf_7 (by decide) (fun h_3 => ?_) (fun h_3 => ?_)
  · have T := T.1 h_3
    refine r_aload_n dX12_endOf_17 rfl ?_
    refine r_iload_n dX12_endOf_18 rfl ?_
    refine r_iconst dX12_endOf_19 (by decide) ?_
    refine r_callVI (md' := mX12_wayOf) (as := [vI x1, vI 3]) dX12_endOf_20 lX12_322 iX12_wayOf rfl rfl rfl (Nat.le_of_ble_eq_true rfl) T (fun r_2 M2 T => ?_)
    refine r_iconst dX12_endOf_23 (by decide) ?_
    refine r_icmp_ne (tgt := 46) dX12_endOf_24 (by decide) (fun h_2 => ?_) (fun h_2 => ?_)
    · have T := T.1 h_2
      refine r_iconst dX12_endOf_46 (by decide) ?_
      exact r_ireturn dX12_endOf_47 rfl ⟨_, rfl, T⟩
    · have T := T.2 h_2
      refine r_aload_n dX12_endOf_27 rfl ?_
      refine r_iload_n dX12_endOf_28 rfl ?_
      refine r_iconst dX12_endOf_29 (by decide) ?_
      refine r_callVI (md' := mX12_wayOf) (as := [vI x1, vI 1]) dX12_endOf_30 lX12_322 iX12_wayOf rfl rfl rfl (Nat.le_of_ble_eq_true rfl) T (fun r_3 M3 T => ?_)
      refine r_iload_n dX12_endOf_33 rfl ?_
      refine r_icmp_ne (tgt := 46) dX12_endOf_34 (by decide) (fun h_1 => ?_) (fun h_1 => ?_)
      · have T := T.1 h_1
        refine r_iconst dX12_endOf_46 (by decide) ?_
        exact r_ireturn dX12_endOf_47 rfl ⟨_, rfl, T⟩
      · have T := T.2 h_1
        refine r_aload_n dX12_endOf_37 rfl ?_
        refine r_iload_n dX12_endOf_38 rfl ?_
        refine r_iconst dX12_endOf_39 (by decide) ?_
        refine r_callVI (md' := mX12_wayOf) (as := [vI x1, vI 0]) dX12_endOf_40 lX12_322 iX12_wayOf rfl rfl rfl (Nat.le_of_ble_eq_true rfl) T (fun r_4 M4 T => ?_)
        refine r_goto (tgt := 47) dX12_endOf_43 (by decide) ?_
        exact r_ireturn dX12_endOf_47 rfl ⟨_, rfl, T⟩
  · have T := T.2 h_3
    refine r_aload_n dX12_endOf_10 rfl ?_
    refine r_iload_n dX12_endOf_11 rfl ?_
    refine r_iconst dX12_endOf_12 (by decide) ?_
    refine r_callVI (md' := mX12_wayOf) (as := [vI x1, vI 1]) dX12_endOf_13 lX12_322 iX12_wayOf rfl rfl rfl (Nat.le_of_ble_eq_true rfl) T (fun r_5 M5 T => ?_)
    exact r_ireturn dX12_endOf_16 rfl ⟨_, rfl, T⟩
theorem eX12_endOf {G : Gx} {n : Nat} {M : Mem} {Q : Int → Mem → Prop}  {x1 : Int} {x2 : Int} (h : ∀ K : Kx, CW G K mX12_endOf n 0 [some (vO 0), some (vI x1), some (vI x2)] [] M (qI Q)) : OkI G n mX12_endOf [vO 0, vI x1, vI x2] M Q := Ok_of (by decide) (Nat.le_of_ble_eq_true rfl) rfl h
-- DownOnlyModel isOpen (II)Z
set_option maxRecDepth 20000 in
set_option maxHeartbeats 1000000 in
theorem bX12_isOpen_0 {G : Gx} {K : Kx} {n : Nat} {M : Mem} {Q : Int → Mem → Prop}  {x1 : Int} {x2 : Int}  (T : OkI G n mX12_wayOf [vO 0, vI x1, vI 4] M (fun r_1 M1 => (r_1 < 0 → Q 1 M1) ∧ (¬ (r_1 < 0) → OkI G n mX12_wayOf [vO 0, vI x1, vI 4] M1 (fun r_2 M2 => OkI G n mX12_wayOf [vO 0, vI x1, vI 5] M2 (fun r_3 M3 => OkI G n mX12_in [vL x2, vL r_2, vL r_3] M3 (fun r_4 M4 => (r_4 = 0 → Q 0 M4) ∧ (¬ (r_4 = 0) → Q 1 M4))))))) : CW G K mX12_isOpen (n + 1) 0 [some (vO 0), some (vI x1), some (vI x2)] [] M (qI Q) := by
  refine r_aload_n dX12_isOpen_0 rfl ?_
  refine r_iload_n dX12_isOpen_1 rfl ?_
  refine r_iconst dX12_isOpen_2 (by decide) ?_
  refine r_callVI (md' := mX12_wayOf) (as := [vI x1, vI 4]) dX12_isOpen_3 lX12_322 iX12_wayOf rfl rfl rfl (Nat.le_of_ble_eq_true rfl) T (fun r_1 M1 T => ?_)
  refine r_if_lt (tgt := 31) dX12_isOpen_6 (by decide) (fun h_2 => ?_) (fun h_2 => ?_)
  · have T := T.1 h_2
    refine r_iconst dX12_isOpen_31 (by decide) ?_
    refine r_goto (tgt := 36) dX12_isOpen_32 (by decide) ?_
    exact r_zreturn dX12_isOpen_36 rfl (by decide) ⟨_, rfl, T⟩
  · have T := T.2 h_2
    refine r_iload_n dX12_isOpen_9 rfl ?_
    refine r_i2l dX12_isOpen_10 ?_
    refine r_aload_n dX12_isOpen_11 rfl ?_
    refine r_iload_n dX12_isOpen_12 rfl ?_
    refine r_iconst dX12_isOpen_13 (by decide) ?_
    refine r_callVI (md' := mX12_wayOf) (as := [vI x1, vI 4]) dX12_isOpen_14 lX12_322 iX12_wayOf rfl rfl rfl (Nat.le_of_ble_eq_true rfl) T (fun r_2 M2 T => ?_)
    refine r_i2l dX12_isOpen_17 ?_
    refine r_aload_n dX12_isOpen_18 rfl ?_
    refine r_iload_n dX12_isOpen_19 rfl ?_
    refine r_iconst dX12_isOpen_20 (by decide) ?_
    refine r_callVI (md' := mX12_wayOf) (as := [vI x1, vI 5]) dX12_isOpen_21 lX12_322 iX12_wayOf rfl rfl rfl (Nat.le_of_ble_eq_true rfl) T (fun r_3 M3 T => ?_)
    refine r_i2l dX12_isOpen_24 ?_
    refine r_callSI (md' := mX12_in) (as := [vL x2, vL r_2, vL r_3]) dX12_isOpen_25 lX12_148 iX12_in rfl rfl (Nat.le_of_ble_eq_true rfl) T (fun r_4 M4 T => ?_)
    refine r_if_eq (tgt := 35) dX12_isOpen_28 (by decide) (fun h_1 => ?_) (fun h_1 => ?_)
    · have T := T.1 h_1
      refine r_iconst dX12_isOpen_35 (by decide) ?_
      exact r_zreturn dX12_isOpen_36 rfl (by decide) ⟨_, rfl, T⟩
    · have T := T.2 h_1
      refine r_iconst dX12_isOpen_31 (by decide) ?_
      refine r_goto (tgt := 36) dX12_isOpen_32 (by decide) ?_
      exact r_zreturn dX12_isOpen_36 rfl (by decide) ⟨_, rfl, T⟩
theorem eX12_isOpen {G : Gx} {n : Nat} {M : Mem} {Q : Int → Mem → Prop}  {x1 : Int} {x2 : Int} (h : ∀ K : Kx, CW G K mX12_isOpen n 0 [some (vO 0), some (vI x1), some (vI x2)] [] M (qI Q)) : OkI G n mX12_isOpen [vO 0, vI x1, vI x2] M Q := Ok_of (by decide) (Nat.le_of_ble_eq_true rfl) rfl h
-- DownOnlyModel room (II)I
set_option maxRecDepth 20000 in
set_option maxHeartbeats 1000000 in
theorem bX12_room_0 {G : Gx} {K : Kx} {n : Nat} {M : Mem} {Q : Int → Mem → Prop}  {x1 : Int} {x2 : Int}  (T : OkI G n mX12_isRoom [vO 0, vI x1] M (fun r_1 M1 => (r_1 = 0 → Q (-1) M1) ∧ (¬ (r_1 = 0) → OkI G n mX12_in [vL x2, vL 0, vL 2] M1 (fun r_2 M2 => (¬ r_2 = 0 → (¬ x2 = 0 → (¬ x2 = 1 → OkI G n mX12_topRoom [vO 0] M2 (fun r_3 M3 => (¬ r_3 = x1 → Q 0 M3) ∧ (r_3 = x1 → Q 1 M3))) ∧ (x2 = 1 → OkI G n mX12_inRoom [vO 0, vI x1] M2 (fun r_4 M4 => Q r_4 M4))) ∧ (x2 = 0 → (0 ≤ wr (12 + x1) ∧ wr (12 + x1) < 328) ∧ (Q (M2 0 26 (wr (12 + x1)).toNat) M2))) ∧ (r_2 = 0 → Q (-1) M2))))) : CW G K mX12_room (n + 1) 0 [some (vO 0), some (vI x1), some (vI x2)] [] M (qI Q) := by
  refine r_aload_n dX12_room_0 rfl ?_
  refine r_iload_n dX12_room_1 rfl ?_
  refine r_callVI (md' := mX12_isRoom) (as := [vI x1]) dX12_room_2 lX12_325 iX12_isRoom rfl rfl rfl (Nat.le_of_ble_eq_true rfl) T (fun r_1 M1 T => ?_)
  refine r_if_eq (tgt := 20) dX12_room_5 (by decide) (fun h_5 => ?_) (fun h_5 => ?_)
  · have T := T.1 h_5
    refine r_iconst dX12_room_20 (by decide) ?_
    exact r_ireturn dX12_room_21 rfl ⟨_, rfl, T⟩
  · have T := T.2 h_5
    refine r_iload_n dX12_room_8 rfl ?_
    refine r_i2l dX12_room_9 ?_
    refine r_lconst (z := 0) dX12_room_10 (by decide) (by decide) ?_
    refine r_ldc2 (z := 2) dX12_room_11 kX12_328 (by decide) (by decide) ?_
    refine r_callSI (md' := mX12_in) (as := [vL x2, vL 0, vL 2]) dX12_room_14 lX12_148 iX12_in rfl rfl (Nat.le_of_ble_eq_true rfl) T (fun r_2 M2 T => ?_)
    refine r_if_ne (tgt := 22) dX12_room_17 (by decide) (fun h_4 => ?_) (fun h_4 => ?_)
    · have T := T.1 h_4
      refine r_iload_n dX12_room_22 rfl ?_
      refine r_if_ne (tgt := 38) dX12_room_23 (by decide) (fun h_3 => ?_) (fun h_3 => ?_)
      · have T := T.1 h_3
        refine r_iload_n dX12_room_38 rfl ?_
        refine r_iconst dX12_room_39 (by decide) ?_
        refine r_icmp_ne (tgt := 51) dX12_room_40 (by decide) (fun h_2 => ?_) (fun h_2 => ?_)
        · have T := T.1 h_2
          refine r_aload_n dX12_room_51 rfl ?_
          refine r_callVI (md' := mX12_topRoom) (as := []) dX12_room_52 lX12_333 iX12_topRoom rfl rfl rfl (Nat.le_of_ble_eq_true rfl) T (fun r_3 M3 T => ?_)
          refine r_iload_n dX12_room_55 rfl ?_
          refine r_icmp_ne (tgt := 63) dX12_room_56 (by decide) (fun h_1 => ?_) (fun h_1 => ?_)
          · have T := T.1 h_1
            refine r_iconst dX12_room_63 (by decide) ?_
            exact r_ireturn dX12_room_64 rfl ⟨_, rfl, T⟩
          · have T := T.2 h_1
            refine r_iconst dX12_room_59 (by decide) ?_
            refine r_goto (tgt := 64) dX12_room_60 (by decide) ?_
            exact r_ireturn dX12_room_64 rfl ⟨_, rfl, T⟩
        · have T := T.2 h_2
          refine r_aload_n dX12_room_43 rfl ?_
          refine r_iload_n dX12_room_44 rfl ?_
          refine r_callVI (md' := mX12_inRoom) (as := [vI x1]) dX12_room_45 lX12_330 iX12_inRoom rfl rfl rfl (Nat.le_of_ble_eq_true rfl) T (fun r_4 M4 T => ?_)
          refine r_goto (tgt := 64) dX12_room_48 (by decide) ?_
          exact r_ireturn dX12_room_64 rfl ⟨_, rfl, T⟩
      · have T := T.2 h_3
        refine r_aload_n dX12_room_26 rfl ?_
        refine r_getA dX12_room_27 fX12_48 rfl uX12_26 ?_
        refine r_bipush dX12_room_30 (by decide) (by decide) ?_
        refine r_iload_n dX12_room_32 rfl ?_
        refine r_iadd dX12_room_33 ?_
        refine s_iald dX12_room_34 rfl tX12_26 aX12_26 T.1 ?_
        have T := T.2
        refine r_goto (tgt := 64) dX12_room_35 (by decide) ?_
        exact r_ireturn dX12_room_64 rfl ⟨_, rfl, T⟩
    · have T := T.2 h_4
      refine r_iconst dX12_room_20 (by decide) ?_
      exact r_ireturn dX12_room_21 rfl ⟨_, rfl, T⟩
theorem eX12_room {G : Gx} {n : Nat} {M : Mem} {Q : Int → Mem → Prop}  {x1 : Int} {x2 : Int} (h : ∀ K : Kx, CW G K mX12_room n 0 [some (vO 0), some (vI x1), some (vI x2)] [] M (qI Q)) : OkI G n mX12_room [vO 0, vI x1, vI x2] M Q := Ok_of (by decide) (Nat.le_of_ble_eq_true rfl) rfl h
-- DownOnlyModel way (II)I
set_option maxRecDepth 20000 in
set_option maxHeartbeats 1000000 in
theorem bX12_way_0 {G : Gx} {K : Kx} {n : Nat} {M : Mem} {Q : Int → Mem → Prop}  {x1 : Int} {x2 : Int}  (T : OkI G n mX12_isWay [vO 0, vI x1] M (fun r_1 M1 => (r_1 = 0 → Q (-2) M1) ∧ (¬ (r_1 = 0) → OkI G n mX12_in [vL x2, vL 0, vL 5] M1 (fun r_2 M2 => (r_2 = 0 → Q (-2) M2) ∧ (¬ (r_2 = 0) → OkI G n mX12_wayOf [vO 0, vI x1, vI x2] M2 (fun r_3 M3 => Q r_3 M3)))))) : CW G K mX12_way (n + 1) 0 [some (vO 0), some (vI x1), some (vI x2)] [] M (qI Q) := by
  refine r_aload_n dX12_way_0 rfl ?_
  refine r_iload_n dX12_way_1 rfl ?_
  refine r_callVI (md' := mX12_isWay) (as := [vI x1]) dX12_way_2 lX12_336 iX12_isWay rfl rfl rfl (Nat.le_of_ble_eq_true rfl) T (fun r_1 M1 T => ?_)
  refine r_if_eq (tgt := 29) dX12_way_5 (by decide) (fun h_2 => ?_) (fun h_2 => ?_)
  · have T := T.1 h_2
    refine r_bipush dX12_way_29 (by decide) (by decide) ?_
    exact r_ireturn dX12_way_31 rfl ⟨_, rfl, T⟩
  · have T := T.2 h_2
    refine r_iload_n dX12_way_8 rfl ?_
    refine r_i2l dX12_way_9 ?_
    refine r_lconst (z := 0) dX12_way_10 (by decide) (by decide) ?_
    refine r_ldc2 (z := 5) dX12_way_11 kX12_339 (by decide) (by decide) ?_
    refine r_callSI (md' := mX12_in) (as := [vL x2, vL 0, vL 5]) dX12_way_14 lX12_148 iX12_in rfl rfl (Nat.le_of_ble_eq_true rfl) T (fun r_2 M2 T => ?_)
    refine r_if_eq (tgt := 29) dX12_way_17 (by decide) (fun h_1 => ?_) (fun h_1 => ?_)
    · have T := T.1 h_1
      refine r_bipush dX12_way_29 (by decide) (by decide) ?_
      exact r_ireturn dX12_way_31 rfl ⟨_, rfl, T⟩
    · have T := T.2 h_1
      refine r_aload_n dX12_way_20 rfl ?_
      refine r_iload_n dX12_way_21 rfl ?_
      refine r_iload_n dX12_way_22 rfl ?_
      refine r_callVI (md' := mX12_wayOf) (as := [vI x1, vI x2]) dX12_way_23 lX12_322 iX12_wayOf rfl rfl rfl (Nat.le_of_ble_eq_true rfl) T (fun r_3 M3 T => ?_)
      refine r_goto (tgt := 31) dX12_way_26 (by decide) ?_
      exact r_ireturn dX12_way_31 rfl ⟨_, rfl, T⟩
theorem eX12_way {G : Gx} {n : Nat} {M : Mem} {Q : Int → Mem → Prop}  {x1 : Int} {x2 : Int} (h : ∀ K : Kx, CW G K mX12_way n 0 [some (vO 0), some (vI x1), some (vI x2)] [] M (qI Q)) : OkI G n mX12_way [vO 0, vI x1, vI x2] M Q := Ok_of (by decide) (Nat.le_of_ble_eq_true rfl) rfl h
-- DownOnlyModel person (II)I
set_option maxRecDepth 20000 in
set_option maxHeartbeats 1000000 in
theorem bX12_person_0 {G : Gx} {K : Kx} {n : Nat} {M : Mem} {Q : Int → Mem → Prop}  {x1 : Int} {x2 : Int}  (T : OkI G n mX12_isPerson [vO 0, vI x1] M (fun r_1 M1 => (r_1 = 0 → Q (-2) M1) ∧ (¬ (r_1 = 0) → OkI G n mX12_in [vL x2, vL 0, vL 4] M1 (fun r_2 M2 => (¬ r_2 = 0 → (¬ x2 = 2 → OkI G n mX12_personOf [vO 0, vI x1, vI x2] M2 (fun r_3 M3 => Q r_3 M3)) ∧ (x2 = 2 → OkI G n mX12_ridden [vO 0, vI x1] M2 (fun r_4 M4 => (r_4 = 0 → Q 0 M4) ∧ (¬ (r_4 = 0) → Q 1 M4)))) ∧ (r_2 = 0 → Q (-2) M2))))) : CW G K mX12_person (n + 1) 0 [some (vO 0), some (vI x1), some (vI x2)] [] M (qI Q) := by
  refine r_aload_n dX12_person_0 rfl ?_
  refine r_iload_n dX12_person_1 rfl ?_
  refine r_callVI (md' := mX12_isPerson) (as := [vI x1]) dX12_person_2 lX12_341 iX12_isPerson rfl rfl rfl (Nat.le_of_ble_eq_true rfl) T (fun r_1 M1 T => ?_)
  refine r_if_eq (tgt := 20) dX12_person_5 (by decide) (fun h_4 => ?_) (fun h_4 => ?_)
  · have T := T.1 h_4
    refine r_bipush dX12_person_20 (by decide) (by decide) ?_
    exact r_ireturn dX12_person_22 rfl ⟨_, rfl, T⟩
  · have T := T.2 h_4
    refine r_iload_n dX12_person_8 rfl ?_
    refine r_i2l dX12_person_9 ?_
    refine r_lconst (z := 0) dX12_person_10 (by decide) (by decide) ?_
    refine r_ldc2 (z := 4) dX12_person_11 kX12_344 (by decide) (by decide) ?_
    refine r_callSI (md' := mX12_in) (as := [vL x2, vL 0, vL 4]) dX12_person_14 lX12_148 iX12_in rfl rfl (Nat.le_of_ble_eq_true rfl) T (fun r_2 M2 T => ?_)
    refine r_if_ne (tgt := 23) dX12_person_17 (by decide) (fun h_3 => ?_) (fun h_3 => ?_)
    · have T := T.1 h_3
      refine r_iload_n dX12_person_23 rfl ?_
      refine r_iconst dX12_person_24 (by decide) ?_
      refine r_icmp_ne (tgt := 44) dX12_person_25 (by decide) (fun h_2 => ?_) (fun h_2 => ?_)
      · have T := T.1 h_2
        refine r_aload_n dX12_person_44 rfl ?_
        refine r_iload_n dX12_person_45 rfl ?_
        refine r_iload_n dX12_person_46 rfl ?_
        refine r_callVI (md' := mX12_personOf) (as := [vI x1, vI x2]) dX12_person_47 lX12_318 iX12_personOf rfl rfl rfl (Nat.le_of_ble_eq_true rfl) T (fun r_3 M3 T => ?_)
        exact r_ireturn dX12_person_50 rfl ⟨_, rfl, T⟩
      · have T := T.2 h_2
        refine r_aload_n dX12_person_28 rfl ?_
        refine r_iload_n dX12_person_29 rfl ?_
        refine r_callVI (md' := mX12_ridden) (as := [vI x1]) dX12_person_30 lX12_346 iX12_ridden rfl rfl rfl (Nat.le_of_ble_eq_true rfl) T (fun r_4 M4 T => ?_)
        refine r_if_eq (tgt := 40) dX12_person_33 (by decide) (fun h_1 => ?_) (fun h_1 => ?_)
        · have T := T.1 h_1
          refine r_iconst dX12_person_40 (by decide) ?_
          refine r_goto (tgt := 50) dX12_person_41 (by decide) ?_
          exact r_ireturn dX12_person_50 rfl ⟨_, rfl, T⟩
        · have T := T.2 h_1
          refine r_iconst dX12_person_36 (by decide) ?_
          refine r_goto (tgt := 50) dX12_person_37 (by decide) ?_
          exact r_ireturn dX12_person_50 rfl ⟨_, rfl, T⟩
    · have T := T.2 h_3
      refine r_bipush dX12_person_20 (by decide) (by decide) ?_
      exact r_ireturn dX12_person_22 rfl ⟨_, rfl, T⟩
theorem eX12_person {G : Gx} {n : Nat} {M : Mem} {Q : Int → Mem → Prop}  {x1 : Int} {x2 : Int} (h : ∀ K : Kx, CW G K mX12_person n 0 [some (vO 0), some (vI x1), some (vI x2)] [] M (qI Q)) : OkI G n mX12_person [vO 0, vI x1, vI x2] M Q := Ok_of (by decide) (Nat.le_of_ble_eq_true rfl) rfl h
-- DownOnlyModel setsOff (III)V
set_option maxRecDepth 20000 in
set_option maxHeartbeats 1000000 in
theorem bX12_setsOff_0 {G : Gx} {K : Kx} {n : Nat} {M : Mem} {Q : Mem → Prop}  {x1 : Int} {x2 : Int} {x3 : Int}  (T : (0 ≤ wr (172 + (wr (5 * x1))) ∧ wr (172 + (wr (5 * x1))) < 328) ∧ (∀ M1 : Mem, M1 = mset M 0 26 (wr (172 + (wr (5 * x1)))).toNat (-1) → (0 ≤ wr (wr (172 + (wr (5 * x1))) + 3) ∧ wr (wr (172 + (wr (5 * x1))) + 3) < 328) ∧ (∀ M2 : Mem, M2 = mset M1 0 26 (wr (wr (172 + (wr (5 * x1))) + 3)).toNat x2 → (0 ≤ wr (wr (172 + (wr (5 * x1))) + 4) ∧ wr (wr (172 + (wr (5 * x1))) + 4) < 328) ∧ (∀ M3 : Mem, M3 = mset M2 0 26 (wr (wr (172 + (wr (5 * x1))) + 4)).toNat (wr (M2 0 26 3 + x3)) → Q M3)))) : CW G K mX12_setsOff n 0 [some (vO 0), some (vI x1), some (vI x2), some (vI x3), none] [] M (qV Q) := by
  refine r_sipush dX12_setsOff_0 (by decide) (by decide) ?_
  refine r_iconst dX12_setsOff_3 (by decide) ?_
  refine r_iload_n dX12_setsOff_4 rfl ?_
  refine r_imul dX12_setsOff_5 ?_
  refine r_iadd dX12_setsOff_6 ?_
  refine r_istore dX12_setsOff_7 (by decide) rfl ?_
  refine r_aload_n dX12_setsOff_9 rfl ?_
  refine r_getA dX12_setsOff_10 fX12_48 rfl uX12_26 ?_
  refine r_iload dX12_setsOff_13 rfl ?_
  refine r_iconst dX12_setsOff_15 (by decide) ?_
  refine n_iast dX12_setsOff_16 rfl tX12_26 aX12_26 T.1 (fun M1 hM1 => ?_)
  have T := T.2 M1 hM1
  refine r_aload_n dX12_setsOff_17 rfl ?_
  refine r_getA dX12_setsOff_18 fX12_48 rfl uX12_26 ?_
  refine r_iload dX12_setsOff_21 rfl ?_
  refine r_iconst dX12_setsOff_23 (by decide) ?_
  refine r_iadd dX12_setsOff_24 ?_
  refine r_iload_n dX12_setsOff_25 rfl ?_
  refine n_iast dX12_setsOff_26 rfl tX12_26 aX12_26 T.1 (fun M2 hM2 => ?_)
  have T := T.2 M2 hM2
  refine r_aload_n dX12_setsOff_27 rfl ?_
  refine r_getA dX12_setsOff_28 fX12_48 rfl uX12_26 ?_
  refine r_iload dX12_setsOff_31 rfl ?_
  refine r_iconst dX12_setsOff_33 (by decide) ?_
  refine r_iadd dX12_setsOff_34 ?_
  refine r_aload_n dX12_setsOff_35 rfl ?_
  refine r_getA dX12_setsOff_36 fX12_48 rfl uX12_26 ?_
  refine r_iconst dX12_setsOff_39 (by decide) ?_
  refine s_iald dX12_setsOff_40 rfl tX12_26 aX12_26 (by decide) ?_
  refine r_iload_n dX12_setsOff_41 rfl ?_
  refine r_iadd dX12_setsOff_42 ?_
  refine n_iast dX12_setsOff_43 rfl tX12_26 aX12_26 T.1 (fun M3 hM3 => ?_)
  have T := T.2 M3 hM3
  exact r_return dX12_setsOff_44 rfl ⟨rfl, T⟩
theorem eX12_setsOff {G : Gx} {n : Nat} {M : Mem} {Q : Mem → Prop}  {x1 : Int} {x2 : Int} {x3 : Int} (h : ∀ K : Kx, CW G K mX12_setsOff n 0 [some (vO 0), some (vI x1), some (vI x2), some (vI x3), none] [] M (qV Q)) : OkV G n mX12_setsOff [vO 0, vI x1, vI x2, vI x3] M Q := Ok_of (by decide) (Nat.le_of_ble_eq_true rfl) rfl h
-- DownOnlyModel riding ()I
set_option maxRecDepth 20000 in
set_option maxHeartbeats 1000000 in
theorem bX12_riding_0 {G : Gx} {K : Kx} {n : Nat} {M : Mem} {Q : Int → Mem → Prop}    (T : CW G K mX12_riding (n + 1) 4 [some (vO 0), some (vI 0), some (vI 0)] [] M (qI Q)) : CW G K mX12_riding (n + 1) 0 [some (vO 0), none, none] [] M (qI Q) := by
  refine r_iconst dX12_riding_0 (by decide) ?_
  refine r_istore_n dX12_riding_1 (by decide) rfl ?_
  refine r_iconst dX12_riding_2 (by decide) ?_
  refine r_istore_n dX12_riding_3 (by decide) rfl ?_
  exact T
set_option maxRecDepth 20000 in
set_option maxHeartbeats 1000000 in
theorem bX12_riding_4 {G : Gx} {K : Kx} {n : Nat} {M : Mem} {Q : Int → Mem → Prop}  {x1 : Int} {x2 : Int}  (T : (M 0 26 2 ≤ x2 → Q x1 M) ∧ (¬ (M 0 26 2 ≤ x2) → OkI G n mX12_personOf [vO 0, vI x2, vI 2] M (fun r_1 M1 => (¬ r_1 = wr (M1 0 26 3 + 1) → CW G K mX12_riding (n + 1) 4 [some (vO 0), some (vI (wr (x1 + 0))), some (vI (wr (x2 + 1)))] [] M1 (qI Q)) ∧ (r_1 = wr (M1 0 26 3 + 1) → CW G K mX12_riding (n + 1) 4 [some (vO 0), some (vI (wr (x1 + 1))), some (vI (wr (x2 + 1)))] [] M1 (qI Q))))) : CW G K mX12_riding (n + 1) 4 [some (vO 0), some (vI x1), some (vI x2)] [] M (qI Q) := by
  refine r_iload_n dX12_riding_4 rfl ?_
  refine r_aload_n dX12_riding_5 rfl ?_
  refine r_getA dX12_riding_6 fX12_48 rfl uX12_26 ?_
  refine r_iconst dX12_riding_9 (by decide) ?_
  refine s_iald dX12_riding_10 rfl tX12_26 aX12_26 (by decide) ?_
  refine r_icmp_ge (tgt := 45) dX12_riding_11 (by decide) (fun h_2 => ?_) (fun h_2 => ?_)
  · have T := T.1 h_2
    refine r_iload_n dX12_riding_45 rfl ?_
    exact r_ireturn dX12_riding_46 rfl ⟨_, rfl, T⟩
  · have T := T.2 h_2
    refine r_iload_n dX12_riding_14 rfl ?_
    refine r_aload_n dX12_riding_15 rfl ?_
    refine r_iload_n dX12_riding_16 rfl ?_
    refine r_iconst dX12_riding_17 (by decide) ?_
    refine r_callVI (md' := mX12_personOf) (as := [vI x2, vI 2]) dX12_riding_18 lX12_318 iX12_personOf rfl rfl rfl (Nat.le_of_ble_eq_true rfl) T (fun r_1 M1 T => ?_)
    refine r_aload_n dX12_riding_21 rfl ?_
    refine r_getA dX12_riding_22 fX12_48 rfl uX12_26 ?_
    refine r_iconst dX12_riding_25 (by decide) ?_
    refine s_iald dX12_riding_26 rfl tX12_26 aX12_26 (by decide) ?_
    refine r_iconst dX12_riding_27 (by decide) ?_
    refine r_iadd dX12_riding_28 ?_
    refine r_icmp_ne (tgt := 36) dX12_riding_29 (by decide) (fun h_1 => ?_) (fun h_1 => ?_)
    · have T := T.1 h_1
      refine r_iconst dX12_riding_36 (by decide) ?_
      refine r_iadd dX12_riding_37 ?_
      refine r_istore_n dX12_riding_38 (by decide) rfl ?_
      refine r_iinc dX12_riding_39 rfl (by decide) rfl ?_
      refine r_goto (tgt := 4) dX12_riding_42 (by decide) ?_
      exact T
    · have T := T.2 h_1
      refine r_iconst dX12_riding_32 (by decide) ?_
      refine r_goto (tgt := 37) dX12_riding_33 (by decide) ?_
      refine r_iadd dX12_riding_37 ?_
      refine r_istore_n dX12_riding_38 (by decide) rfl ?_
      refine r_iinc dX12_riding_39 rfl (by decide) rfl ?_
      refine r_goto (tgt := 4) dX12_riding_42 (by decide) ?_
      exact T
theorem eX12_riding {G : Gx} {n : Nat} {M : Mem} {Q : Int → Mem → Prop}   (h : ∀ K : Kx, CW G K mX12_riding n 0 [some (vO 0), none, none] [] M (qI Q)) : OkI G n mX12_riding [vO 0] M Q := Ok_of (by decide) (Nat.le_of_ble_eq_true rfl) rfl h
-- DownOnlyModel takes (II)Z
set_option maxRecDepth 20000 in
set_option maxHeartbeats 1000000 in
theorem bX12_takes_0 {G : Gx} {K : Kx} {n : Nat} {M : Mem} {Q : Int → Mem → Prop}  {x1 : Int} {x2 : Int}  (T : OkI G n mX12_isWay [vO 0, vI x2] M (fun r_1 M1 => (r_1 = 0 → Q 0 M1) ∧ (¬ (r_1 = 0) → OkI G n mX12_personOf [vO 0, vI x1, vI 0] M1 (fun r_2 M2 => OkI G n mX12_endOf [vO 0, vI x2, vI r_2] M2 (fun r_3 M3 => (r_3 < 0 → Q 0 M3) ∧ (¬ (r_3 < 0) → OkI G n mX12_isOpen [vO 0, vI x2, vI (M3 0 26 3)] M3 (fun r_4 M4 => (¬ r_4 = 0 → OkI G n mX12_personOf [vO 0, vI x1, vI 0] M4 (fun r_5 M5 => OkI G n mX12_endOf [vO 0, vI x2, vI r_5] M5 (fun r_6 M6 => OkI G n mX12_wayOf [vO 0, vI x2, vI 2] M6 (fun r_7 M7 => OkV G n mX12_setsOff [vO 0, vI x1, vI r_6, vI r_7] M7 (fun M8 => Q 1 M8))))) ∧ (r_4 = 0 → Q 0 M4)))))))) : CW G K mX12_takes (n + 1) 0 [some (vO 0), some (vI x1), some (vI x2)] [] M (qI Q) := by
  refine r_aload_n dX12_takes_0 rfl ?_
  refine r_iload_n dX12_takes_1 rfl ?_
  refine r_callVI (md' := mX12_isWay) (as := [vI x2]) dX12_takes_2 lX12_336 iX12_isWay rfl rfl rfl (Nat.le_of_ble_eq_true rfl) T (fun r_1 M1 T => ?_)
  refine r_if_eq (tgt := 36) dX12_takes_5 (by decide) (fun h_3 => ?_) (fun h_3 => ?_)
  · have T := T.1 h_3
    refine r_iconst dX12_takes_36 (by decide) ?_
    exact r_zreturn dX12_takes_37 rfl (by decide) ⟨_, rfl, T⟩
  · have T := T.2 h_3
    refine r_aload_n dX12_takes_8 rfl ?_
    refine r_iload_n dX12_takes_9 rfl ?_
    refine r_aload_n dX12_takes_10 rfl ?_
    refine r_iload_n dX12_takes_11 rfl ?_
    refine r_iconst dX12_takes_12 (by decide) ?_
    refine r_callVI (md' := mX12_personOf) (as := [vI x1, vI 0]) dX12_takes_13 lX12_318 iX12_personOf rfl rfl rfl (Nat.le_of_ble_eq_true rfl) T (fun r_2 M2 T => ?_)
    refine r_callVI (md' := mX12_endOf) (as := [vI x2, vI r_2]) dX12_takes_16 lX12_349 iX12_endOf rfl rfl rfl (Nat.le_of_ble_eq_true rfl) T (fun r_3 M3 T => ?_)
    refine r_if_lt (tgt := 36) dX12_takes_19 (by decide) (fun h_2 => ?_) (fun h_2 => ?_)
    · have T := T.1 h_2
      refine r_iconst dX12_takes_36 (by decide) ?_
      exact r_zreturn dX12_takes_37 rfl (by decide) ⟨_, rfl, T⟩
    · have T := T.2 h_2
      refine r_aload_n dX12_takes_22 rfl ?_
      refine r_iload_n dX12_takes_23 rfl ?_
      refine r_aload_n dX12_takes_24 rfl ?_
      refine r_getA dX12_takes_25 fX12_48 rfl uX12_26 ?_
      refine r_iconst dX12_takes_28 (by decide) ?_
      refine s_iald dX12_takes_29 rfl tX12_26 aX12_26 (by decide) ?_
      refine r_callVI (md' := mX12_isOpen) (as := [vI x2, vI (M3 0 26 3)]) dX12_takes_30 lX12_352 iX12_isOpen rfl rfl rfl (Nat.le_of_ble_eq_true rfl) T (fun r_4 M4 T => ?_)
      refine r_if_ne (tgt := 38) dX12_takes_33 (by decide) (fun h_1 => ?_) (fun h_1 => ?_)
      · have T := T.1 h_1
        refine r_aload_n dX12_takes_38 rfl ?_
        refine r_iload_n dX12_takes_39 rfl ?_
        refine r_aload_n dX12_takes_40 rfl ?_
        refine r_iload_n dX12_takes_41 rfl ?_
        refine r_aload_n dX12_takes_42 rfl ?_
        refine r_iload_n dX12_takes_43 rfl ?_
        refine r_iconst dX12_takes_44 (by decide) ?_
        refine r_callVI (md' := mX12_personOf) (as := [vI x1, vI 0]) dX12_takes_45 lX12_318 iX12_personOf rfl rfl rfl (Nat.le_of_ble_eq_true rfl) T (fun r_5 M5 T => ?_)
        refine r_callVI (md' := mX12_endOf) (as := [vI x2, vI r_5]) dX12_takes_48 lX12_349 iX12_endOf rfl rfl rfl (Nat.le_of_ble_eq_true rfl) T (fun r_6 M6 T => ?_)
        refine r_aload_n dX12_takes_51 rfl ?_
        refine r_iload_n dX12_takes_52 rfl ?_
        refine r_iconst dX12_takes_53 (by decide) ?_
        refine r_callVI (md' := mX12_wayOf) (as := [vI x2, vI 2]) dX12_takes_54 lX12_322 iX12_wayOf rfl rfl rfl (Nat.le_of_ble_eq_true rfl) T (fun r_7 M7 T => ?_)
        refine r_callVV (md' := mX12_setsOff) (as := [vI x1, vI r_6, vI r_7]) dX12_takes_57 lX12_355 iX12_setsOff rfl rfl rfl (Nat.le_of_ble_eq_true rfl) T (fun M8 T => ?_)
        refine r_iconst dX12_takes_60 (by decide) ?_
        exact r_zreturn dX12_takes_61 rfl (by decide) ⟨_, rfl, T⟩
      · have T := T.2 h_1
        refine r_iconst dX12_takes_36 (by decide) ?_
        exact r_zreturn dX12_takes_37 rfl (by decide) ⟨_, rfl, T⟩
theorem eX12_takes {G : Gx} {n : Nat} {M : Mem} {Q : Int → Mem → Prop}  {x1 : Int} {x2 : Int} (h : ∀ K : Kx, CW G K mX12_takes n 0 [some (vO 0), some (vI x1), some (vI x2)] [] M (qI Q)) : OkI G n mX12_takes [vO 0, vI x1, vI x2] M Q := Ok_of (by decide) (Nat.le_of_ble_eq_true rfl) rfl h
