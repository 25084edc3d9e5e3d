-- DownOnly end (I)I
set_option maxRecDepth 20000 in
set_option maxHeartbeats 1000000 in
theorem bX11_end_0 {G : Gx} {K : Kx} {n : Nat} {M : Mem} {Q : Int → Mem → Prop}  {x1 : Int}  (T : (x1 < 0 → Q (-1) M) ∧ (¬ (x1 < 0) → (x1 ≤ M 2 1 0 → ∀ M1 : Mem, M1 = mset M 2 1 0 x1 → Q x1 M1) ∧ (¬ (x1 ≤ M 2 1 0) → Q (-1) M))) : CW G K mX11_end n 0 [some (vO 1), some (vI x1)] [] M (qI Q) := by
  refine r_iload_n dX11_end_0 rfl ?_
  refine r_if_lt (tgt := 15) dX11_end_1 (by decide) (fun h_2 => ?_) (fun h_2 => ?_)
  · have T := T.1 h_2
    refine r_iconst dX11_end_15 (by decide) ?_
    exact r_ireturn dX11_end_16 rfl ⟨_, rfl, T⟩
  · have T := T.2 h_2
    refine r_iload_n dX11_end_4 rfl ?_
    refine r_aload_n dX11_end_5 rfl ?_
    refine r_getO (o' := 2) dX11_end_6 fX11_10 rfl tX11_0 rfl ?_
    refine r_getI dX11_end_9 fX11_83 rfl tX9_1 ?_
    refine r_icmp_le (tgt := 17) dX11_end_12 (by decide) (fun h_1 => ?_) (fun h_1 => ?_)
    · have T := T.1 h_1
      refine r_aload_n dX11_end_17 rfl ?_
      refine r_getO (o' := 2) dX11_end_18 fX11_10 rfl tX11_0 rfl ?_
      refine r_iload_n dX11_end_21 rfl ?_
      refine n_put dX11_end_22 pX11_83 rfl tX9_1 (fun M1 hM1 => ?_)
      have T := T M1 hM1
      refine r_iload_n dX11_end_25 rfl ?_
      exact r_ireturn dX11_end_26 rfl ⟨_, rfl, T⟩
    · have T := T.2 h_1
      refine r_iconst dX11_end_15 (by decide) ?_
      exact r_ireturn dX11_end_16 rfl ⟨_, rfl, T⟩
theorem eX11_end {G : Gx} {n : Nat} {M : Mem} {Q : Int → Mem → Prop}  {x1 : Int} (h : ∀ K : Kx, CW G K mX11_end n 0 [some (vO 1), some (vI x1)] [] M (qI Q)) : OkI G n mX11_end [vO 1, vI x1] M Q := Ok_of (by decide) (Nat.le_of_ble_eq_true rfl) rfl h
-- DownOnly room (II)I
set_option maxRecDepth 20000 in
set_option maxHeartbeats 1000000 in
theorem bX11_room_0 {G : Gx} {K : Kx} {n : Nat} {M : Mem} {Q : Int → Mem → Prop}  {x1 : Int} {x2 : Int}  (T : OkI G n mX1_isRoom [vO 4, vI x1] M (fun r_1 M1 => (¬ r_1 = 0 → ((x2 < 0 ∨ 2 < x2) → Q (-1) M1) ∧ (x2 = 0 → (0 ≤ x1 ∧ x1 < 16) ∧ (Q (M1 4 7 x1.toNat) M1)) ∧ (x2 = 1 → OkI G n mX0_peopleIn [vO 5, vO 4, vI x1] M1 (fun r_2 M2 => Q r_2 M2)) ∧ (x2 = 2 → (¬ M1 4 3 0 = x1 → Q 0 M1) ∧ (M1 4 3 0 = x1 → Q 1 M1))) ∧ (r_1 = 0 → Q (-1) M1))) : CW G K mX11_room (n + 1) 0 [some (vO 1), some (vI x1), some (vI x2), none] [] M (qI Q) := by
  refine r_aload_n dX11_room_0 rfl ?_
  refine r_getO (o' := 3) dX11_room_1 fX11_32 rfl tX11_4 rfl ?_
  refine r_getO (o' := 4) dX11_room_4 fX11_107 rfl tX8_0 rfl ?_
  refine r_astore_n dX11_room_7 (by decide) rfl ?_
  refine r_aload_n dX11_room_8 rfl ?_
  refine r_iload_n dX11_room_9 rfl ?_
  refine r_callVI (md' := mX1_isRoom) (as := [vI x1]) dX11_room_10 lX11_123 iX1_isRoom rfl rfl rfl (Nat.le_of_ble_eq_true rfl) T (fun r_1 M1 T => ?_)
  refine r_if_ne (tgt := 18) dX11_room_13 (by decide) (fun h_2 => ?_) (fun h_2 => ?_)
  · have T := T.1 h_2
    refine r_iload_n dX11_room_18 rfl ?_
    refine r_tsw (td := 78) (tg := [44, 51, 64]) dX11_room_19 (by decide) (by decide) (by decide) (fun h_ => ?_) (fun j t ht hx => ?_)
    · have T := T.1 h_
      refine r_iconst dX11_room_78 (by decide) ?_
      exact r_ireturn dX11_room_79 rfl ⟨_, rfl, T⟩
    · match j, ht, hx with
      | 0, ht, hx =>
        cases ht
        have T := T.2.1 (by omega)
        refine r_aload_n dX11_room_44 rfl ?_
        refine r_getA dX11_room_45 fX11_127 rfl uX1_7 ?_
        refine r_iload_n dX11_room_48 rfl ?_
        refine s_iald dX11_room_49 rfl tX1_7 aX1_7 T.1 ?_
        have T := T.2
        exact r_ireturn dX11_room_50 rfl ⟨_, rfl, T⟩
      | 1, ht, hx =>
        cases ht
        have T := T.2.2.1 (by omega)
        refine r_aload_n dX11_room_51 rfl ?_
        refine r_getO (o' := 3) dX11_room_52 fX11_32 rfl tX11_4 rfl ?_
        refine r_getO (o' := 5) dX11_room_55 fX11_130 rfl tX8_1 rfl ?_
        refine r_aload_n dX11_room_58 rfl ?_
        refine r_iload_n dX11_room_59 rfl ?_
        refine r_callVI (md' := mX0_peopleIn) (as := [vO 4, vI x1]) dX11_room_60 lX11_133 iX0_peopleIn rfl rfl rfl (Nat.le_of_ble_eq_true rfl) T (fun r_2 M2 T => ?_)
        exact r_ireturn dX11_room_63 rfl ⟨_, rfl, T⟩
      | 2, ht, hx =>
        cases ht
        have T := T.2.2.2 (by omega)
        refine r_aload_n dX11_room_64 rfl ?_
        refine r_getI dX11_room_65 fX11_137 rfl tX1_3 ?_
        refine r_iload_n dX11_room_68 rfl ?_
        refine r_icmp_ne (tgt := 76) dX11_room_69 (by decide) (fun h_1 => ?_) (fun h_1 => ?_)
        · have T := T.1 h_1
          refine r_iconst dX11_room_76 (by decide) ?_
          exact r_ireturn dX11_room_77 rfl ⟨_, rfl, T⟩
        · have T := T.2 h_1
          refine r_iconst dX11_room_72 (by decide) ?_
          refine r_goto (tgt := 77) dX11_room_73 (by decide) ?_
          exact r_ireturn dX11_room_77 rfl ⟨_, rfl, T⟩
      | j + 3, ht, hx => exact absurd ht (by simp)
  · have T := T.2 h_2
    refine r_iconst dX11_room_16 (by decide) ?_
    exact r_ireturn dX11_room_17 rfl ⟨_, rfl, T⟩
theorem eX11_room {G : Gx} {n : Nat} {M : Mem} {Q : Int → Mem → Prop}  {x1 : Int} {x2 : Int} (h : ∀ K : Kx, CW G K mX11_room n 0 [some (vO 1), some (vI x1), some (vI x2), none] [] M (qI Q)) : OkI G n mX11_room [vO 1, vI x1, vI x2] M Q := Ok_of (by decide) (Nat.le_of_ble_eq_true rfl) rfl h
-- DownOnly way (II)I
set_option maxRecDepth 20000 in
set_option maxHeartbeats 1000000 in
theorem bX11_way_0 {G : Gx} {K : Kx} {n : Nat} {M : Mem} {Q : Int → Mem → Prop}  {x1 : Int} {x2 : Int}  (T : OkI G n mX1_isWay [vO 4, vI x1] M (fun r_1 M1 => (¬ r_1 = 0 → ((x2 < 0 ∨ 5 < x2) → Q (-2) M1) ∧ (x2 = 0 → (0 ≤ x1 ∧ x1 < 24) ∧ (Q (M1 4 8 x1.toNat) M1)) ∧ (x2 = 1 → (0 ≤ x1 ∧ x1 < 24) ∧ (Q (M1 4 9 x1.toNat) M1)) ∧ (x2 = 2 → (0 ≤ x1 ∧ x1 < 24) ∧ (Q (M1 4 10 x1.toNat) M1)) ∧ (x2 = 3 → (0 ≤ x1 ∧ x1 < 24) ∧ (Q (M1 4 11 x1.toNat) M1)) ∧ (x2 = 4 → (0 ≤ x1 ∧ x1 < 24) ∧ (Q (M1 4 12 x1.toNat) M1)) ∧ (x2 = 5 → (0 ≤ x1 ∧ x1 < 24) ∧ (Q (M1 4 13 x1.toNat) M1))) ∧ (r_1 = 0 → Q (-2) M1))) : CW G K mX11_way (n + 1) 0 [some (vO 1), some (vI x1), some (vI x2), none] [] M (qI Q) := by
  refine r_aload_n dX11_way_0 rfl ?_
  refine r_getO (o' := 3) dX11_way_1 fX11_32 rfl tX11_4 rfl ?_
  refine r_getO (o' := 4) dX11_way_4 fX11_107 rfl tX8_0 rfl ?_
  refine r_astore_n dX11_way_7 (by decide) rfl ?_
  refine r_aload_n dX11_way_8 rfl ?_
  refine r_iload_n dX11_way_9 rfl ?_
  refine r_callVI (md' := mX1_isWay) (as := [vI x1]) dX11_way_10 lX11_140 iX1_isWay rfl rfl rfl (Nat.le_of_ble_eq_true rfl) T (fun r_1 M1 T => ?_)
  refine r_if_ne (tgt := 19) dX11_way_13 (by decide) (fun h_1 => ?_) (fun h_1 => ?_)
  · have T := T.1 h_1
    refine r_iload_n dX11_way_19 rfl ?_
    refine r_tsw (td := 102) (tg := [60, 67, 74, 81, 88, 95]) dX11_way_20 (by decide) (by decide) (by decide) (fun h_ => ?_) (fun j t ht hx => ?_)
    · have T := T.1 h_
      refine r_bipush dX11_way_102 (by decide) (by decide) ?_
      exact r_ireturn dX11_way_104 rfl ⟨_, rfl, T⟩
    · match j, ht, hx with
      | 0, ht, hx =>
        cases ht
        have T := T.2.1 (by omega)
        refine r_aload_n dX11_way_60 rfl ?_
        refine r_getA dX11_way_61 fX11_143 rfl uX1_8 ?_
        refine r_iload_n dX11_way_64 rfl ?_
        refine s_iald dX11_way_65 rfl tX1_8 aX1_8 T.1 ?_
        have T := T.2
        exact r_ireturn dX11_way_66 rfl ⟨_, rfl, T⟩
      | 1, ht, hx =>
        cases ht
        have T := T.2.2.1 (by omega)
        refine r_aload_n dX11_way_67 rfl ?_
        refine r_getA dX11_way_68 fX11_146 rfl uX1_9 ?_
        refine r_iload_n dX11_way_71 rfl ?_
        refine s_iald dX11_way_72 rfl tX1_9 aX1_9 T.1 ?_
        have T := T.2
        exact r_ireturn dX11_way_73 rfl ⟨_, rfl, T⟩
      | 2, ht, hx =>
        cases ht
        have T := T.2.2.2.1 (by omega)
        refine r_aload_n dX11_way_74 rfl ?_
        refine r_getA dX11_way_75 fX11_149 rfl uX1_10 ?_
        refine r_iload_n dX11_way_78 rfl ?_
        refine s_iald dX11_way_79 rfl tX1_10 aX1_10 T.1 ?_
        have T := T.2
        exact r_ireturn dX11_way_80 rfl ⟨_, rfl, T⟩
      | 3, ht, hx =>
        cases ht
        have T := T.2.2.2.2.1 (by omega)
        refine r_aload_n dX11_way_81 rfl ?_
        refine r_getA dX11_way_82 fX11_152 rfl uX1_11 ?_
        refine r_iload_n dX11_way_85 rfl ?_
        refine s_iald dX11_way_86 rfl tX1_11 aX1_11 T.1 ?_
        have T := T.2
        exact r_ireturn dX11_way_87 rfl ⟨_, rfl, T⟩
      | 4, ht, hx =>
        cases ht
        have T := T.2.2.2.2.2.1 (by omega)
        refine r_aload_n dX11_way_88 rfl ?_
        refine r_getA dX11_way_89 fX11_155 rfl uX1_12 ?_
        refine r_iload_n dX11_way_92 rfl ?_
        refine s_iald dX11_way_93 rfl tX1_12 aX1_12 T.1 ?_
        have T := T.2
        exact r_ireturn dX11_way_94 rfl ⟨_, rfl, T⟩
      | 5, ht, hx =>
        cases ht
        have T := T.2.2.2.2.2.2 (by omega)
        refine r_aload_n dX11_way_95 rfl ?_
        refine r_getA dX11_way_96 fX11_158 rfl uX1_13 ?_
        refine r_iload_n dX11_way_99 rfl ?_
        refine s_iald dX11_way_100 rfl tX1_13 aX1_13 T.1 ?_
        have T := T.2
        exact r_ireturn dX11_way_101 rfl ⟨_, rfl, T⟩
      | j + 6, ht, hx => exact absurd ht (by simp)
  · have T := T.2 h_1
    refine r_bipush dX11_way_16 (by decide) (by decide) ?_
    exact r_ireturn dX11_way_18 rfl ⟨_, rfl, T⟩
theorem eX11_way {G : Gx} {n : Nat} {M : Mem} {Q : Int → Mem → Prop}  {x1 : Int} {x2 : Int} (h : ∀ K : Kx, CW G K mX11_way n 0 [some (vO 1), some (vI x1), some (vI x2), none] [] M (qI Q)) : OkI G n mX11_way [vO 1, vI x1, vI x2] M Q := Ok_of (by decide) (Nat.le_of_ble_eq_true rfl) rfl h
-- DownOnly person (II)I
set_option maxRecDepth 20000 in
set_option maxHeartbeats 1000000 in
theorem bX11_person_0 {G : Gx} {K : Kx} {n : Nat} {M : Mem} {Q : Int → Mem → Prop}  {x1 : Int} {x2 : Int}  (T : OkI G n mX1_isPerson [vO 4, vI x1] M (fun r_1 M1 => (¬ r_1 = 0 → ((x2 < 0 ∨ 4 < x2) → Q (-2) M1) ∧ (x2 = 0 → (0 ≤ x1 ∧ x1 < 8) ∧ (Q (M1 5 2 x1.toNat) M1)) ∧ (x2 = 1 → (0 ≤ x1 ∧ x1 < 8) ∧ (Q (M1 4 14 x1.toNat) M1)) ∧ (x2 = 2 → (0 ≤ x1 ∧ x1 < 8) ∧ (Q (M1 5 3 x1.toNat) M1)) ∧ (x2 = 3 → (0 ≤ x1 ∧ x1 < 8) ∧ (Q (M1 5 4 x1.toNat) M1)) ∧ (x2 = 4 → (0 ≤ x1 ∧ x1 < 8) ∧ (Q (M1 5 5 x1.toNat) M1))) ∧ (r_1 = 0 → Q (-2) M1))) : CW G K mX11_person (n + 1) 0 [some (vO 1), some (vI x1), some (vI x2), none] [] M (qI Q) := by
  refine r_aload_n dX11_person_0 rfl ?_
  refine r_getO (o' := 3) dX11_person_1 fX11_32 rfl tX11_4 rfl ?_
  refine r_getO (o' := 5) dX11_person_4 fX11_130 rfl tX8_1 rfl ?_
  refine r_astore_n dX11_person_7 (by decide) rfl ?_
  refine r_aload_n dX11_person_8 rfl ?_
  refine r_getO (o' := 3) dX11_person_9 fX11_32 rfl tX11_4 rfl ?_
  refine r_getO (o' := 4) dX11_person_12 fX11_107 rfl tX8_0 rfl ?_
  refine r_iload_n dX11_person_15 rfl ?_
  refine r_callVI (md' := mX1_isPerson) (as := [vI x1]) dX11_person_16 lX11_161 iX1_isPerson rfl rfl rfl (Nat.le_of_ble_eq_true rfl) T (fun r_1 M1 T => ?_)
  refine r_if_ne (tgt := 25) dX11_person_19 (by decide) (fun h_1 => ?_) (fun h_1 => ?_)
  · have T := T.1 h_1
    refine r_iload_n dX11_person_25 rfl ?_
    refine r_tsw (td := 101) (tg := [60, 67, 80, 87, 94]) dX11_person_26 (by decide) (by decide) (by decide) (fun h_ => ?_) (fun j t ht hx => ?_)
    · have T := T.1 h_
      refine r_bipush dX11_person_101 (by decide) (by decide) ?_
      exact r_ireturn dX11_person_103 rfl ⟨_, rfl, T⟩
    · match j, ht, hx with
      | 0, ht, hx =>
        cases ht
        have T := T.2.1 (by omega)
        refine r_aload_n dX11_person_60 rfl ?_
        refine r_getA dX11_person_61 fX11_164 rfl uX0_2 ?_
        refine r_iload_n dX11_person_64 rfl ?_
        refine s_iald dX11_person_65 rfl tX0_2 aX0_2 T.1 ?_
        have T := T.2
        exact r_ireturn dX11_person_66 rfl ⟨_, rfl, T⟩
      | 1, ht, hx =>
        cases ht
        have T := T.2.2.1 (by omega)
        refine r_aload_n dX11_person_67 rfl ?_
        refine r_getO (o' := 3) dX11_person_68 fX11_32 rfl tX11_4 rfl ?_
        refine r_getO (o' := 4) dX11_person_71 fX11_107 rfl tX8_0 rfl ?_
        refine r_getA dX11_person_74 fX11_167 rfl uX1_14 ?_
        refine r_iload_n dX11_person_77 rfl ?_
        refine s_iald dX11_person_78 rfl tX1_14 aX1_14 T.1 ?_
        have T := T.2
        exact r_ireturn dX11_person_79 rfl ⟨_, rfl, T⟩
      | 2, ht, hx =>
        cases ht
        have T := T.2.2.2.1 (by omega)
        refine r_aload_n dX11_person_80 rfl ?_
        refine r_getA dX11_person_81 fX11_170 rfl uX0_3 ?_
        refine r_iload_n dX11_person_84 rfl ?_
        refine s_iald dX11_person_85 rfl tX0_3 aX0_3 T.1 ?_
        have T := T.2
        exact r_ireturn dX11_person_86 rfl ⟨_, rfl, T⟩
      | 3, ht, hx =>
        cases ht
        have T := T.2.2.2.2.1 (by omega)
        refine r_aload_n dX11_person_87 rfl ?_
        refine r_getA dX11_person_88 fX11_173 rfl uX0_4 ?_
        refine r_iload_n dX11_person_91 rfl ?_
        refine s_iald dX11_person_92 rfl tX0_4 aX0_4 T.1 ?_
        have T := T.2
        exact r_ireturn dX11_person_93 rfl ⟨_, rfl, T⟩
      | 4, ht, hx =>
        cases ht
        have T := T.2.2.2.2.2 (by omega)
        refine r_aload_n dX11_person_94 rfl ?_
        refine r_getA dX11_person_95 fX11_176 rfl uX0_5 ?_
        refine r_iload_n dX11_person_98 rfl ?_
        refine s_iald dX11_person_99 rfl tX0_5 aX0_5 T.1 ?_
        have T := T.2
        exact r_ireturn dX11_person_100 rfl ⟨_, rfl, T⟩
      | j + 5, ht, hx => exact absurd ht (by simp)
  · have T := T.2 h_1
    refine r_bipush dX11_person_22 (by decide) (by decide) ?_
    exact r_ireturn dX11_person_24 rfl ⟨_, rfl, T⟩
theorem eX11_person {G : Gx} {n : Nat} {M : Mem} {Q : Int → Mem → Prop}  {x1 : Int} {x2 : Int} (h : ∀ K : Kx, CW G K mX11_person n 0 [some (vO 1), some (vI x1), some (vI x2), none] [] M (qI Q)) : OkI G n mX11_person [vO 1, vI x1, vI x2] M Q := Ok_of (by decide) (Nat.le_of_ble_eq_true rfl) rfl h
-- DownOnly go (II)Z
set_option maxRecDepth 20000 in
set_option maxHeartbeats 1000000 in
theorem bX11_go_0 {G : Gx} {K : Kx} {n : Nat} {M : Mem} {Q : Int → Mem → Prop}  {x1 : Int} {x2 : Int}  (T : OkI G n mX1_isPerson [vO 4, vI x1] M (fun r_1 M1 => (r_1 = 0 → Q 0 M1) ∧ (¬ (r_1 = 0) → (1439 < M1 5 0 0 → Q 0 M1) ∧ (¬ (1439 < M1 5 0 0) → (0 ≤ x1 ∧ x1 < 8) ∧ ((¬ M1 5 2 x1.toNat = (-1) → (¬ x2 = 24 → OkI G n mX0_takeWay [vO 5, vO 4, vI x1, vI x2] M1 (fun r_2 M2 => (r_2 = 0 ∨ r_2 = 1) ∧ Q r_2 M2)) ∧ (x2 = 24 → OkI G n mX0_takeHoist [vO 5, vO 4, vI x1] M1 (fun r_3 M3 => (r_3 = 0 ∨ r_3 = 1) ∧ Q r_3 M3))) ∧ (M1 5 2 x1.toNat = (-1) → Q 0 M1)))))) : CW G K mX11_go (n + 1) 0 [some (vO 1), some (vI x1), some (vI x2), none, none] [] M (qI Q) := by
  refine r_aload_n dX11_go_0 rfl ?_
  refine r_getO (o' := 3) dX11_go_1 fX11_32 rfl tX11_4 rfl ?_
  refine r_getO (o' := 4) dX11_go_4 fX11_107 rfl tX8_0 rfl ?_
  refine r_astore_n dX11_go_7 (by decide) rfl ?_
  refine r_aload_n dX11_go_8 rfl ?_
  refine r_getO (o' := 3) dX11_go_9 fX11_32 rfl tX11_4 rfl ?_
  refine r_getO (o' := 5) dX11_go_12 fX11_130 rfl tX8_1 rfl ?_
  refine r_astore dX11_go_15 (by decide) rfl ?_
  refine r_aload_n dX11_go_17 rfl ?_
  refine r_iload_n dX11_go_18 rfl ?_
  refine r_callVI (md' := mX1_isPerson) (as := [vI x1]) dX11_go_19 lX11_161 iX1_isPerson rfl rfl rfl (Nat.le_of_ble_eq_true rfl) T (fun r_1 M1 T => ?_)
  refine r_if_eq (tgt := 47) dX11_go_22 (by decide) (fun h_4 => ?_) (fun h_4 => ?_)
  · have T := T.1 h_4
    refine r_iconst dX11_go_47 (by decide) ?_
    exact r_zreturn dX11_go_48 rfl (by decide) ⟨_, rfl, T⟩
  · have T := T.2 h_4
    refine r_aload dX11_go_25 rfl ?_
    refine r_getI dX11_go_27 fX11_179 rfl tX0_0 ?_
    refine r_sipush dX11_go_30 (by decide) (by decide) ?_
    refine r_icmp_gt (tgt := 47) dX11_go_33 (by decide) (fun h_3 => ?_) (fun h_3 => ?_)
    · have T := T.1 h_3
      refine r_iconst dX11_go_47 (by decide) ?_
      exact r_zreturn dX11_go_48 rfl (by decide) ⟨_, rfl, T⟩
    · have T := T.2 h_3
      refine r_aload dX11_go_36 rfl ?_
      refine r_getA dX11_go_38 fX11_164 rfl uX0_2 ?_
      refine r_iload_n dX11_go_41 rfl ?_
      refine s_iald dX11_go_42 rfl tX0_2 aX0_2 T.1 ?_
      have T := T.2
      refine r_iconst dX11_go_43 (by decide) ?_
      refine r_icmp_ne (tgt := 49) dX11_go_44 (by decide) (fun h_2 => ?_) (fun h_2 => ?_)
      · have T := T.1 h_2
        refine r_iload_n dX11_go_49 rfl ?_
        refine r_bipush dX11_go_50 (by decide) (by decide) ?_
        refine r_icmp_ne (tgt := 65) dX11_go_52 (by decide) (fun h_1 => ?_) (fun h_1 => ?_)
        · have T := T.1 h_1
          refine r_aload dX11_go_65 rfl ?_
          refine r_aload_n dX11_go_67 rfl ?_
          refine r_iload_n dX11_go_68 rfl ?_
          refine r_iload_n dX11_go_69 rfl ?_
          refine r_callVI (md' := mX0_takeWay) (as := [vO 4, vI x1, vI x2]) dX11_go_70 lX11_186 iX0_takeWay rfl rfl rfl (Nat.le_of_ble_eq_true rfl) T (fun r_2 M2 T => ?_)
          exact r_zreturn dX11_go_73 rfl T.1 ⟨_, rfl, T.2⟩
        · have T := T.2 h_1
          refine r_aload dX11_go_55 rfl ?_
          refine r_aload_n dX11_go_57 rfl ?_
          refine r_iload_n dX11_go_58 rfl ?_
          refine r_callVI (md' := mX0_takeHoist) (as := [vO 4, vI x1]) dX11_go_59 lX11_182 iX0_takeHoist rfl rfl rfl (Nat.le_of_ble_eq_true rfl) T (fun r_3 M3 T => ?_)
          refine r_goto (tgt := 73) dX11_go_62 (by decide) ?_
          exact r_zreturn dX11_go_73 rfl T.1 ⟨_, rfl, T.2⟩
      · have T := T.2 h_2
        refine r_iconst dX11_go_47 (by decide) ?_
        exact r_zreturn dX11_go_48 rfl (by decide) ⟨_, rfl, T⟩
theorem eX11_go {G : Gx} {n : Nat} {M : Mem} {Q : Int → Mem → Prop}  {x1 : Int} {x2 : Int} (h : ∀ K : Kx, CW G K mX11_go n 0 [some (vO 1), some (vI x1), some (vI x2), none, none] [] M (qI Q)) : OkI G n mX11_go [vO 1, vI x1, vI x2] M Q := Ok_of (by decide) (Nat.le_of_ble_eq_true rfl) rfl h
-- DownOnly tick (II)I
set_option maxRecDepth 20000 in
set_option maxHeartbeats 1000000 in
theorem bX11_tick_0 {G : Gx} {K : Kx} {n : Nat} {M : Mem} {Q : Int → Mem → Prop}  {x1 : Int} {x2 : Int}  (T : OkR G n mX11_ruleTold [vO 1, vI x1] M (fun r_1 M1 => (r_1 = none → Q (-1) M1) ∧ (∀ c, r_1 = some c → (x2 < 1 → Q (-1) M1) ∧ (¬ (x2 < 1) → (1440 < x2 → Q (-1) M1) ∧ (¬ (1440 < x2) → (x2 ≤ wr (1440 - (M1 5 0 0)) → OkV G n mX0_pass [vO 5, vO 4, vR r_1, vI x2] M1 (fun M2 => Q (M2 5 0 0) M2)) ∧ (¬ (x2 ≤ wr (1440 - (M1 5 0 0))) → Q (-1) M1)))))) : CW G K mX11_tick (n + 1) 0 [some (vO 1), some (vI x1), some (vI x2), none, none] [] M (qI Q) := by
  refine r_aload_n dX11_tick_0 rfl ?_
  refine r_iload_n dX11_tick_1 rfl ?_
  refine r_callVR (md' := mX11_ruleTold) (as := [vI x1]) dX11_tick_2 lX11_190 iX11_ruleTold rfl rfl rfl (Nat.le_of_ble_eq_true rfl) T (fun r_1 M1 T => ?_)
  refine r_astore_n dX11_tick_5 (by decide) rfl ?_
  refine r_aload_n dX11_tick_6 rfl ?_
  refine r_getO (o' := 3) dX11_tick_7 fX11_32 rfl tX11_4 rfl ?_
  refine r_getO (o' := 5) dX11_tick_10 fX11_130 rfl tX8_1 rfl ?_
  refine r_astore dX11_tick_13 (by decide) rfl ?_
  refine r_aload_n dX11_tick_15 rfl ?_
  refine r_ifnull (tgt := 44) dX11_tick_16 (by decide) (fun h_ => ?_) (fun c h_ => ?_)
  · have T := T.1 h_
    refine r_iconst dX11_tick_44 (by decide) ?_
    exact r_ireturn dX11_tick_45 rfl ⟨_, rfl, T⟩
  · have T := T.2 c h_
    refine r_iload_n dX11_tick_19 rfl ?_
    refine r_iconst dX11_tick_20 (by decide) ?_
    refine r_icmp_lt (tgt := 44) dX11_tick_21 (by decide) (fun h_3 => ?_) (fun h_3 => ?_)
    · have T := T.1 h_3
      refine r_iconst dX11_tick_44 (by decide) ?_
      exact r_ireturn dX11_tick_45 rfl ⟨_, rfl, T⟩
    · have T := T.2 h_3
      refine r_iload_n dX11_tick_24 rfl ?_
      refine r_sipush dX11_tick_25 (by decide) (by decide) ?_
      refine r_icmp_gt (tgt := 44) dX11_tick_28 (by decide) (fun h_2 => ?_) (fun h_2 => ?_)
      · have T := T.1 h_2
        refine r_iconst dX11_tick_44 (by decide) ?_
        exact r_ireturn dX11_tick_45 rfl ⟨_, rfl, T⟩
      · have T := T.2 h_2
        refine r_iload_n dX11_tick_31 rfl ?_
        refine r_sipush dX11_tick_32 (by decide) (by decide) ?_
        refine r_aload dX11_tick_35 rfl ?_
        refine r_getI dX11_tick_37 fX11_179 rfl tX0_0 ?_
        refine r_isub dX11_tick_40 ?_
        refine r_icmp_le (tgt := 46) dX11_tick_41 (by decide) (fun h_1 => ?_) (fun h_1 => ?_)
        · have T := T.1 h_1
          refine r_aload dX11_tick_46 rfl ?_
          refine r_aload_n dX11_tick_48 rfl ?_
          refine r_getO (o' := 3) dX11_tick_49 fX11_32 rfl tX11_4 rfl ?_
          refine r_getO (o' := 4) dX11_tick_52 fX11_107 rfl tX8_0 rfl ?_
          refine r_aload_n dX11_tick_55 rfl ?_
          refine r_iload_n dX11_tick_56 rfl ?_
          refine r_callVV (md' := mX0_pass) (as := [vO 4, vR r_1, vI x2]) dX11_tick_57 lX11_194 iX0_pass rfl rfl rfl (Nat.le_of_ble_eq_true rfl) T (fun M2 T => ?_)
          refine r_aload dX11_tick_60 rfl ?_
          refine r_getI dX11_tick_62 fX11_179 rfl tX0_0 ?_
          exact r_ireturn dX11_tick_65 rfl ⟨_, rfl, T⟩
        · have T := T.2 h_1
          refine r_iconst dX11_tick_44 (by decide) ?_
          exact r_ireturn dX11_tick_45 rfl ⟨_, rfl, T⟩
theorem eX11_tick {G : Gx} {n : Nat} {M : Mem} {Q : Int → Mem → Prop}  {x1 : Int} {x2 : Int} (h : ∀ K : Kx, CW G K mX11_tick n 0 [some (vO 1), some (vI x1), some (vI x2), none, none] [] M (qI Q)) : OkI G n mX11_tick [vO 1, vI x1, vI x2] M Q := Ok_of (by decide) (Nat.le_of_ble_eq_true rfl) rfl h
-- DownOnly ahead (II)I
set_option maxRecDepth 20000 in
set_option maxHeartbeats 1000000 in
theorem bX11_ahead_0 {G : Gx} {K : Kx} {n : Nat} {M : Mem} {Q : Int → Mem → Prop}  {x1 : Int} {x2 : Int}  (T : OkR G n mX11_ruleTold [vO 1, vI x1] M (fun r_1 M1 => (r_1 = none → Q (-1) M1) ∧ (∀ c, r_1 = some c → (x2 < 0 → Q (-1) M1) ∧ (¬ (x2 < 0) → (x2 ≤ 2 → OkV G n mX0_copyFrom [vO 8, vO 5] M1 (fun M2 => OkV G n mX0_pass [vO 8, vO 4, vR r_1, vI (wr (1440 - (M2 8 0 0)))] M2 (fun M3 => OkI G n mX0_tally [vO 8, vO 4, vI x2] M3 (fun r_2 M4 => Q r_2 M4)))) ∧ (¬ (x2 ≤ 2) → Q (-1) M1))))) : CW G K mX11_ahead (n + 1) 0 [some (vO 1), some (vI x1), some (vI x2), none] [] M (qI Q) := by
  refine r_aload_n dX11_ahead_0 rfl ?_
  refine r_iload_n dX11_ahead_1 rfl ?_
  refine r_callVR (md' := mX11_ruleTold) (as := [vI x1]) dX11_ahead_2 lX11_190 iX11_ruleTold rfl rfl rfl (Nat.le_of_ble_eq_true rfl) T (fun r_1 M1 T => ?_)
  refine r_astore_n dX11_ahead_5 (by decide) rfl ?_
  refine r_aload_n dX11_ahead_6 rfl ?_
  refine r_ifnull (tgt := 19) dX11_ahead_7 (by decide) (fun h_ => ?_) (fun c h_ => ?_)
  · have T := T.1 h_
    refine r_iconst dX11_ahead_19 (by decide) ?_
    exact r_ireturn dX11_ahead_20 rfl ⟨_, rfl, T⟩
  · have T := T.2 c h_
    refine r_iload_n dX11_ahead_10 rfl ?_
    refine r_if_lt (tgt := 19) dX11_ahead_11 (by decide) (fun h_2 => ?_) (fun h_2 => ?_)
    · have T := T.1 h_2
      refine r_iconst dX11_ahead_19 (by decide) ?_
      exact r_ireturn dX11_ahead_20 rfl ⟨_, rfl, T⟩
    · have T := T.2 h_2
      refine r_iload_n dX11_ahead_14 rfl ?_
      refine r_iconst dX11_ahead_15 (by decide) ?_
      refine r_icmp_le (tgt := 21) dX11_ahead_16 (by decide) (fun h_1 => ?_) (fun h_1 => ?_)
      · have T := T.1 h_1
        refine r_aload_n dX11_ahead_21 rfl ?_
        refine r_getO (o' := 8) dX11_ahead_22 fX11_43 rfl tX11_6 rfl ?_
        refine r_aload_n dX11_ahead_25 rfl ?_
        refine r_getO (o' := 3) dX11_ahead_26 fX11_32 rfl tX11_4 rfl ?_
        refine r_getO (o' := 5) dX11_ahead_29 fX11_130 rfl tX8_1 rfl ?_
        refine r_callVV (md' := mX0_copyFrom) (as := [vO 5]) dX11_ahead_32 lX11_198 iX0_copyFrom rfl rfl rfl (Nat.le_of_ble_eq_true rfl) T (fun M2 T => ?_)
        refine r_aload_n dX11_ahead_35 rfl ?_
        refine r_getO (o' := 8) dX11_ahead_36 fX11_43 rfl tX11_6 rfl ?_
        refine r_aload_n dX11_ahead_39 rfl ?_
        refine r_getO (o' := 3) dX11_ahead_40 fX11_32 rfl tX11_4 rfl ?_
        refine r_getO (o' := 4) dX11_ahead_43 fX11_107 rfl tX8_0 rfl ?_
        refine r_aload_n dX11_ahead_46 rfl ?_
        refine r_sipush dX11_ahead_47 (by decide) (by decide) ?_
        refine r_aload_n dX11_ahead_50 rfl ?_
        refine r_getO (o' := 8) dX11_ahead_51 fX11_43 rfl tX11_6 rfl ?_
        refine r_getI dX11_ahead_54 fX11_179 rfl tX0_0 ?_
        refine r_isub dX11_ahead_57 ?_
        refine r_callVV (md' := mX0_pass) (as := [vO 4, vR r_1, vI (wr (1440 - (M2 8 0 0)))]) dX11_ahead_58 lX11_194 iX0_pass rfl rfl rfl (Nat.le_of_ble_eq_true rfl) T (fun M3 T => ?_)
        refine r_aload_n dX11_ahead_61 rfl ?_
        refine r_getO (o' := 8) dX11_ahead_62 fX11_43 rfl tX11_6 rfl ?_
        refine r_aload_n dX11_ahead_65 rfl ?_
        refine r_getO (o' := 3) dX11_ahead_66 fX11_32 rfl tX11_4 rfl ?_
        refine r_getO (o' := 4) dX11_ahead_69 fX11_107 rfl tX8_0 rfl ?_
        refine r_iload_n dX11_ahead_72 rfl ?_
        refine r_callVI (md' := mX0_tally) (as := [vO 4, vI x2]) dX11_ahead_73 lX11_202 iX0_tally rfl rfl rfl (Nat.le_of_ble_eq_true rfl) T (fun r_2 M4 T => ?_)
        exact r_ireturn dX11_ahead_76 rfl ⟨_, rfl, T⟩
      · have T := T.2 h_1
        refine r_iconst dX11_ahead_19 (by decide) ?_
        exact r_ireturn dX11_ahead_20 rfl ⟨_, rfl, T⟩
theorem eX11_ahead {G : Gx} {n : Nat} {M : Mem} {Q : Int → Mem → Prop}  {x1 : Int} {x2 : Int} (h : ∀ K : Kx, CW G K mX11_ahead n 0 [some (vO 1), some (vI x1), some (vI x2), none] [] M (qI Q)) : OkI G n mX11_ahead [vO 1, vI x1, vI x2] M Q := Ok_of (by decide) (Nat.le_of_ble_eq_true rfl) rfl h
-- DownOnly soonest (IIIZ)I
set_option maxRecDepth 20000 in
set_option maxHeartbeats 1000000 in
theorem bX11_soonest_0 {G : Gx} {K : Kx} {n : Nat} {M : Mem} {Q : Int → Mem → Prop}  {x1 : Int} {x2 : Int} {x3 : Int} {x4 : Int}  (T : OkI G n mX11_isStart [vO 1, vI x1, vI x2] M (fun r_1 M1 => (r_1 = 0 → Q (-1) M1) ∧ (¬ (r_1 = 0) → OkI G n mX1_isRoom [vO 4, vI x3] M1 (fun r_2 M2 => (¬ r_2 = 0 → OkV G n mX5_from [vO 9, vO 4, vI x1, vI x2, vI x4] M2 (fun M3 => OkI G n mX5_leastAt [vO 9, vI x3] M3 (fun r_3 M4 => OkI G n mX11_orNotToday [vI r_3] M4 (fun r_4 M5 => Q r_4 M5)))) ∧ (r_2 = 0 → Q (-1) M2))))) : CW G K mX11_soonest (n + 1) 0 [some (vO 1), some (vI x1), some (vI x2), some (vI x3), some (vI x4)] [] M (qI Q) := by
  refine r_aload_n dX11_soonest_0 rfl ?_
  refine r_iload_n dX11_soonest_1 rfl ?_
  refine r_iload_n dX11_soonest_2 rfl ?_
  refine r_callVI (md' := mX11_isStart) (as := [vI x1, vI x2]) dX11_soonest_3 lX11_205 iX11_isStart rfl rfl rfl (Nat.le_of_ble_eq_true rfl) T (fun r_1 M1 T => ?_)
  refine r_if_eq (tgt := 23) dX11_soonest_6 (by decide) (fun h_2 => ?_) (fun h_2 => ?_)
  · have T := T.1 h_2
    refine r_iconst dX11_soonest_23 (by decide) ?_
    exact r_ireturn dX11_soonest_24 rfl ⟨_, rfl, T⟩
  · have T := T.2 h_2
    refine r_aload_n dX11_soonest_9 rfl ?_
    refine r_getO (o' := 3) dX11_soonest_10 fX11_32 rfl tX11_4 rfl ?_
    refine r_getO (o' := 4) dX11_soonest_13 fX11_107 rfl tX8_0 rfl ?_
    refine r_iload_n dX11_soonest_16 rfl ?_
    refine r_callVI (md' := mX1_isRoom) (as := [vI x3]) dX11_soonest_17 lX11_123 iX1_isRoom rfl rfl rfl (Nat.le_of_ble_eq_true rfl) T (fun r_2 M2 T => ?_)
    refine r_if_ne (tgt := 25) dX11_soonest_20 (by decide) (fun h_1 => ?_) (fun h_1 => ?_)
    · have T := T.1 h_1
      refine r_aload_n dX11_soonest_25 rfl ?_
      refine r_getO (o' := 9) dX11_soonest_26 fX11_50 rfl tX11_7 rfl ?_
      refine r_aload_n dX11_soonest_29 rfl ?_
      refine r_getO (o' := 3) dX11_soonest_30 fX11_32 rfl tX11_4 rfl ?_
      refine r_getO (o' := 4) dX11_soonest_33 fX11_107 rfl tX8_0 rfl ?_
      refine r_iload_n dX11_soonest_36 rfl ?_
      refine r_iload_n dX11_soonest_37 rfl ?_
      refine r_iload dX11_soonest_38 rfl ?_
      refine r_callVV (md' := mX5_from) (as := [vO 4, vI x1, vI x2, vI x4]) dX11_soonest_40 lX11_209 iX5_from rfl rfl rfl (Nat.le_of_ble_eq_true rfl) T (fun M3 T => ?_)
      refine r_aload_n dX11_soonest_43 rfl ?_
      refine r_getO (o' := 9) dX11_soonest_44 fX11_50 rfl tX11_7 rfl ?_
      refine r_iload_n dX11_soonest_47 rfl ?_
      refine r_callVI (md' := mX5_leastAt) (as := [vI x3]) dX11_soonest_48 lX11_212 iX5_leastAt rfl rfl rfl (Nat.le_of_ble_eq_true rfl) T (fun r_3 M4 T => ?_)
      refine r_callSI (md' := mX11_orNotToday) (as := [vI r_3]) dX11_soonest_51 lX11_216 iX11_orNotToday rfl rfl (Nat.le_of_ble_eq_true rfl) T (fun r_4 M5 T => ?_)
      exact r_ireturn dX11_soonest_54 rfl ⟨_, rfl, T⟩
    · have T := T.2 h_1
      refine r_iconst dX11_soonest_23 (by decide) ?_
      exact r_ireturn dX11_soonest_24 rfl ⟨_, rfl, T⟩
theorem eX11_soonest {G : Gx} {n : Nat} {M : Mem} {Q : Int → Mem → Prop}  {x1 : Int} {x2 : Int} {x3 : Int} {x4 : Int} (h : ∀ K : Kx, CW G K mX11_soonest n 0 [some (vO 1), some (vI x1), some (vI x2), some (vI x3), some (vI x4)] [] M (qI Q)) : OkI G n mX11_soonest [vO 1, vI x1, vI x2, vI x3, vI x4] M Q := Ok_of (by decide) (Nat.le_of_ble_eq_true rfl) rfl h
-- DownOnly still (IIZ)I
set_option maxRecDepth 20000 in
set_option maxHeartbeats 1000000 in
theorem bX11_still_0 {G : Gx} {K : Kx} {n : Nat} {M : Mem} {Q : Int → Mem → Prop}  {x1 : Int} {x2 : Int} {x3 : Int}  (T : OkI G n mX11_isStart [vO 1, vI x1, vI x2] M (fun r_1 M1 => (¬ r_1 = 0 → OkV G n mX5_from [vO 9, vO 4, vI x1, vI x2, vI x3] M1 (fun M2 => CW G K mX11_still (n + 1) 34 [some (vO 1), none, none, none, some (vI 0), some (vI 0)] [] M2 (qI Q))) ∧ (r_1 = 0 → Q (-1) M1))) : CW G K mX11_still (n + 1) 0 [some (vO 1), some (vI x1), some (vI x2), some (vI x3), none, none] [] M (qI Q) := by
  refine r_aload_n dX11_still_0 rfl ?_
  refine r_iload_n dX11_still_1 rfl ?_
  refine r_iload_n dX11_still_2 rfl ?_
  refine r_callVI (md' := mX11_isStart) (as := [vI x1, vI x2]) dX11_still_3 lX11_205 iX11_isStart rfl rfl rfl (Nat.le_of_ble_eq_true rfl) T (fun r_1 M1 T => ?_)
  refine r_if_ne (tgt := 11) dX11_still_6 (by decide) (fun h_1 => ?_) (fun h_1 => ?_)
  · have T := T.1 h_1
    refine r_aload_n dX11_still_11 rfl ?_
    refine r_getO (o' := 9) dX11_still_12 fX11_50 rfl tX11_7 rfl ?_
    refine r_aload_n dX11_still_15 rfl ?_
    refine r_getO (o' := 3) dX11_still_16 fX11_32 rfl tX11_4 rfl ?_
    refine r_getO (o' := 4) dX11_still_19 fX11_107 rfl tX8_0 rfl ?_
    refine r_iload_n dX11_still_22 rfl ?_
    refine r_iload_n dX11_still_23 rfl ?_
    refine r_iload_n dX11_still_24 rfl ?_
    refine r_callVV (md' := mX5_from) (as := [vO 4, vI x1, vI x2, vI x3]) dX11_still_25 lX11_209 iX5_from rfl rfl rfl (Nat.le_of_ble_eq_true rfl) T (fun M2 T => ?_)
    refine r_iconst dX11_still_28 (by decide) ?_
    refine r_istore dX11_still_29 (by decide) rfl ?_
    refine r_iconst dX11_still_31 (by decide) ?_
    refine r_istore dX11_still_32 (by decide) rfl ?_
    exact CW_msk [true, false, false, false, true, true] rfl T
  · have T := T.2 h_1
    refine r_iconst dX11_still_9 (by decide) ?_
    exact r_ireturn dX11_still_10 rfl ⟨_, rfl, T⟩
set_option maxRecDepth 20000 in
set_option maxHeartbeats 1000000 in
theorem bX11_still_34 {G : Gx} {K : Kx} {n : Nat} {M : Mem} {Q : Int → Mem → Prop}  {x4 : Int} {x5 : Int}  (T : (M 4 0 0 ≤ x5 → Q x4 M) ∧ (¬ (M 4 0 0 ≤ x5) → OkI G n mX5_leastAt [vO 9, vI x5] M (fun r_1 M1 => (1439 < r_1 → CW G K mX11_still (n + 1) 34 [some (vO 1), none, none, none, some (vI x4), some (vI (wr (x5 + 1)))] [] M1 (qI Q)) ∧ (¬ (1439 < r_1) → CW G K mX11_still (n + 1) 34 [some (vO 1), none, none, none, some (vI (bOr x4 (bShl 1 x5))), some (vI (wr (x5 + 1)))] [] M1 (qI Q))))) : CW G K mX11_still (n + 1) 34 [some (vO 1), none, none, none, some (vI x4), some (vI x5)] [] M (qI Q) := by
  refine r_iload dX11_still_34 rfl ?_
  refine r_aload_n dX11_still_36 rfl ?_
  refine r_getO (o' := 3) dX11_still_37 fX11_32 rfl tX11_4 rfl ?_
  refine r_getO (o' := 4) dX11_still_40 fX11_107 rfl tX8_0 rfl ?_
  refine r_getI dX11_still_43 fX11_110 rfl tX1_0 ?_
  refine r_icmp_ge (tgt := 79) dX11_still_46 (by decide) (fun h_2 => ?_) (fun h_2 => ?_)
  · have T := T.1 h_2
    refine r_iload dX11_still_79 rfl ?_
    exact r_ireturn dX11_still_81 rfl ⟨_, rfl, T⟩
  · have T := T.2 h_2
    refine r_aload_n dX11_still_49 rfl ?_
    refine r_getO (o' := 9) dX11_still_50 fX11_50 rfl tX11_7 rfl ?_
    refine r_iload dX11_still_53 rfl ?_
    refine r_callVI (md' := mX5_leastAt) (as := [vI x5]) dX11_still_55 lX11_212 iX5_leastAt rfl rfl rfl (Nat.le_of_ble_eq_true rfl) T (fun r_1 M1 T => ?_)
    refine r_sipush dX11_still_58 (by decide) (by decide) ?_
    refine r_icmp_gt (tgt := 73) dX11_still_61 (by decide) (fun h_1 => ?_) (fun h_1 => ?_)
    · have T := T.1 h_1
      refine r_iinc dX11_still_73 rfl (by decide) rfl ?_
      refine r_goto (tgt := 34) dX11_still_76 (by decide) ?_
      exact T
    · have T := T.2 h_1
      refine r_iload dX11_still_64 rfl ?_
      refine r_iconst dX11_still_66 (by decide) ?_
      refine r_iload dX11_still_67 rfl ?_
      refine r_ishl dX11_still_69 ?_
      refine r_ior dX11_still_70 ?_
      refine r_istore dX11_still_71 (by decide) rfl ?_
      refine r_iinc dX11_still_73 rfl (by decide) rfl ?_
      refine r_goto (tgt := 34) dX11_still_76 (by decide) ?_
      exact T
theorem eX11_still {G : Gx} {n : Nat} {M : Mem} {Q : Int → Mem → Prop}  {x1 : Int} {x2 : Int} {x3 : Int} (h : ∀ K : Kx, CW G K mX11_still n 0 [some (vO 1), some (vI x1), some (vI x2), some (vI x3), none, none] [] M (qI Q)) : OkI G n mX11_still [vO 1, vI x1, vI x2, vI x3] M Q := Ok_of (by decide) (Nat.le_of_ble_eq_true rfl) rfl h
-- DownOnly downs (III)I
set_option maxRecDepth 20000 in
set_option maxHeartbeats 1000000 in
theorem bX11_downs_0 {G : Gx} {K : Kx} {n : Nat} {M : Mem} {Q : Int → Mem → Prop}  {x1 : Int} {x2 : Int} {x3 : Int}  (T : OkI G n mX1_isRoom [vO 4, vI x1] M (fun r_1 M1 => (r_1 = 0 → Q (-1) M1) ∧ (¬ (r_1 = 0) → OkI G n mX1_isRoom [vO 4, vI x2] M1 (fun r_2 M2 => (r_2 = 0 → Q (-1) M2) ∧ (¬ (r_2 = 0) → (x3 < 0 → Q (-1) M2) ∧ (¬ (x3 < 0) → (x3 ≤ 2 → OkV G n mX1_reckonDowns [vO 4, vI x2, vA 1 12, vA 1 13] M2 (fun M3 => (¬ x3 = 2 → (¬ x3 = 0 → (0 ≤ x1 ∧ x1 < 16) ∧ (Q (M3 1 13 x1.toNat) M3)) ∧ (x3 = 0 → (0 ≤ x1 ∧ x1 < 16) ∧ (Q (M3 1 12 x1.toNat) M3))) ∧ (x3 = 2 → OkI G n mX1_firstOfLongest [vO 4, vI x1, vA 1 13] M3 (fun r_3 M4 => Q r_3 M4)))) ∧ (¬ (x3 ≤ 2) → Q (-1) M2))))))) : CW G K mX11_downs (n + 1) 0 [some (vO 1), some (vI x1), some (vI x2), some (vI x3), none] [] M (qI Q) := by
  refine r_aload_n dX11_downs_0 rfl ?_
  refine r_getO (o' := 3) dX11_downs_1 fX11_32 rfl tX11_4 rfl ?_
  refine r_getO (o' := 4) dX11_downs_4 fX11_107 rfl tX8_0 rfl ?_
  refine r_astore dX11_downs_7 (by decide) rfl ?_
  refine r_aload dX11_downs_9 rfl ?_
  refine r_iload_n dX11_downs_11 rfl ?_
  refine r_callVI (md' := mX1_isRoom) (as := [vI x1]) dX11_downs_12 lX11_123 iX1_isRoom rfl rfl rfl (Nat.le_of_ble_eq_true rfl) T (fun r_1 M1 T => ?_)
  refine r_if_eq (tgt := 36) dX11_downs_15 (by decide) (fun h_6 => ?_) (fun h_6 => ?_)
  · have T := T.1 h_6
    refine r_iconst dX11_downs_36 (by decide) ?_
    exact r_ireturn dX11_downs_37 rfl ⟨_, rfl, T⟩
  · have T := T.2 h_6
    refine r_aload dX11_downs_18 rfl ?_
    refine r_iload_n dX11_downs_20 rfl ?_
    refine r_callVI (md' := mX1_isRoom) (as := [vI x2]) dX11_downs_21 lX11_123 iX1_isRoom rfl rfl rfl (Nat.le_of_ble_eq_true rfl) T (fun r_2 M2 T => ?_)
    refine r_if_eq (tgt := 36) dX11_downs_24 (by decide) (fun h_5 => ?_) (fun h_5 => ?_)
    · have T := T.1 h_5
      refine r_iconst dX11_downs_36 (by decide) ?_
      exact r_ireturn dX11_downs_37 rfl ⟨_, rfl, T⟩
    · have T := T.2 h_5
      refine r_iload_n dX11_downs_27 rfl ?_
      refine r_if_lt (tgt := 36) dX11_downs_28 (by decide) (fun h_4 => ?_) (fun h_4 => ?_)
      · have T := T.1 h_4
        refine r_iconst dX11_downs_36 (by decide) ?_
        exact r_ireturn dX11_downs_37 rfl ⟨_, rfl, T⟩
      · have T := T.2 h_4
        refine r_iload_n dX11_downs_31 rfl ?_
        refine r_iconst dX11_downs_32 (by decide) ?_
        refine r_icmp_le (tgt := 38) dX11_downs_33 (by decide) (fun h_3 => ?_) (fun h_3 => ?_)
        · have T := T.1 h_3
          refine r_aload dX11_downs_38 rfl ?_
          refine r_iload_n dX11_downs_40 rfl ?_
          refine r_aload_n dX11_downs_41 rfl ?_
          refine r_getA dX11_downs_42 fX11_68 rfl uX11_12 ?_
          refine r_aload_n dX11_downs_45 rfl ?_
          refine r_getA dX11_downs_46 fX11_71 rfl uX11_13 ?_
          refine r_callVV (md' := mX1_reckonDowns) (as := [vI x2, vA 1 12, vA 1 13]) dX11_downs_49 lX11_219 iX1_reckonDowns rfl rfl rfl (Nat.le_of_ble_eq_true rfl) T (fun M3 T => ?_)
          refine r_iload_n dX11_downs_52 rfl ?_
          refine r_iconst dX11_downs_53 (by decide) ?_
          refine r_icmp_ne (tgt := 68) dX11_downs_54 (by decide) (fun h_2 => ?_) (fun h_2 => ?_)
          · have T := T.1 h_2
            refine r_iload_n dX11_downs_68 rfl ?_
            refine r_if_ne (tgt := 81) dX11_downs_69 (by decide) (fun h_1 => ?_) (fun h_1 => ?_)
            · have T := T.1 h_1
              refine r_aload_n dX11_downs_81 rfl ?_
              refine r_getA dX11_downs_82 fX11_71 rfl uX11_13 ?_
              refine r_iload_n dX11_downs_85 rfl ?_
              refine s_iald dX11_downs_86 rfl tX11_13 aX11_13 T.1 ?_
              have T := T.2
              exact r_ireturn dX11_downs_87 rfl ⟨_, rfl, T⟩
            · have T := T.2 h_1
              refine r_aload_n dX11_downs_72 rfl ?_
              refine r_getA dX11_downs_73 fX11_68 rfl uX11_12 ?_
              refine r_iload_n dX11_downs_76 rfl ?_
              refine s_iald dX11_downs_77 rfl tX11_12 aX11_12 T.1 ?_
              have T := T.2
              refine r_goto (tgt := 87) dX11_downs_78 (by decide) ?_
              exact r_ireturn dX11_downs_87 rfl ⟨_, rfl, T⟩
          · have T := T.2 h_2
            refine r_aload dX11_downs_57 rfl ?_
            refine r_iload_n dX11_downs_59 rfl ?_
            refine r_aload_n dX11_downs_60 rfl ?_
            refine r_getA dX11_downs_61 fX11_71 rfl uX11_13 ?_
            refine r_callVI (md' := mX1_firstOfLongest) (as := [vI x1, vA 1 13]) dX11_downs_64 lX11_223 iX1_firstOfLongest rfl rfl rfl (Nat.le_of_ble_eq_true rfl) T (fun r_3 M4 T => ?_)
            exact r_ireturn dX11_downs_67 rfl ⟨_, rfl, T⟩
        · have T := T.2 h_3
          refine r_iconst dX11_downs_36 (by decide) ?_
          exact r_ireturn dX11_downs_37 rfl ⟨_, rfl, T⟩
theorem eX11_downs {G : Gx} {n : Nat} {M : Mem} {Q : Int → Mem → Prop}  {x1 : Int} {x2 : Int} {x3 : Int} (h : ∀ K : Kx, CW G K mX11_downs n 0 [some (vO 1), some (vI x1), some (vI x2), some (vI x3), none] [] M (qI Q)) : OkI G n mX11_downs [vO 1, vI x1, vI x2, vI x3] M Q := Ok_of (by decide) (Nat.le_of_ble_eq_true rfl) rfl h
-- DownOnly errand (IIII)I
set_option maxRecDepth 20000 in
set_option maxHeartbeats 1000000 in
theorem bX11_errand_0 {G : Gx} {K : Kx} {n : Nat} {M : Mem} {Q : Int → Mem → Prop}  {x1 : Int} {x2 : Int} {x3 : Int} {x4 : Int}  (T : (10 ≤ M 6 1 0 → Q (-1) M) ∧ (¬ (10 ≤ M 6 1 0) → OkI G n mX11_isStart [vO 1, vI x1, vI x2] M (fun r_1 M1 => (r_1 = 0 → Q (-1) M1) ∧ (¬ (r_1 = 0) → OkI G n mX11_isMinute [vI x3] M1 (fun r_2 M2 => (¬ r_2 = 0 → (x3 < x2 → Q (-1) M2) ∧ (¬ (x3 < x2) → (x4 < 0 → Q (-1) M2) ∧ (¬ (x4 < 0) → (x4 ≤ 99 → OkI G n mX3_addErrand [vO 6, vI x1, vI x2, vI x3, vI x4] M2 (fun r_3 M3 => Q r_3 M3)) ∧ (¬ (x4 ≤ 99) → Q (-1) M2)))) ∧ (r_2 = 0 → Q (-1) M2)))))) : CW G K mX11_errand (n + 1) 0 [some (vO 1), some (vI x1), some (vI x2), some (vI x3), some (vI x4), none] [] M (qI Q) := by
  refine r_aload_n dX11_errand_0 rfl ?_
  refine r_getO (o' := 3) dX11_errand_1 fX11_32 rfl tX11_4 rfl ?_
  refine r_getO (o' := 6) dX11_errand_4 fX11_227 rfl tX8_2 rfl ?_
  refine r_astore dX11_errand_7 (by decide) rfl ?_
  refine r_aload dX11_errand_9 rfl ?_
  refine r_getI dX11_errand_11 fX11_231 rfl tX3_1 ?_
  refine r_bipush dX11_errand_14 (by decide) (by decide) ?_
  refine r_icmp_ge (tgt := 35) dX11_errand_16 (by decide) (fun h_6 => ?_) (fun h_6 => ?_)
  · have T := T.1 h_6
    refine r_iconst dX11_errand_35 (by decide) ?_
    exact r_ireturn dX11_errand_36 rfl ⟨_, rfl, T⟩
  · have T := T.2 h_6
    refine r_aload_n dX11_errand_19 rfl ?_
    refine r_iload_n dX11_errand_20 rfl ?_
    refine r_iload_n dX11_errand_21 rfl ?_
    refine r_callVI (md' := mX11_isStart) (as := [vI x1, vI x2]) dX11_errand_22 lX11_205 iX11_isStart rfl rfl rfl (Nat.le_of_ble_eq_true rfl) T (fun r_1 M1 T => ?_)
    refine r_if_eq (tgt := 35) dX11_errand_25 (by decide) (fun h_5 => ?_) (fun h_5 => ?_)
    · have T := T.1 h_5
      refine r_iconst dX11_errand_35 (by decide) ?_
      exact r_ireturn dX11_errand_36 rfl ⟨_, rfl, T⟩
    · have T := T.2 h_5
      refine r_iload_n dX11_errand_28 rfl ?_
      refine r_callSI (md' := mX11_isMinute) (as := [vI x3]) dX11_errand_29 lX11_236 iX11_isMinute rfl rfl (Nat.le_of_ble_eq_true rfl) T (fun r_2 M2 T => ?_)
      refine r_if_ne (tgt := 37) dX11_errand_32 (by decide) (fun h_4 => ?_) (fun h_4 => ?_)
      · have T := T.1 h_4
        refine r_iload_n dX11_errand_37 rfl ?_
        refine r_iload_n dX11_errand_38 rfl ?_
        refine r_icmp_lt (tgt := 54) dX11_errand_39 (by decide) (fun h_3 => ?_) (fun h_3 => ?_)
        · have T := T.1 h_3
          refine r_iconst dX11_errand_54 (by decide) ?_
          exact r_ireturn dX11_errand_55 rfl ⟨_, rfl, T⟩
        · have T := T.2 h_3
          refine r_iload dX11_errand_42 rfl ?_
          refine r_if_lt (tgt := 54) dX11_errand_44 (by decide) (fun h_2 => ?_) (fun h_2 => ?_)
          · have T := T.1 h_2
            refine r_iconst dX11_errand_54 (by decide) ?_
            exact r_ireturn dX11_errand_55 rfl ⟨_, rfl, T⟩
          · have T := T.2 h_2
            refine r_iload dX11_errand_47 rfl ?_
            refine r_bipush dX11_errand_49 (by decide) (by decide) ?_
            refine r_icmp_le (tgt := 56) dX11_errand_51 (by decide) (fun h_1 => ?_) (fun h_1 => ?_)
            · have T := T.1 h_1
              refine r_aload dX11_errand_56 rfl ?_
              refine r_iload_n dX11_errand_58 rfl ?_
              refine r_iload_n dX11_errand_59 rfl ?_
              refine r_iload_n dX11_errand_60 rfl ?_
              refine r_iload dX11_errand_61 rfl ?_
              refine r_callVI (md' := mX3_addErrand) (as := [vI x1, vI x2, vI x3, vI x4]) dX11_errand_63 lX11_239 iX3_addErrand rfl rfl rfl (Nat.le_of_ble_eq_true rfl) T (fun r_3 M3 T => ?_)
              exact r_ireturn dX11_errand_66 rfl ⟨_, rfl, T⟩
            · have T := T.2 h_1
              refine r_iconst dX11_errand_54 (by decide) ?_
              exact r_ireturn dX11_errand_55 rfl ⟨_, rfl, T⟩
      · have T := T.2 h_4
        refine r_iconst dX11_errand_35 (by decide) ?_
        exact r_ireturn dX11_errand_36 rfl ⟨_, rfl, T⟩
theorem eX11_errand {G : Gx} {n : Nat} {M : Mem} {Q : Int → Mem → Prop}  {x1 : Int} {x2 : Int} {x3 : Int} {x4 : Int} (h : ∀ K : Kx, CW G K mX11_errand n 0 [some (vO 1), some (vI x1), some (vI x2), some (vI x3), some (vI x4), none] [] M (qI Q)) : OkI G n mX11_errand [vO 1, vI x1, vI x2, vI x3, vI x4] M Q := Ok_of (by decide) (Nat.le_of_ble_eq_true rfl) rfl h
-- DownOnly meeting (IIIIZI)I
set_option maxRecDepth 20000 in
set_option maxHeartbeats 1000000 in
theorem bX11_meeting_0 {G : Gx} {K : Kx} {n : Nat} {M : Mem} {Q : Int → Mem → Prop}  {x1 : Int} {x2 : Int} {x3 : Int} {x4 : Int} {x5 : Int} {x6 : Int}  (T : OkI G n mX11_isStart [vO 1, vI x1, vI x2] M (fun r_1 M1 => (r_1 = 0 → Q (-1) M1) ∧ (¬ (r_1 = 0) → OkI G n mX11_isStart [vO 1, vI x3, vI x4] M1 (fun r_2 M2 => (r_2 = 0 → Q (-1) M2) ∧ (¬ (r_2 = 0) → (x6 < 0 → Q (-1) M2) ∧ (¬ (x6 < 0) → (x6 ≤ 2 → OkV G n mX5_from [vO 9, vO 4, vI x1, vI x2, vI x5] M2 (fun M3 => OkV G n mX5_from [vO 10, vO 4, vI x3, vI x4, vI x5] M3 (fun M4 => CW G K mX11_meeting (n + 1) 84 [some (vO 1), none, none, none, none, none, some (vI x6), some (vI 1000000), some (vI (-2)), some (vI 0), some (vI 0), none] [] M4 (qI Q)))) ∧ (¬ (x6 ≤ 2) → Q (-1) M2))))))) : CW G K mX11_meeting (n + 1) 0 [some (vO 1), some (vI x1), some (vI x2), some (vI x3), some (vI x4), some (vI x5), some (vI x6), none, none, none, none, none] [] M (qI Q) := by
  refine r_aload_n dX11_meeting_0 rfl ?_
  refine r_iload_n dX11_meeting_1 rfl ?_
  refine r_iload_n dX11_meeting_2 rfl ?_
  refine r_callVI (md' := mX11_isStart) (as := [vI x1, vI x2]) dX11_meeting_3 lX11_205 iX11_isStart rfl rfl rfl (Nat.le_of_ble_eq_true rfl) T (fun r_1 M1 T => ?_)
  refine r_if_eq (tgt := 30) dX11_meeting_6 (by decide) (fun h_4 => ?_) (fun h_4 => ?_)
  · have T := T.1 h_4
    refine r_iconst dX11_meeting_30 (by decide) ?_
    exact r_ireturn dX11_meeting_31 rfl ⟨_, rfl, T⟩
  · have T := T.2 h_4
    refine r_aload_n dX11_meeting_9 rfl ?_
    refine r_iload_n dX11_meeting_10 rfl ?_
    refine r_iload dX11_meeting_11 rfl ?_
    refine r_callVI (md' := mX11_isStart) (as := [vI x3, vI x4]) dX11_meeting_13 lX11_205 iX11_isStart rfl rfl rfl (Nat.le_of_ble_eq_true rfl) T (fun r_2 M2 T => ?_)
    refine r_if_eq (tgt := 30) dX11_meeting_16 (by decide) (fun h_3 => ?_) (fun h_3 => ?_)
    · have T := T.1 h_3
      refine r_iconst dX11_meeting_30 (by decide) ?_
      exact r_ireturn dX11_meeting_31 rfl ⟨_, rfl, T⟩
    · have T := T.2 h_3
      refine r_iload dX11_meeting_19 rfl ?_
      refine r_if_lt (tgt := 30) dX11_meeting_21 (by decide) (fun h_2 => ?_) (fun h_2 => ?_)
      · have T := T.1 h_2
        refine r_iconst dX11_meeting_30 (by decide) ?_
        exact r_ireturn dX11_meeting_31 rfl ⟨_, rfl, T⟩
      · have T := T.2 h_2
        refine r_iload dX11_meeting_24 rfl ?_
        refine r_iconst dX11_meeting_26 (by decide) ?_
        refine r_icmp_le (tgt := 32) dX11_meeting_27 (by decide) (fun h_1 => ?_) (fun h_1 => ?_)
        · have T := T.1 h_1
          refine r_aload_n dX11_meeting_32 rfl ?_
          refine r_getO (o' := 9) dX11_meeting_33 fX11_50 rfl tX11_7 rfl ?_
          refine r_aload_n dX11_meeting_36 rfl ?_
          refine r_getO (o' := 3) dX11_meeting_37 fX11_32 rfl tX11_4 rfl ?_
          refine r_getO (o' := 4) dX11_meeting_40 fX11_107 rfl tX8_0 rfl ?_
          refine r_iload_n dX11_meeting_43 rfl ?_
          refine r_iload_n dX11_meeting_44 rfl ?_
          refine r_iload dX11_meeting_45 rfl ?_
          refine r_callVV (md' := mX5_from) (as := [vO 4, vI x1, vI x2, vI x5]) dX11_meeting_47 lX11_209 iX5_from rfl rfl rfl (Nat.le_of_ble_eq_true rfl) T (fun M3 T => ?_)
          refine r_aload_n dX11_meeting_50 rfl ?_
          refine r_getO (o' := 10) dX11_meeting_51 fX11_54 rfl tX11_8 rfl ?_
          refine r_aload_n dX11_meeting_54 rfl ?_
          refine r_getO (o' := 3) dX11_meeting_55 fX11_32 rfl tX11_4 rfl ?_
          refine r_getO (o' := 4) dX11_meeting_58 fX11_107 rfl tX8_0 rfl ?_
          refine r_iload_n dX11_meeting_61 rfl ?_
          refine r_iload dX11_meeting_62 rfl ?_
          refine r_iload dX11_meeting_64 rfl ?_
          refine r_callVV (md' := mX5_from) (as := [vO 4, vI x3, vI x4, vI x5]) dX11_meeting_66 lX11_209 iX5_from rfl rfl rfl (Nat.le_of_ble_eq_true rfl) T (fun M4 T => ?_)
          refine r_ldcw (z := 1000000) dX11_meeting_69 kX11_263 (by decide) (by decide) ?_
          refine r_istore dX11_meeting_72 (by decide) rfl ?_
          refine r_bipush dX11_meeting_74 (by decide) (by decide) ?_
          refine r_istore dX11_meeting_76 (by decide) rfl ?_
          refine r_iconst dX11_meeting_78 (by decide) ?_
          refine r_istore dX11_meeting_79 (by decide) rfl ?_
          refine r_iconst dX11_meeting_81 (by decide) ?_
          refine r_istore dX11_meeting_82 (by decide) rfl ?_
          exact CW_msk [true, false, false, false, false, false, true, true, true, true, true, false] rfl T
        · have T := T.2 h_1
          refine r_iconst dX11_meeting_30 (by decide) ?_
          exact r_ireturn dX11_meeting_31 rfl ⟨_, rfl, T⟩
set_option maxRecDepth 20000 in
set_option maxHeartbeats 1000000 in
theorem bX11_meeting_84 {G : Gx} {K : Kx} {n : Nat} {M : Mem} {Q : Int → Mem → Prop}  {x6 : Int} {x7 : Int} {x8 : Int} {x9 : Int} {x10 : Int}  (T : (M 4 0 0 ≤ x10 → (¬ x6 = 0 → (¬ x6 = 1 → Q x9 M) ∧ (x6 = 1 → Q x8 M)) ∧ (x6 = 0 → OkI G n mX11_orNotToday [vI x7] M (fun r_1 M1 => Q r_1 M1))) ∧ (¬ (M 4 0 0 ≤ x10) → OkI G n mX5_leastAt [vO 9, vI x10] M (fun r_2 M2 => OkI G n mX5_leastAt [vO 10, vI x10] M2 (fun r_3 M3 => (1439 < (if r_2 < r_3 then r_3 else r_2) → CW G K mX11_meeting (n + 1) 133 [some (vO 1), none, none, none, none, none, some (vI x6), some (vI x7), some (vI x8), some (vI x9), some (vI x10), some (vI (if r_2 < r_3 then r_3 else r_2))] [] M3 (qI Q)) ∧ (¬ (1439 < (if r_2 < r_3 then r_3 else r_2)) → CW G K mX11_meeting (n + 1) 133 [some (vO 1), none, none, none, none, none, some (vI x6), some (vI x7), some (vI x8), some (vI (wr (x9 + 1))), some (vI x10), some (vI (if r_2 < r_3 then r_3 else r_2))] [] M3 (qI Q)))))) : CW G K mX11_meeting (n + 1) 84 [some (vO 1), none, none, none, none, none, some (vI x6), some (vI x7), some (vI x8), some (vI x9), some (vI x10), none] [] M (qI Q) := by
  refine r_iload dX11_meeting_84 rfl ?_
  refine r_aload_n dX11_meeting_86 rfl ?_
  refine r_getO (o' := 3) dX11_meeting_87 fX11_32 rfl tX11_4 rfl ?_
  refine r_getO (o' := 4) dX11_meeting_90 fX11_107 rfl tX8_0 rfl ?_
  refine r_getI dX11_meeting_93 fX11_110 rfl tX1_0 ?_
  refine r_icmp_ge (tgt := 162) dX11_meeting_96 (by decide) (fun h_4 => ?_) (fun h_4 => ?_)
  · have T := T.1 h_4
    refine r_iload dX11_meeting_162 rfl ?_
    refine r_if_ne (tgt := 173) dX11_meeting_164 (by decide) (fun h_2 => ?_) (fun h_2 => ?_)
    · have T := T.1 h_2
      refine r_iload dX11_meeting_173 rfl ?_
      refine r_iconst dX11_meeting_175 (by decide) ?_
      refine r_icmp_ne (tgt := 184) dX11_meeting_176 (by decide) (fun h_1 => ?_) (fun h_1 => ?_)
      · have T := T.1 h_1
        refine r_iload dX11_meeting_184 rfl ?_
        exact r_ireturn dX11_meeting_186 rfl ⟨_, rfl, T⟩
      · have T := T.2 h_1
        refine r_iload dX11_meeting_179 rfl ?_
        refine r_goto (tgt := 186) dX11_meeting_181 (by decide) ?_
        exact r_ireturn dX11_meeting_186 rfl ⟨_, rfl, T⟩
    · have T := T.2 h_2
      refine r_iload dX11_meeting_167 rfl ?_
      refine r_callSI (md' := mX11_orNotToday) (as := [vI x7]) dX11_meeting_169 lX11_216 iX11_orNotToday rfl rfl (Nat.le_of_ble_eq_true rfl) T (fun r_1 M1 T => ?_)
      exact r_ireturn dX11_meeting_172 rfl ⟨_, rfl, T⟩
  · have T := T.2 h_4
    refine r_aload_n dX11_meeting_99 rfl ?_
    refine r_getO (o' := 9) dX11_meeting_100 fX11_50 rfl tX11_7 rfl ?_
    refine r_iload dX11_meeting_103 rfl ?_
    refine r_callVI (md' := mX5_leastAt) (as := [vI x10]) dX11_meeting_105 lX11_212 iX5_leastAt rfl rfl rfl (Nat.le_of_ble_eq_true rfl) T (fun r_2 M2 T => ?_)
    refine r_aload_n dX11_meeting_108 rfl ?_
    refine r_getO (o' := 10) dX11_meeting_109 fX11_54 rfl tX11_8 rfl ?_
    refine r_iload dX11_meeting_112 rfl ?_
    refine r_callVI (md' := mX5_leastAt) (as := [vI x10]) dX11_meeting_114 lX11_212 iX5_leastAt rfl rfl rfl (Nat.le_of_ble_eq_true rfl) T (fun r_3 M3 T => ?_)
    refine r_max dX11_meeting_117 lX11_264 wmax2 wmath wmax4 (Nat.le_of_ble_eq_true rfl) ?_
    refine r_istore dX11_meeting_120 (by decide) rfl ?_
    refine r_iload dX11_meeting_122 rfl ?_
    refine r_sipush dX11_meeting_124 (by decide) (by decide) ?_
    refine r_icmp_gt (tgt := 133) dX11_meeting_127 (by decide) (fun h_3 => ?_) (fun h_3 => ?_)
    · have T := T.1 h_3
      exact T
    · have T := T.2 h_3
      refine r_iinc dX11_meeting_130 rfl (by decide) rfl ?_
      exact T
set_option maxRecDepth 20000 in
set_option maxHeartbeats 1000000 in
theorem bX11_meeting_133 {G : Gx} {K : Kx} {n : Nat} {M : Mem} {Q : Int → Mem → Prop}  {x6 : Int} {x7 : Int} {x8 : Int} {x9 : Int} {x10 : Int} {x11 : Int}  (T : (1439 < x11 → CW G K mX11_meeting (n + 1) 84 [some (vO 1), none, none, none, none, none, some (vI x6), some (vI x7), some (vI x8), some (vI x9), some (vI (wr (x10 + 1))), none] [] M (qI Q)) ∧ (¬ (1439 < x11) → (x7 ≤ x11 → CW G K mX11_meeting (n + 1) 84 [some (vO 1), none, none, none, none, none, some (vI x6), some (vI x7), some (vI x8), some (vI x9), some (vI (wr (x10 + 1))), none] [] M (qI Q)) ∧ (¬ (x7 ≤ x11) → CW G K mX11_meeting (n + 1) 84 [some (vO 1), none, none, none, none, none, some (vI x6), some (vI x11), some (vI x10), some (vI x9), some (vI (wr (x10 + 1))), none] [] M (qI Q)))) : CW G K mX11_meeting (n + 1) 133 [some (vO 1), none, none, none, none, none, some (vI x6), some (vI x7), some (vI x8), some (vI x9), some (vI x10), some (vI x11)] [] M (qI Q) := by
  refine r_iload dX11_meeting_133 rfl ?_
  refine r_sipush dX11_meeting_135 (by decide) (by decide) ?_
  refine r_icmp_gt (tgt := 156) dX11_meeting_138 (by decide) (fun h_2 => ?_) (fun h_2 => ?_)
  · have T := T.1 h_2
    refine r_iinc dX11_meeting_156 rfl (by decide) rfl ?_
    refine r_goto (tgt := 84) dX11_meeting_159 (by decide) ?_
    exact CW_msk [true, false, false, false, false, false, true, true, true, true, true, false] rfl T
  · have T := T.2 h_2
    refine r_iload dX11_meeting_141 rfl ?_
    refine r_iload dX11_meeting_143 rfl ?_
    refine r_icmp_ge (tgt := 156) dX11_meeting_145 (by decide) (fun h_1 => ?_) (fun h_1 => ?_)
    · have T := T.1 h_1
      refine r_iinc dX11_meeting_156 rfl (by decide) rfl ?_
      refine r_goto (tgt := 84) dX11_meeting_159 (by decide) ?_
      exact CW_msk [true, false, false, false, false, false, true, true, true, true, true, false] rfl T
    · have T := T.2 h_1
      refine r_iload dX11_meeting_148 rfl ?_
      refine r_istore dX11_meeting_150 (by decide) rfl ?_
      refine r_iload dX11_meeting_152 rfl ?_
      refine r_istore dX11_meeting_154 (by decide) rfl ?_
      refine r_iinc dX11_meeting_156 rfl (by decide) rfl ?_
      refine r_goto (tgt := 84) dX11_meeting_159 (by decide) ?_
      exact CW_msk [true, false, false, false, false, false, true, true, true, true, true, false] rfl T
theorem eX11_meeting {G : Gx} {n : Nat} {M : Mem} {Q : Int → Mem → Prop}  {x1 : Int} {x2 : Int} {x3 : Int} {x4 : Int} {x5 : Int} {x6 : Int} (h : ∀ K : Kx, CW G K mX11_meeting n 0 [some (vO 1), some (vI x1), some (vI x2), some (vI x3), some (vI x4), some (vI x5), some (vI x6), none, none, none, none, none] [] M (qI Q)) : OkI G n mX11_meeting [vO 1, vI x1, vI x2, vI x3, vI x4, vI x5, vI x6] M Q := Ok_of (by decide) (Nat.le_of_ble_eq_true rfl) rfl h
-- DownOnly trip (III)I
set_option maxRecDepth 20000 in
set_option maxHeartbeats 1000000 in
theorem bX11_trip_0 {G : Gx} {K : Kx} {n : Nat} {M : Mem} {Q : Int → Mem → Prop}  {x1 : Int} {x2 : Int} {x3 : Int}  (T : (¬ x1 = (-1) → (12 ≤ M 6 2 0 → Q (-2) M) ∧ (¬ (12 ≤ M 6 2 0) → OkI G n mX11_isStart [vO 1, vI x1, vI x2] M (fun r_1 M1 => (r_1 = 0 → Q (-2) M1) ∧ (¬ (r_1 = 0) → OkI G n mX1_isRoom [vO 4, vI x3] M1 (fun r_2 M2 => (¬ r_2 = 0 → OkV G n mX5_from [vO 9, vO 4, vI x1, vI x2, vI 0] M2 (fun M3 => OkI G n mX5_leastAt [vO 9, vI x3] M3 (fun r_3 M4 => (r_3 ≤ 1439 → OkI G n mX3_addTrip [vO 6, vI x1, vI x2, vI x3, vI r_3] M4 (fun r_4 M5 => Q r_4 M5)) ∧ (¬ (r_3 ≤ 1439) → Q (-2) M4)))) ∧ (r_2 = 0 → Q (-2) M2)))))) ∧ (x1 = (-1) → ∀ M6 : Mem, M6 = mset M 6 2 0 0 → Q 0 M6)) : CW G K mX11_trip (n + 1) 0 [some (vO 1), some (vI x1), some (vI x2), some (vI x3), none, none] [] M (qI Q) := by
  refine r_aload_n dX11_trip_0 rfl ?_
  refine r_getO (o' := 3) dX11_trip_1 fX11_32 rfl tX11_4 rfl ?_
  refine r_getO (o' := 6) dX11_trip_4 fX11_227 rfl tX8_2 rfl ?_
  refine r_astore dX11_trip_7 (by decide) rfl ?_
  refine r_iload_n dX11_trip_9 rfl ?_
  refine r_iconst dX11_trip_10 (by decide) ?_
  refine r_icmp_ne (tgt := 22) dX11_trip_11 (by decide) (fun h_5 => ?_) (fun h_5 => ?_)
  · have T := T.1 h_5
    refine r_aload dX11_trip_22 rfl ?_
    refine r_getI dX11_trip_24 fX11_270 rfl tX3_2 ?_
    refine r_bipush dX11_trip_27 (by decide) (by decide) ?_
    refine r_icmp_ge (tgt := 55) dX11_trip_29 (by decide) (fun h_4 => ?_) (fun h_4 => ?_)
    · have T := T.1 h_4
      refine r_bipush dX11_trip_55 (by decide) (by decide) ?_
      exact r_ireturn dX11_trip_57 rfl ⟨_, rfl, T⟩
    · have T := T.2 h_4
      refine r_aload_n dX11_trip_32 rfl ?_
      refine r_iload_n dX11_trip_33 rfl ?_
      refine r_iload_n dX11_trip_34 rfl ?_
      refine r_callVI (md' := mX11_isStart) (as := [vI x1, vI x2]) dX11_trip_35 lX11_205 iX11_isStart rfl rfl rfl (Nat.le_of_ble_eq_true rfl) T (fun r_1 M1 T => ?_)
      refine r_if_eq (tgt := 55) dX11_trip_38 (by decide) (fun h_3 => ?_) (fun h_3 => ?_)
      · have T := T.1 h_3
        refine r_bipush dX11_trip_55 (by decide) (by decide) ?_
        exact r_ireturn dX11_trip_57 rfl ⟨_, rfl, T⟩
      · have T := T.2 h_3
        refine r_aload_n dX11_trip_41 rfl ?_
        refine r_getO (o' := 3) dX11_trip_42 fX11_32 rfl tX11_4 rfl ?_
        refine r_getO (o' := 4) dX11_trip_45 fX11_107 rfl tX8_0 rfl ?_
        refine r_iload_n dX11_trip_48 rfl ?_
        refine r_callVI (md' := mX1_isRoom) (as := [vI x3]) dX11_trip_49 lX11_123 iX1_isRoom rfl rfl rfl (Nat.le_of_ble_eq_true rfl) T (fun r_2 M2 T => ?_)
        refine r_if_ne (tgt := 58) dX11_trip_52 (by decide) (fun h_2 => ?_) (fun h_2 => ?_)
        · have T := T.1 h_2
          refine r_aload_n dX11_trip_58 rfl ?_
          refine r_getO (o' := 9) dX11_trip_59 fX11_50 rfl tX11_7 rfl ?_
          refine r_aload_n dX11_trip_62 rfl ?_
          refine r_getO (o' := 3) dX11_trip_63 fX11_32 rfl tX11_4 rfl ?_
          refine r_getO (o' := 4) dX11_trip_66 fX11_107 rfl tX8_0 rfl ?_
          refine r_iload_n dX11_trip_69 rfl ?_
          refine r_iload_n dX11_trip_70 rfl ?_
          refine r_iconst dX11_trip_71 (by decide) ?_
          refine r_callVV (md' := mX5_from) (as := [vO 4, vI x1, vI x2, vI 0]) dX11_trip_72 lX11_209 iX5_from rfl rfl rfl (Nat.le_of_ble_eq_true rfl) T (fun M3 T => ?_)
          refine r_aload_n dX11_trip_75 rfl ?_
          refine r_getO (o' := 9) dX11_trip_76 fX11_50 rfl tX11_7 rfl ?_
          refine r_iload_n dX11_trip_79 rfl ?_
          refine r_callVI (md' := mX5_leastAt) (as := [vI x3]) dX11_trip_80 lX11_212 iX5_leastAt rfl rfl rfl (Nat.le_of_ble_eq_true rfl) T (fun r_3 M4 T => ?_)
          refine r_istore dX11_trip_83 (by decide) rfl ?_
          refine r_iload dX11_trip_85 rfl ?_
          refine r_sipush dX11_trip_87 (by decide) (by decide) ?_
          refine r_icmp_le (tgt := 96) dX11_trip_90 (by decide) (fun h_1 => ?_) (fun h_1 => ?_)
          · have T := T.1 h_1
            refine r_aload dX11_trip_96 rfl ?_
            refine r_iload_n dX11_trip_98 rfl ?_
            refine r_iload_n dX11_trip_99 rfl ?_
            refine r_iload_n dX11_trip_100 rfl ?_
            refine r_iload dX11_trip_101 rfl ?_
            refine r_callVI (md' := mX3_addTrip) (as := [vI x1, vI x2, vI x3, vI r_3]) dX11_trip_103 lX11_273 iX3_addTrip rfl rfl rfl (Nat.le_of_ble_eq_true rfl) T (fun r_4 M5 T => ?_)
            exact r_ireturn dX11_trip_106 rfl ⟨_, rfl, T⟩
          · have T := T.2 h_1
            refine r_bipush dX11_trip_93 (by decide) (by decide) ?_
            exact r_ireturn dX11_trip_95 rfl ⟨_, rfl, T⟩
        · have T := T.2 h_2
          refine r_bipush dX11_trip_55 (by decide) (by decide) ?_
          exact r_ireturn dX11_trip_57 rfl ⟨_, rfl, T⟩
  · have T := T.2 h_5
    refine r_aload dX11_trip_14 rfl ?_
    refine r_iconst dX11_trip_16 (by decide) ?_
    refine n_put dX11_trip_17 pX11_270 rfl tX3_2 (fun M6 hM6 => ?_)
    have T := T M6 hM6
    refine r_iconst dX11_trip_20 (by decide) ?_
    exact r_ireturn dX11_trip_21 rfl ⟨_, rfl, T⟩
theorem eX11_trip {G : Gx} {n : Nat} {M : Mem} {Q : Int → Mem → Prop}  {x1 : Int} {x2 : Int} {x3 : Int} (h : ∀ K : Kx, CW G K mX11_trip n 0 [some (vO 1), some (vI x1), some (vI x2), some (vI x3), none, none] [] M (qI Q)) : OkI G n mX11_trip [vO 1, vI x1, vI x2, vI x3] M Q := Ok_of (by decide) (Nat.le_of_ble_eq_true rfl) rfl h
-- DownOnly trips (II)I
set_option maxRecDepth 20000 in
set_option maxHeartbeats 1000000 in
theorem bX11_trips_0 {G : Gx} {K : Kx} {n : Nat} {M : Mem} {Q : Int → Mem → Prop}  {x1 : Int} {x2 : Int}  (T : (x1 < 0 → Q (-1) M) ∧ (¬ (x1 < 0) → (M 6 2 0 ≤ x1 → Q (-1) M) ∧ (¬ (M 6 2 0 ≤ x1) → (12 ≤ x1 → Q (-1) M) ∧ (¬ (12 ≤ x1) → ((-1) ≤ x2 → (¬ x2 = (-1) → OkV G n mX10_begin [vO 11, vO 4, vO 6, vI x1] M (fun M1 => CW G K mX11_trips (n + 1) 64 [some (vO 1), none, some (vI x2), none, some (vI 0)] [] M1 (qI Q))) ∧ (x2 = (-1) → (0 ≤ x1 ∧ x1 < 12) ∧ (Q (M 6 12 x1.toNat) M))) ∧ (¬ ((-1) ≤ x2) → Q (-1) M))))) : CW G K mX11_trips (n + 1) 0 [some (vO 1), some (vI x1), some (vI x2), none, none] [] M (qI Q) := by
  refine r_aload_n dX11_trips_0 rfl ?_
  refine r_getO (o' := 3) dX11_trips_1 fX11_32 rfl tX11_4 rfl ?_
  refine r_getO (o' := 6) dX11_trips_4 fX11_227 rfl tX8_2 rfl ?_
  refine r_astore_n dX11_trips_7 (by decide) rfl ?_
  refine r_iload_n dX11_trips_8 rfl ?_
  refine r_if_lt (tgt := 31) dX11_trips_9 (by decide) (fun h_5 => ?_) (fun h_5 => ?_)
  · have T := T.1 h_5
    refine r_iconst dX11_trips_31 (by decide) ?_
    exact r_ireturn dX11_trips_32 rfl ⟨_, rfl, T⟩
  · have T := T.2 h_5
    refine r_iload_n dX11_trips_12 rfl ?_
    refine r_aload_n dX11_trips_13 rfl ?_
    refine r_getI dX11_trips_14 fX11_270 rfl tX3_2 ?_
    refine r_icmp_ge (tgt := 31) dX11_trips_17 (by decide) (fun h_4 => ?_) (fun h_4 => ?_)
    · have T := T.1 h_4
      refine r_iconst dX11_trips_31 (by decide) ?_
      exact r_ireturn dX11_trips_32 rfl ⟨_, rfl, T⟩
    · have T := T.2 h_4
      refine r_iload_n dX11_trips_20 rfl ?_
      refine r_bipush dX11_trips_21 (by decide) (by decide) ?_
      refine r_icmp_ge (tgt := 31) dX11_trips_23 (by decide) (fun h_3 => ?_) (fun h_3 => ?_)
      · have T := T.1 h_3
        refine r_iconst dX11_trips_31 (by decide) ?_
        exact r_ireturn dX11_trips_32 rfl ⟨_, rfl, T⟩
      · have T := T.2 h_3
        refine r_iload_n dX11_trips_26 rfl ?_
        refine r_iconst dX11_trips_27 (by decide) ?_
        refine r_icmp_ge (tgt := 33) dX11_trips_28 (by decide) (fun h_2 => ?_) (fun h_2 => ?_)
        · have T := T.1 h_2
          refine r_iload_n dX11_trips_33 rfl ?_
          refine r_iconst dX11_trips_34 (by decide) ?_
          refine r_icmp_ne (tgt := 45) dX11_trips_35 (by decide) (fun h_1 => ?_) (fun h_1 => ?_)
          · have T := T.1 h_1
            refine r_aload_n dX11_trips_45 rfl ?_
            refine r_getO (o' := 11) dX11_trips_46 fX11_60 rfl tX11_9 rfl ?_
            refine r_aload_n dX11_trips_49 rfl ?_
            refine r_getO (o' := 3) dX11_trips_50 fX11_32 rfl tX11_4 rfl ?_
            refine r_getO (o' := 4) dX11_trips_53 fX11_107 rfl tX8_0 rfl ?_
            refine r_aload_n dX11_trips_56 rfl ?_
            refine r_iload_n dX11_trips_57 rfl ?_
            refine r_callVV (md' := mX10_begin) (as := [vO 4, vO 6, vI x1]) dX11_trips_58 lX11_279 iX10_begin rfl rfl rfl (Nat.le_of_ble_eq_true rfl) T (fun M1 T => ?_)
            refine r_iconst dX11_trips_61 (by decide) ?_
            refine r_istore dX11_trips_62 (by decide) rfl ?_
            exact CW_msk [true, false, true, false, true] rfl T
          · have T := T.2 h_1
            refine r_aload_n dX11_trips_38 rfl ?_
            refine r_getA dX11_trips_39 fX11_276 rfl uX3_12 ?_
            refine r_iload_n dX11_trips_42 rfl ?_
            refine s_iald dX11_trips_43 rfl tX3_12 aX3_12 T.1 ?_
            have T := T.2
            exact r_ireturn dX11_trips_44 rfl ⟨_, rfl, T⟩
        · have T := T.2 h_2
          refine r_iconst dX11_trips_31 (by decide) ?_
          exact r_ireturn dX11_trips_32 rfl ⟨_, rfl, T⟩
set_option maxRecDepth 20000 in
set_option maxHeartbeats 1000000 in
theorem bX11_trips_64 {G : Gx} {K : Kx} {n : Nat} {M : Mem} {Q : Int → Mem → Prop}  {x2 : Int} {x4 : Int}  (T : (1440 ≤ x4 → Q (-2) M) ∧ (¬ (1440 ≤ x4) → OkI G n mX10_step [vO 11, vO 4] M (fun r_1 M1 => (¬ r_1 = 0 → (¬ x4 = x2 → CW G K mX11_trips (n + 1) 64 [some (vO 1), none, some (vI x2), none, some (vI (wr (x4 + 1)))] [] M1 (qI Q)) ∧ (x4 = x2 → Q (M1 11 4 0) M1)) ∧ (r_1 = 0 → Q (-2) M1)))) : CW G K mX11_trips (n + 1) 64 [some (vO 1), none, some (vI x2), none, some (vI x4)] [] M (qI Q) := by
  refine r_iload dX11_trips_64 rfl ?_
  refine r_sipush dX11_trips_66 (by decide) (by decide) ?_
  refine r_icmp_ge (tgt := 112) dX11_trips_69 (by decide) (fun h_3 => ?_) (fun h_3 => ?_)
  · have T := T.1 h_3
    refine r_bipush dX11_trips_112 (by decide) (by decide) ?_
    exact r_ireturn dX11_trips_114 rfl ⟨_, rfl, T⟩
  · have T := T.2 h_3
    refine r_aload_n dX11_trips_72 rfl ?_
    refine r_getO (o' := 11) dX11_trips_73 fX11_60 rfl tX11_9 rfl ?_
    refine r_aload_n dX11_trips_76 rfl ?_
    refine r_getO (o' := 3) dX11_trips_77 fX11_32 rfl tX11_4 rfl ?_
    refine r_getO (o' := 4) dX11_trips_80 fX11_107 rfl tX8_0 rfl ?_
    refine r_callVI (md' := mX10_step) (as := [vO 4]) dX11_trips_83 lX11_283 iX10_step rfl rfl rfl (Nat.le_of_ble_eq_true rfl) T (fun r_1 M1 T => ?_)
    refine r_if_ne (tgt := 92) dX11_trips_86 (by decide) (fun h_2 => ?_) (fun h_2 => ?_)
    · have T := T.1 h_2
      refine r_iload dX11_trips_92 rfl ?_
      refine r_iload_n dX11_trips_94 rfl ?_
      refine r_icmp_ne (tgt := 106) dX11_trips_95 (by decide) (fun h_1 => ?_) (fun h_1 => ?_)
      · have T := T.1 h_1
        refine r_iinc dX11_trips_106 rfl (by decide) rfl ?_
        refine r_goto (tgt := 64) dX11_trips_109 (by decide) ?_
        exact T
      · have T := T.2 h_1
        refine r_aload_n dX11_trips_98 rfl ?_
        refine r_getO (o' := 11) dX11_trips_99 fX11_60 rfl tX11_9 rfl ?_
        refine r_getI dX11_trips_102 fX11_287 rfl tX10_4 ?_
        exact r_ireturn dX11_trips_105 rfl ⟨_, rfl, T⟩
    · have T := T.2 h_2
      refine r_bipush dX11_trips_89 (by decide) (by decide) ?_
      exact r_ireturn dX11_trips_91 rfl ⟨_, rfl, T⟩
theorem eX11_trips {G : Gx} {n : Nat} {M : Mem} {Q : Int → Mem → Prop}  {x1 : Int} {x2 : Int} (h : ∀ K : Kx, CW G K mX11_trips n 0 [some (vO 1), some (vI x1), some (vI x2), none, none] [] M (qI Q)) : OkI G n mX11_trips [vO 1, vI x1, vI x2] M Q := Ok_of (by decide) (Nat.le_of_ble_eq_true rfl) rfl h
-- DownOnly brought (III)I
set_option maxRecDepth 20000 in
set_option maxHeartbeats 1000000 in
theorem bX11_brought_0 {G : Gx} {K : Kx} {n : Nat} {M : Mem} {Q : Int → Mem → Prop}  {x1 : Int} {x2 : Int} {x3 : Int}  (T : OkI G n mX11_isStart [vO 1, vI x1, vI x2] M (fun r_1 M1 => (r_1 = 0 → Q (-1) M1) ∧ (¬ (r_1 = 0) → OkI G n mX1_isRoom [vO 4, vI x3] M1 (fun r_2 M2 => (¬ r_2 = 0 → OkV G n mJ7_fill_53178 [vA 1 11, vI 1000000] M2 (fun M3 => (0 ≤ x1 ∧ x1 < 16) ∧ (∀ M4 : Mem, M4 = mset M3 1 11 x1.toNat x2 → CW G K mX11_brought (n + 1) 48 [some (vO 1), none, none, some (vI x3), some (vI 1), some (vI 0), none] [] M4 (qI Q)))) ∧ (r_2 = 0 → Q (-1) M2))))) : CW G K mX11_brought (n + 1) 0 [some (vO 1), some (vI x1), some (vI x2), some (vI x3), none, none, none] [] M (qI Q) := by
  refine r_aload_n dX11_brought_0 rfl ?_
  refine r_iload_n dX11_brought_1 rfl ?_
  refine r_iload_n dX11_brought_2 rfl ?_
  refine r_callVI (md' := mX11_isStart) (as := [vI x1, vI x2]) dX11_brought_3 lX11_205 iX11_isStart rfl rfl rfl (Nat.le_of_ble_eq_true rfl) T (fun r_1 M1 T => ?_)
  refine r_if_eq (tgt := 23) dX11_brought_6 (by decide) (fun h_2 => ?_) (fun h_2 => ?_)
  · have T := T.1 h_2
    refine r_iconst dX11_brought_23 (by decide) ?_
    exact r_ireturn dX11_brought_24 rfl ⟨_, rfl, T⟩
  · have T := T.2 h_2
    refine r_aload_n dX11_brought_9 rfl ?_
    refine r_getO (o' := 3) dX11_brought_10 fX11_32 rfl tX11_4 rfl ?_
    refine r_getO (o' := 4) dX11_brought_13 fX11_107 rfl tX8_0 rfl ?_
    refine r_iload_n dX11_brought_16 rfl ?_
    refine r_callVI (md' := mX1_isRoom) (as := [vI x3]) dX11_brought_17 lX11_123 iX1_isRoom rfl rfl rfl (Nat.le_of_ble_eq_true rfl) T (fun r_2 M2 T => ?_)
    refine r_if_ne (tgt := 25) dX11_brought_20 (by decide) (fun h_1 => ?_) (fun h_1 => ?_)
    · have T := T.1 h_1
      refine r_aload_n dX11_brought_25 rfl ?_
      refine r_getA dX11_brought_26 fX11_64 rfl uX11_11 ?_
      refine r_ldcw (z := 1000000) dX11_brought_29 kX11_263 (by decide) (by decide) ?_
      refine r_callSV (md' := mJ7_fill_53178) (as := [vA 1 11, vI 1000000]) dX11_brought_32 lX11_290 iJ7_fill_53178 rfl rfl (Nat.le_of_ble_eq_true rfl) T (fun M3 T => ?_)
      refine r_aload_n dX11_brought_35 rfl ?_
      refine r_getA dX11_brought_36 fX11_64 rfl uX11_11 ?_
      refine r_iload_n dX11_brought_39 rfl ?_
      refine r_iload_n dX11_brought_40 rfl ?_
      refine n_iast dX11_brought_41 rfl tX11_11 aX11_11 T.1 (fun M4 hM4 => ?_)
      have T := T.2 M4 hM4
      refine r_iconst dX11_brought_42 (by decide) ?_
      refine r_istore dX11_brought_43 (by decide) rfl ?_
      refine r_iconst dX11_brought_45 (by decide) ?_
      refine r_istore dX11_brought_46 (by decide) rfl ?_
      exact CW_msk [true, false, false, true, true, true, false] rfl T
    · have T := T.2 h_1
      refine r_iconst dX11_brought_23 (by decide) ?_
      exact r_ireturn dX11_brought_24 rfl ⟨_, rfl, T⟩
set_option maxRecDepth 20000 in
set_option maxHeartbeats 1000000 in
theorem bX11_brought_48 {G : Gx} {K : Kx} {n : Nat} {M : Mem} {Q : Int → Mem → Prop}  {x3 : Int} {x4 : Int} {x5 : Int}  (T : (16 < x5 → (0 ≤ x3 ∧ x3 < 16) ∧ (OkI G n mX11_orNotToday [vI (M 1 11 x3.toNat)] M (fun r_1 M1 => Q r_1 M1))) ∧ (¬ (16 < x5) → (x4 = 0 → (0 ≤ x3 ∧ x3 < 16) ∧ (OkI G n mX11_orNotToday [vI (M 1 11 x3.toNat)] M (fun r_2 M2 => Q r_2 M2))) ∧ (¬ (x4 = 0) → CW G K mX11_brought (n + 1) 66 [some (vO 1), none, none, some (vI x3), some (vI 0), some (vI x5), some (vI 0)] [] M (qI Q)))) : CW G K mX11_brought (n + 1) 48 [some (vO 1), none, none, some (vI x3), some (vI x4), some (vI x5), none] [] M (qI Q) := by
  refine r_iload dX11_brought_48 rfl ?_
  refine r_bipush dX11_brought_50 (by decide) (by decide) ?_
  refine r_icmp_gt (tgt := 104) dX11_brought_52 (by decide) (fun h_2 => ?_) (fun h_2 => ?_)
  · have T := T.1 h_2
    refine r_aload_n dX11_brought_104 rfl ?_
    refine r_getA dX11_brought_105 fX11_64 rfl uX11_11 ?_
    refine r_iload_n dX11_brought_108 rfl ?_
    refine s_iald dX11_brought_109 rfl tX11_11 aX11_11 T.1 ?_
    have T := T.2
    refine r_callSI (md' := mX11_orNotToday) (as := [vI (M 1 11 x3.toNat)]) dX11_brought_110 lX11_216 iX11_orNotToday rfl rfl (Nat.le_of_ble_eq_true rfl) T (fun r_1 M1 T => ?_)
    exact r_ireturn dX11_brought_113 rfl ⟨_, rfl, T⟩
  · have T := T.2 h_2
    refine r_iload dX11_brought_55 rfl ?_
    refine r_if_eq (tgt := 104) dX11_brought_57 (by decide) (fun h_1 => ?_) (fun h_1 => ?_)
    · have T := T.1 h_1
      refine r_aload_n dX11_brought_104 rfl ?_
      refine r_getA dX11_brought_105 fX11_64 rfl uX11_11 ?_
      refine r_iload_n dX11_brought_108 rfl ?_
      refine s_iald dX11_brought_109 rfl tX11_11 aX11_11 T.1 ?_
      have T := T.2
      refine r_callSI (md' := mX11_orNotToday) (as := [vI (M 1 11 x3.toNat)]) dX11_brought_110 lX11_216 iX11_orNotToday rfl rfl (Nat.le_of_ble_eq_true rfl) T (fun r_2 M2 T => ?_)
      exact r_ireturn dX11_brought_113 rfl ⟨_, rfl, T⟩
    · have T := T.2 h_1
      refine r_iconst dX11_brought_60 (by decide) ?_
      refine r_istore dX11_brought_61 (by decide) rfl ?_
      refine r_iconst dX11_brought_63 (by decide) ?_
      refine r_istore dX11_brought_64 (by decide) rfl ?_
      exact T
set_option maxRecDepth 20000 in
set_option maxHeartbeats 1000000 in
theorem bX11_brought_66 {G : Gx} {K : Kx} {n : Nat} {M : Mem} {Q : Int → Mem → Prop}  {x3 : Int} {x4 : Int} {x5 : Int} {x6 : Int}  (T : (M 6 2 0 ≤ x6 → CW G K mX11_brought (n + 1) 48 [some (vO 1), none, none, some (vI x3), some (vI x4), some (vI (wr (x5 + 1))), none] [] M (qI Q)) ∧ (¬ (M 6 2 0 ≤ x6) → OkI G n mX11_takeAlong [vO 1, vI x6] M (fun r_1 M1 => CW G K mX11_brought (n + 1) 66 [some (vO 1), none, none, some (vI x3), some (vI (bOr x4 r_1)), some (vI x5), some (vI (wr (x6 + 1)))] [] M1 (qI Q)))) : CW G K mX11_brought (n + 1) 66 [some (vO 1), none, none, some (vI x3), some (vI x4), some (vI x5), some (vI x6)] [] M (qI Q) := by
  refine r_iload dX11_brought_66 rfl ?_
  refine r_aload_n dX11_brought_68 rfl ?_
  refine r_getO (o' := 3) dX11_brought_69 fX11_32 rfl tX11_4 rfl ?_
  refine r_getO (o' := 6) dX11_brought_72 fX11_227 rfl tX8_2 rfl ?_
  refine r_getI dX11_brought_75 fX11_270 rfl tX3_2 ?_
  refine r_icmp_ge (tgt := 98) dX11_brought_78 (by decide) (fun h_1 => ?_) (fun h_1 => ?_)
  · have T := T.1 h_1
    refine r_iinc dX11_brought_98 rfl (by decide) rfl ?_
    refine r_goto (tgt := 48) dX11_brought_101 (by decide) ?_
    exact CW_msk [true, false, false, true, true, true, false] rfl T
  · have T := T.2 h_1
    refine r_iload dX11_brought_81 rfl ?_
    refine r_aload_n dX11_brought_83 rfl ?_
    refine r_iload dX11_brought_84 rfl ?_
    refine r_callVI (md' := mX11_takeAlong) (as := [vI x6]) dX11_brought_86 lX11_296 iX11_takeAlong rfl rfl rfl (Nat.le_of_ble_eq_true rfl) T (fun r_1 M1 T => ?_)
    refine r_ior dX11_brought_89 ?_
    refine r_istore dX11_brought_90 (by decide) rfl ?_
    refine r_iinc dX11_brought_92 rfl (by decide) rfl ?_
    refine r_goto (tgt := 66) dX11_brought_95 (by decide) ?_
    exact T
theorem eX11_brought {G : Gx} {n : Nat} {M : Mem} {Q : Int → Mem → Prop}  {x1 : Int} {x2 : Int} {x3 : Int} (h : ∀ K : Kx, CW G K mX11_brought n 0 [some (vO 1), some (vI x1), some (vI x2), some (vI x3), none, none, none] [] M (qI Q)) : OkI G n mX11_brought [vO 1, vI x1, vI x2, vI x3] M Q := Ok_of (by decide) (Nat.le_of_ble_eq_true rfl) rfl h
-- DownOnly takeAlong (I)Z
set_option maxRecDepth 20000 in
set_option maxHeartbeats 1000000 in
theorem bX11_takeAlong_0 {G : Gx} {K : Kx} {n : Nat} {M : Mem} {Q : Int → Mem → Prop}  {x1 : Int}  (T : OkV G n mX10_begin [vO 11, vO 4, vO 6, vI x1] M (fun M1 => CW G K mX11_takeAlong (n + 1) 29 [some (vO 1), none, some (vI 0), some (vI 0), some (vI 0), none] [] M1 (qI Q))) : CW G K mX11_takeAlong (n + 1) 0 [some (vO 1), some (vI x1), none, none, none, none] [] M (qI Q) := by
  refine r_iconst dX11_takeAlong_0 (by decide) ?_
  refine r_istore_n dX11_takeAlong_1 (by decide) rfl ?_
  refine r_iconst dX11_takeAlong_2 (by decide) ?_
  refine r_istore_n dX11_takeAlong_3 (by decide) rfl ?_
  refine r_aload_n dX11_takeAlong_4 rfl ?_
  refine r_getO (o' := 11) dX11_takeAlong_5 fX11_60 rfl tX11_9 rfl ?_
  refine r_aload_n dX11_takeAlong_8 rfl ?_
  refine r_getO (o' := 3) dX11_takeAlong_9 fX11_32 rfl tX11_4 rfl ?_
  refine r_getO (o' := 4) dX11_takeAlong_12 fX11_107 rfl tX8_0 rfl ?_
  refine r_aload_n dX11_takeAlong_15 rfl ?_
  refine r_getO (o' := 3) dX11_takeAlong_16 fX11_32 rfl tX11_4 rfl ?_
  refine r_getO (o' := 6) dX11_takeAlong_19 fX11_227 rfl tX8_2 rfl ?_
  refine r_iload_n dX11_takeAlong_22 rfl ?_
  refine r_callVV (md' := mX10_begin) (as := [vO 4, vO 6, vI x1]) dX11_takeAlong_23 lX11_279 iX10_begin rfl rfl rfl (Nat.le_of_ble_eq_true rfl) T (fun M1 T => ?_)
  refine r_iconst dX11_takeAlong_26 (by decide) ?_
  refine r_istore dX11_takeAlong_27 (by decide) rfl ?_
  exact CW_msk [true, false, true, true, true, false] rfl T
set_option maxRecDepth 20000 in
set_option maxHeartbeats 1000000 in
theorem bX11_takeAlong_29 {G : Gx} {K : Kx} {n : Nat} {M : Mem} {Q : Int → Mem → Prop}  {x2 : Int} {x3 : Int} {x4 : Int}  (T : (1440 ≤ x4 → (x2 = 0 ∨ x2 = 1) ∧ Q x2 M) ∧ (¬ (1440 ≤ x4) → OkI G n mX1_isRoom [vO 4, vI (M 11 2 0)] M (fun r_1 M1 => (r_1 = 0 → (x2 = 0 ∨ x2 = 1) ∧ Q x2 M1) ∧ (¬ (r_1 = 0) → OkI G n mX10_step [vO 11, vO 4] M1 (fun r_2 M2 => (r_2 = 0 → (x2 = 0 ∨ x2 = 1) ∧ Q x2 M2) ∧ (¬ (r_2 = 0) → OkI G n mX1_isRoom [vO 4, vI (M2 11 2 0)] M2 (fun r_3 M3 => (¬ r_3 = 0 → (0 ≤ M 11 2 0 ∧ M 11 2 0 < 16) ∧ ((M3 11 5 0 < M3 1 11 (M 11 2 0).toNat → CW G K mX11_takeAlong (n + 1) 123 [some (vO 1), none, some (vI x2), none, some (vI x4), none] [vI 0, vI x3] M3 (qI Q)) ∧ (¬ (M3 11 5 0 < M3 1 11 (M 11 2 0).toNat) → CW G K mX11_takeAlong (n + 1) 123 [some (vO 1), none, some (vI x2), none, some (vI x4), none] [vI 1, vI x3] M3 (qI Q)))) ∧ (r_3 = 0 → (x2 = 0 ∨ x2 = 1) ∧ Q x2 M3)))))))) : CW G K mX11_takeAlong (n + 1) 29 [some (vO 1), none, some (vI x2), some (vI x3), some (vI x4), none] [] M (qI Q) := by
  refine r_iload dX11_takeAlong_29 rfl ?_
  refine r_sipush dX11_takeAlong_31 (by decide) (by decide) ?_
  refine r_icmp_ge (tgt := 178) dX11_takeAlong_34 (by decide) (fun h_5 => ?_) (fun h_5 => ?_)
  · have T := T.1 h_5
    refine r_iload_n dX11_takeAlong_178 rfl ?_
    exact r_zreturn dX11_takeAlong_179 rfl T.1 ⟨_, rfl, T.2⟩
  · have T := T.2 h_5
    refine r_aload_n dX11_takeAlong_37 rfl ?_
    refine r_getO (o' := 11) dX11_takeAlong_38 fX11_60 rfl tX11_9 rfl ?_
    refine r_getI dX11_takeAlong_41 fX11_299 rfl tX10_2 ?_
    refine r_istore dX11_takeAlong_44 (by decide) rfl ?_
    refine r_aload_n dX11_takeAlong_46 rfl ?_
    refine r_getO (o' := 3) dX11_takeAlong_47 fX11_32 rfl tX11_4 rfl ?_
    refine r_getO (o' := 4) dX11_takeAlong_50 fX11_107 rfl tX8_0 rfl ?_
    refine r_iload dX11_takeAlong_53 rfl ?_
    refine r_callVI (md' := mX1_isRoom) (as := [vI (M 11 2 0)]) dX11_takeAlong_55 lX11_123 iX1_isRoom rfl rfl rfl (Nat.le_of_ble_eq_true rfl) T (fun r_1 M1 T => ?_)
    refine r_if_eq (tgt := 98) dX11_takeAlong_58 (by decide) (fun h_4 => ?_) (fun h_4 => ?_)
    · have T := T.1 h_4
      refine r_iload_n dX11_takeAlong_98 rfl ?_
      exact r_zreturn dX11_takeAlong_99 rfl T.1 ⟨_, rfl, T.2⟩
    · have T := T.2 h_4
      refine r_aload_n dX11_takeAlong_61 rfl ?_
      refine r_getO (o' := 11) dX11_takeAlong_62 fX11_60 rfl tX11_9 rfl ?_
      refine r_aload_n dX11_takeAlong_65 rfl ?_
      refine r_getO (o' := 3) dX11_takeAlong_66 fX11_32 rfl tX11_4 rfl ?_
      refine r_getO (o' := 4) dX11_takeAlong_69 fX11_107 rfl tX8_0 rfl ?_
      refine r_callVI (md' := mX10_step) (as := [vO 4]) dX11_takeAlong_72 lX11_283 iX10_step rfl rfl rfl (Nat.le_of_ble_eq_true rfl) T (fun r_2 M2 T => ?_)
      refine r_if_eq (tgt := 98) dX11_takeAlong_75 (by decide) (fun h_3 => ?_) (fun h_3 => ?_)
      · have T := T.1 h_3
        refine r_iload_n dX11_takeAlong_98 rfl ?_
        exact r_zreturn dX11_takeAlong_99 rfl T.1 ⟨_, rfl, T.2⟩
      · have T := T.2 h_3
        refine r_aload_n dX11_takeAlong_78 rfl ?_
        refine r_getO (o' := 3) dX11_takeAlong_79 fX11_32 rfl tX11_4 rfl ?_
        refine r_getO (o' := 4) dX11_takeAlong_82 fX11_107 rfl tX8_0 rfl ?_
        refine r_aload_n dX11_takeAlong_85 rfl ?_
        refine r_getO (o' := 11) dX11_takeAlong_86 fX11_60 rfl tX11_9 rfl ?_
        refine r_getI dX11_takeAlong_89 fX11_299 rfl tX10_2 ?_
        refine r_callVI (md' := mX1_isRoom) (as := [vI (M2 11 2 0)]) dX11_takeAlong_92 lX11_123 iX1_isRoom rfl rfl rfl (Nat.le_of_ble_eq_true rfl) T (fun r_3 M3 T => ?_)
        refine r_if_ne (tgt := 100) dX11_takeAlong_95 (by decide) (fun h_2 => ?_) (fun h_2 => ?_)
        · have T := T.1 h_2
          refine r_iload_n dX11_takeAlong_100 rfl ?_
          refine r_aload_n dX11_takeAlong_101 rfl ?_
          refine r_getA dX11_takeAlong_102 fX11_64 rfl uX11_11 ?_
          refine r_iload dX11_takeAlong_105 rfl ?_
          refine s_iald dX11_takeAlong_107 rfl tX11_11 aX11_11 T.1 ?_
          have T := T.2
          refine r_aload_n dX11_takeAlong_108 rfl ?_
          refine r_getO (o' := 11) dX11_takeAlong_109 fX11_60 rfl tX11_9 rfl ?_
          refine r_getI dX11_takeAlong_112 fX11_302 rfl tX10_5 ?_
          refine r_icmp_gt (tgt := 122) dX11_takeAlong_115 (by decide) (fun h_1 => ?_) (fun h_1 => ?_)
          · have T := T.1 h_1
            refine r_iconst dX11_takeAlong_122 (by decide) ?_
            exact CW_msk [true, false, true, false, true, false] rfl T
          · have T := T.2 h_1
            refine r_iconst dX11_takeAlong_118 (by decide) ?_
            refine r_goto (tgt := 123) dX11_takeAlong_119 (by decide) ?_
            exact CW_msk [true, false, true, false, true, false] rfl T
        · have T := T.2 h_2
          refine r_iload_n dX11_takeAlong_98 rfl ?_
          exact r_zreturn dX11_takeAlong_99 rfl T.1 ⟨_, rfl, T.2⟩
set_option maxRecDepth 20000 in
set_option maxHeartbeats 1000000 in
theorem bX11_takeAlong_123 {G : Gx} {K : Kx} {n : Nat} {M : Mem} {Q : Int → Mem → Prop}  {x2 : Int} {x4 : Int} {z0 : Int} {z1 : Int}  (T : (bOr z1 z0 = 0 → CW G K mX11_takeAlong (n + 1) 29 [some (vO 1), none, some (vI x2), some (vI (bOr z1 z0)), some (vI (wr (x4 + 1))), none] [] M (qI Q)) ∧ (¬ (bOr z1 z0 = 0) → (0 ≤ M 11 2 0 ∧ M 11 2 0 < 16) ∧ ((M 1 11 (M 11 2 0).toNat ≤ M 11 3 0 → CW G K mX11_takeAlong (n + 1) 29 [some (vO 1), none, some (vI x2), some (vI (bOr z1 z0)), some (vI (wr (x4 + 1))), none] [] M (qI Q)) ∧ (¬ (M 1 11 (M 11 2 0).toNat ≤ M 11 3 0) → (0 ≤ M 11 2 0 ∧ M 11 2 0 < 16) ∧ (∀ M1 : Mem, M1 = mset M 1 11 (M 11 2 0).toNat (M 11 3 0) → CW G K mX11_takeAlong (n + 1) 29 [some (vO 1), none, some (vI 1), some (vI (bOr z1 z0)), some (vI (wr (x4 + 1))), none] [] M1 (qI Q)))))) : CW G K mX11_takeAlong (n + 1) 123 [some (vO 1), none, some (vI x2), none, some (vI x4), none] [vI z0, vI z1] M (qI Q) := by
  refine r_ior dX11_takeAlong_123 ?_
  refine r_istore_n dX11_takeAlong_124 (by decide) rfl ?_
  refine r_iload_n dX11_takeAlong_125 rfl ?_
  refine r_if_eq (tgt := 172) dX11_takeAlong_126 (by decide) (fun h_2 => ?_) (fun h_2 => ?_)
  · have T := T.1 h_2
    refine r_iinc dX11_takeAlong_172 rfl (by decide) rfl ?_
    refine r_goto (tgt := 29) dX11_takeAlong_175 (by decide) ?_
    exact T
  · have T := T.2 h_2
    refine r_aload_n dX11_takeAlong_129 rfl ?_
    refine r_getO (o' := 11) dX11_takeAlong_130 fX11_60 rfl tX11_9 rfl ?_
    refine r_getI dX11_takeAlong_133 fX11_305 rfl tX10_3 ?_
    refine r_aload_n dX11_takeAlong_136 rfl ?_
    refine r_getA dX11_takeAlong_137 fX11_64 rfl uX11_11 ?_
    refine r_aload_n dX11_takeAlong_140 rfl ?_
    refine r_getO (o' := 11) dX11_takeAlong_141 fX11_60 rfl tX11_9 rfl ?_
    refine r_getI dX11_takeAlong_144 fX11_299 rfl tX10_2 ?_
    refine s_iald dX11_takeAlong_147 rfl tX11_11 aX11_11 T.1 ?_
    have T := T.2
    refine r_icmp_ge (tgt := 172) dX11_takeAlong_148 (by decide) (fun h_1 => ?_) (fun h_1 => ?_)
    · have T := T.1 h_1
      refine r_iinc dX11_takeAlong_172 rfl (by decide) rfl ?_
      refine r_goto (tgt := 29) dX11_takeAlong_175 (by decide) ?_
      exact T
    · have T := T.2 h_1
      refine r_aload_n dX11_takeAlong_151 rfl ?_
      refine r_getA dX11_takeAlong_152 fX11_64 rfl uX11_11 ?_
      refine r_aload_n dX11_takeAlong_155 rfl ?_
      refine r_getO (o' := 11) dX11_takeAlong_156 fX11_60 rfl tX11_9 rfl ?_
      refine r_getI dX11_takeAlong_159 fX11_299 rfl tX10_2 ?_
      refine r_aload_n dX11_takeAlong_162 rfl ?_
      refine r_getO (o' := 11) dX11_takeAlong_163 fX11_60 rfl tX11_9 rfl ?_
      refine r_getI dX11_takeAlong_166 fX11_305 rfl tX10_3 ?_
      refine n_iast dX11_takeAlong_169 rfl tX11_11 aX11_11 T.1 (fun M1 hM1 => ?_)
      have T := T.2 M1 hM1
      refine r_iconst dX11_takeAlong_170 (by decide) ?_
      refine r_istore_n dX11_takeAlong_171 (by decide) rfl ?_
      refine r_iinc dX11_takeAlong_172 rfl (by decide) rfl ?_
      refine r_goto (tgt := 29) dX11_takeAlong_175 (by decide) ?_
      exact T
theorem eX11_takeAlong {G : Gx} {n : Nat} {M : Mem} {Q : Int → Mem → Prop}  {x1 : Int} (h : ∀ K : Kx, CW G K mX11_takeAlong n 0 [some (vO 1), some (vI x1), none, none, none, none] [] M (qI Q)) : OkI G n mX11_takeAlong [vO 1, vI x1] M Q := Ok_of (by decide) (Nat.le_of_ble_eq_true rfl) rfl h
-- DownOnly rider (I)I
set_option maxRecDepth 20000 in
set_option maxHeartbeats 1000000 in
theorem bX11_rider_0 {G : Gx} {K : Kx} {n : Nat} {M : Mem} {Q : Int → Mem → Prop}  {x1 : Int}  (T : (¬ x1 = (-1) → OkI G n mX11_isMinute [vI x1] M (fun r_1 M1 => (r_1 = 0 → Q (-2) M1) ∧ (¬ (r_1 = 0) → (M1 6 3 0 < 20 → OkI G n mX3_addRider [vO 6, vI x1] M1 (fun r_2 M2 => Q r_2 M2)) ∧ (¬ (M1 6 3 0 < 20) → Q (-2) M1)))) ∧ (x1 = (-1) → ∀ M3 : Mem, M3 = mset M 6 3 0 0 → Q 0 M3)) : CW G K mX11_rider (n + 1) 0 [some (vO 1), some (vI x1), none] [] M (qI Q) := by
  refine r_aload_n dX11_rider_0 rfl ?_
  refine r_getO (o' := 3) dX11_rider_1 fX11_32 rfl tX11_4 rfl ?_
  refine r_getO (o' := 6) dX11_rider_4 fX11_227 rfl tX8_2 rfl ?_
  refine r_astore_n dX11_rider_7 (by decide) rfl ?_
  refine r_iload_n dX11_rider_8 rfl ?_
  refine r_iconst dX11_rider_9 (by decide) ?_
  refine r_icmp_ne (tgt := 20) dX11_rider_10 (by decide) (fun h_3 => ?_) (fun h_3 => ?_)
  · have T := T.1 h_3
    refine r_iload_n dX11_rider_20 rfl ?_
    refine r_callSI (md' := mX11_isMinute) (as := [vI x1]) dX11_rider_21 lX11_236 iX11_isMinute rfl rfl (Nat.le_of_ble_eq_true rfl) T (fun r_1 M1 T => ?_)
    refine r_if_eq (tgt := 36) dX11_rider_24 (by decide) (fun h_2 => ?_) (fun h_2 => ?_)
    · have T := T.1 h_2
      refine r_bipush dX11_rider_36 (by decide) (by decide) ?_
      exact r_ireturn dX11_rider_38 rfl ⟨_, rfl, T⟩
    · have T := T.2 h_2
      refine r_aload_n dX11_rider_27 rfl ?_
      refine r_getI dX11_rider_28 fX11_306 rfl tX3_3 ?_
      refine r_bipush dX11_rider_31 (by decide) (by decide) ?_
      refine r_icmp_lt (tgt := 39) dX11_rider_33 (by decide) (fun h_1 => ?_) (fun h_1 => ?_)
      · have T := T.1 h_1
        refine r_aload_n dX11_rider_39 rfl ?_
        refine r_iload_n dX11_rider_40 rfl ?_
        refine r_callVI (md' := mX3_addRider) (as := [vI x1]) dX11_rider_41 lX11_309 iX3_addRider rfl rfl rfl (Nat.le_of_ble_eq_true rfl) T (fun r_2 M2 T => ?_)
        exact r_ireturn dX11_rider_44 rfl ⟨_, rfl, T⟩
      · have T := T.2 h_1
        refine r_bipush dX11_rider_36 (by decide) (by decide) ?_
        exact r_ireturn dX11_rider_38 rfl ⟨_, rfl, T⟩
  · have T := T.2 h_3
    refine r_aload_n dX11_rider_13 rfl ?_
    refine r_iconst dX11_rider_14 (by decide) ?_
    refine n_put dX11_rider_15 pX11_306 rfl tX3_3 (fun M3 hM3 => ?_)
    have T := T M3 hM3
    refine r_iconst dX11_rider_18 (by decide) ?_
    exact r_ireturn dX11_rider_19 rfl ⟨_, rfl, T⟩
theorem eX11_rider {G : Gx} {n : Nat} {M : Mem} {Q : Int → Mem → Prop}  {x1 : Int} (h : ∀ K : Kx, CW G K mX11_rider n 0 [some (vO 1), some (vI x1), none] [] M (qI Q)) : OkI G n mX11_rider [vO 1, vI x1] M Q := Ok_of (by decide) (Nat.le_of_ble_eq_true rfl) rfl h
-- DownOnly rides (I)I
set_option maxRecDepth 20000 in
set_option maxHeartbeats 1000000 in
theorem bX11_rides_0 {G : Gx} {K : Kx} {n : Nat} {M : Mem} {Q : Int → Mem → Prop}  {x1 : Int}  (T : (M 4 6 0 ≤ 0 → Q (-1) M) ∧ (¬ (M 4 6 0 ≤ 0) → (x1 < 0 → Q (-1) M) ∧ (¬ (x1 < 0) → (x1 ≤ 20 → (20 ≤ x1 → CW G K mX11_rides (n + 1) 49 [some (vO 1), some (vI x1), some (vO 6), none, none] [] M (qI Q)) ∧ (¬ (20 ≤ x1) → (x1 < M 6 3 0 → CW G K mX11_rides (n + 1) 49 [some (vO 1), some (vI x1), some (vO 6), none, none] [] M (qI Q)) ∧ (¬ (x1 < M 6 3 0) → Q (-1) M))) ∧ (¬ (x1 ≤ 20) → Q (-1) M)))) : CW G K mX11_rides (n + 1) 0 [some (vO 1), some (vI x1), none, none, none] [] M (qI Q) := by
  refine r_aload_n dX11_rides_0 rfl ?_
  refine r_getO (o' := 3) dX11_rides_1 fX11_32 rfl tX11_4 rfl ?_
  refine r_getO (o' := 6) dX11_rides_4 fX11_227 rfl tX8_2 rfl ?_
  refine r_astore_n dX11_rides_7 (by decide) rfl ?_
  refine r_aload_n dX11_rides_8 rfl ?_
  refine r_getO (o' := 3) dX11_rides_9 fX11_32 rfl tX11_4 rfl ?_
  refine r_getO (o' := 4) dX11_rides_12 fX11_107 rfl tX8_0 rfl ?_
  refine r_getI dX11_rides_15 fX11_312 rfl tX1_6 ?_
  refine r_if_le (tgt := 31) dX11_rides_18 (by decide) (fun h_5 => ?_) (fun h_5 => ?_)
  · have T := T.1 h_5
    refine r_iconst dX11_rides_31 (by decide) ?_
    exact r_ireturn dX11_rides_32 rfl ⟨_, rfl, T⟩
  · have T := T.2 h_5
    refine r_iload_n dX11_rides_21 rfl ?_
    refine r_if_lt (tgt := 31) dX11_rides_22 (by decide) (fun h_4 => ?_) (fun h_4 => ?_)
    · have T := T.1 h_4
      refine r_iconst dX11_rides_31 (by decide) ?_
      exact r_ireturn dX11_rides_32 rfl ⟨_, rfl, T⟩
    · have T := T.2 h_4
      refine r_iload_n dX11_rides_25 rfl ?_
      refine r_bipush dX11_rides_26 (by decide) (by decide) ?_
      refine r_icmp_le (tgt := 33) dX11_rides_28 (by decide) (fun h_3 => ?_) (fun h_3 => ?_)
      · have T := T.1 h_3
        refine r_iload_n dX11_rides_33 rfl ?_
        refine r_bipush dX11_rides_34 (by decide) (by decide) ?_
        refine r_icmp_ge (tgt := 49) dX11_rides_36 (by decide) (fun h_2 => ?_) (fun h_2 => ?_)
        · have T := T.1 h_2
          exact T
        · have T := T.2 h_2
          refine r_iload_n dX11_rides_39 rfl ?_
          refine r_aload_n dX11_rides_40 rfl ?_
          refine r_getI dX11_rides_41 fX11_306 rfl tX3_3 ?_
          refine r_icmp_lt (tgt := 49) dX11_rides_44 (by decide) (fun h_1 => ?_) (fun h_1 => ?_)
          · have T := T.1 h_1
            exact T
          · have T := T.2 h_1
            refine r_iconst dX11_rides_47 (by decide) ?_
            exact r_ireturn dX11_rides_48 rfl ⟨_, rfl, T⟩
      · have T := T.2 h_3
        refine r_iconst dX11_rides_31 (by decide) ?_
        exact r_ireturn dX11_rides_32 rfl ⟨_, rfl, T⟩
set_option maxRecDepth 20000 in
set_option maxHeartbeats 1000000 in
theorem bX11_rides_49 {G : Gx} {K : Kx} {n : Nat} {M : Mem} {Q : Int → Mem → Prop}  {x1 : Int}  (T : OkV G n mX11_seatRiders [vO 1] M (fun M1 => (20 ≤ x1 → CW G K mX11_rides (n + 1) 72 [some (vO 1), none, some (vO 6), some (vI (-2)), some (vI 0)] [] M1 (qI Q)) ∧ (¬ (20 ≤ x1) → (0 ≤ x1 ∧ x1 < 20) ∧ (Q (M1 1 15 x1.toNat) M1)))) : CW G K mX11_rides (n + 1) 49 [some (vO 1), some (vI x1), some (vO 6), none, none] [] M (qI Q) := by
  refine r_aload_n dX11_rides_49 rfl ?_
  refine r_callVV (md' := mX11_seatRiders) (as := []) dX11_rides_50 lX11_315 iX11_seatRiders rfl rfl rfl (Nat.le_of_ble_eq_true rfl) T (fun M1 T => ?_)
  refine r_iload_n dX11_rides_53 rfl ?_
  refine r_bipush dX11_rides_54 (by decide) (by decide) ?_
  refine r_icmp_ge (tgt := 66) dX11_rides_56 (by decide) (fun h_1 => ?_) (fun h_1 => ?_)
  · have T := T.1 h_1
    refine r_bipush dX11_rides_66 (by decide) (by decide) ?_
    refine r_istore_n dX11_rides_68 (by decide) rfl ?_
    refine r_iconst dX11_rides_69 (by decide) ?_
    refine r_istore dX11_rides_70 (by decide) rfl ?_
    exact CW_msk [true, false, true, true, true] rfl T
  · have T := T.2 h_1
    refine r_aload_n dX11_rides_59 rfl ?_
    refine r_getA dX11_rides_60 fX11_77 rfl uX11_15 ?_
    refine r_iload_n dX11_rides_63 rfl ?_
    refine s_iald dX11_rides_64 rfl tX11_15 aX11_15 T.1 ?_
    have T := T.2
    exact r_ireturn dX11_rides_65 rfl ⟨_, rfl, T⟩
set_option maxRecDepth 20000 in
set_option maxHeartbeats 1000000 in
theorem bX11_rides_72 {G : Gx} {K : Kx} {n : Nat} {M : Mem} {Q : Int → Mem → Prop}  {x3 : Int} {x4 : Int}  (T : (M 6 3 0 ≤ x4 → Q x3 M) ∧ (¬ (M 6 3 0 ≤ x4) → (20 ≤ x4 → Q x3 M) ∧ (¬ (20 ≤ x4) → (0 ≤ x4 ∧ x4 < 20) ∧ ((M 1 15 x4.toNat = (-2) → CW G K mX11_rides (n + 1) 72 [some (vO 1), none, some (vO 6), some (vI x3), some (vI (wr (x4 + 1)))] [] M (qI Q)) ∧ (¬ (M 1 15 x4.toNat = (-2)) → (0 ≤ x4 ∧ x4 < 20) ∧ ((0 ≤ x4 ∧ x4 < 20) ∧ (CW G K mX11_rides (n + 1) 72 [some (vO 1), none, some (vO 6), some (vI (if x3 < wr (M 1 15 x4.toNat - (M 6 13 x4.toNat)) then wr (M 1 15 x4.toNat - (M 6 13 x4.toNat)) else x3)), some (vI (wr (x4 + 1)))] [] M (qI Q)))))))) : CW G K mX11_rides (n + 1) 72 [some (vO 1), none, some (vO 6), some (vI x3), some (vI x4)] [] M (qI Q) := by
  refine r_iload dX11_rides_72 rfl ?_
  refine r_aload_n dX11_rides_74 rfl ?_
  refine r_getI dX11_rides_75 fX11_306 rfl tX3_3 ?_
  refine r_icmp_ge (tgt := 126) dX11_rides_78 (by decide) (fun h_3 => ?_) (fun h_3 => ?_)
  · have T := T.1 h_3
    refine r_iload_n dX11_rides_126 rfl ?_
    exact r_ireturn dX11_rides_127 rfl ⟨_, rfl, T⟩
  · have T := T.2 h_3
    refine r_iload dX11_rides_81 rfl ?_
    refine r_bipush dX11_rides_83 (by decide) (by decide) ?_
    refine r_icmp_ge (tgt := 126) dX11_rides_85 (by decide) (fun h_2 => ?_) (fun h_2 => ?_)
    · have T := T.1 h_2
      refine r_iload_n dX11_rides_126 rfl ?_
      exact r_ireturn dX11_rides_127 rfl ⟨_, rfl, T⟩
    · have T := T.2 h_2
      refine r_aload_n dX11_rides_88 rfl ?_
      refine r_getA dX11_rides_89 fX11_77 rfl uX11_15 ?_
      refine r_iload dX11_rides_92 rfl ?_
      refine s_iald dX11_rides_94 rfl tX11_15 aX11_15 T.1 ?_
      have T := T.2
      refine r_bipush dX11_rides_95 (by decide) (by decide) ?_
      refine r_icmp_eq (tgt := 120) dX11_rides_97 (by decide) (fun h_1 => ?_) (fun h_1 => ?_)
      · have T := T.1 h_1
        refine r_iinc dX11_rides_120 rfl (by decide) rfl ?_
        refine r_goto (tgt := 72) dX11_rides_123 (by decide) ?_
        exact T
      · have T := T.2 h_1
        refine r_iload_n dX11_rides_100 rfl ?_
        refine r_aload_n dX11_rides_101 rfl ?_
        refine r_getA dX11_rides_102 fX11_77 rfl uX11_15 ?_
        refine r_iload dX11_rides_105 rfl ?_
        refine s_iald dX11_rides_107 rfl tX11_15 aX11_15 T.1 ?_
        have T := T.2
        refine r_aload_n dX11_rides_108 rfl ?_
        refine r_getA dX11_rides_109 fX11_318 rfl uX3_13 ?_
        refine r_iload dX11_rides_112 rfl ?_
        refine s_iald dX11_rides_114 rfl tX3_13 aX3_13 T.1 ?_
        have T := T.2
        refine r_isub dX11_rides_115 ?_
        refine r_max dX11_rides_116 lX11_264 wmax2 wmath wmax4 (Nat.le_of_ble_eq_true rfl) ?_
        refine r_istore_n dX11_rides_119 (by decide) rfl ?_
        refine r_iinc dX11_rides_120 rfl (by decide) rfl ?_
        refine r_goto (tgt := 72) dX11_rides_123 (by decide) ?_
        exact T
theorem eX11_rides {G : Gx} {n : Nat} {M : Mem} {Q : Int → Mem → Prop}  {x1 : Int} (h : ∀ K : Kx, CW G K mX11_rides n 0 [some (vO 1), some (vI x1), none, none, none] [] M (qI Q)) : OkI G n mX11_rides [vO 1, vI x1] M Q := Ok_of (by decide) (Nat.le_of_ble_eq_true rfl) rfl h
-- DownOnly seatRiders ()V
set_option maxRecDepth 20000 in
set_option maxHeartbeats 1000000 in
theorem bX11_seatRiders_0 {G : Gx} {K : Kx} {n : Nat} {M : Mem} {Q : Mem → Prop}    (T : OkV G n mJ7_fill_53178 [vA 1 15, vI (-1)] M (fun M1 => CW G K mX11_seatRiders (n + 1) 23 [some (vO 1), some (vO 4), some (vI (-1)), some (vI 0), some (vI 0), none, none] [] M1 (qV Q))) : CW G K mX11_seatRiders (n + 1) 0 [some (vO 1), none, none, none, none, none, none] [] M (qV Q) := by
  refine r_aload_n dX11_seatRiders_0 rfl ?_
  refine r_getO (o' := 3) dX11_seatRiders_1 fX11_32 rfl tX11_4 rfl ?_
  refine r_getO (o' := 4) dX11_seatRiders_4 fX11_107 rfl tX8_0 rfl ?_
  refine r_astore_n dX11_seatRiders_7 (by decide) rfl ?_
  refine r_aload_n dX11_seatRiders_8 rfl ?_
  refine r_getA dX11_seatRiders_9 fX11_77 rfl uX11_15 ?_
  refine r_iconst dX11_seatRiders_12 (by decide) ?_
  refine r_callSV (md' := mJ7_fill_53178) (as := [vA 1 15, vI (-1)]) dX11_seatRiders_13 lX11_290 iJ7_fill_53178 rfl rfl (Nat.le_of_ble_eq_true rfl) T (fun M1 T => ?_)
  refine r_iconst dX11_seatRiders_16 (by decide) ?_
  refine r_istore_n dX11_seatRiders_17 (by decide) rfl ?_
  refine r_iconst dX11_seatRiders_18 (by decide) ?_
  refine r_istore_n dX11_seatRiders_19 (by decide) rfl ?_
  refine r_iconst dX11_seatRiders_20 (by decide) ?_
  refine r_istore dX11_seatRiders_21 (by decide) rfl ?_
  exact T
set_option maxRecDepth 20000 in
set_option maxHeartbeats 1000000 in
theorem bX11_seatRiders_23 {G : Gx} {K : Kx} {n : Nat} {M : Mem} {Q : Mem → Prop}  {x2 : Int} {x3 : Int} {x4 : Int}  (T : (M 6 3 0 ≤ x4 → Q M) ∧ (¬ (M 6 3 0 ≤ x4) → OkI G n mX3_firstWaiting [vO 6, vA 1 15] M (fun r_1 M1 => (¬ r_1 = (-1) → (0 ≤ r_1 ∧ r_1 < 20) ∧ (OkI G n mX1_hoistLeaves [vO 4, vI (if M1 6 13 r_1.toNat < x2 then x2 else M1 6 13 r_1.toNat)] M1 (fun r_2 M2 => (r_2 = (-1) → (¬ r_2 = (-1) → CW G K mX11_seatRiders (n + 1) 132 [some (vO 1), some (vO 4), some (vI x2), some (vI x3), some (vI x4), none, some (vI r_2)] [vI r_2, vI r_1, vA 1 15] M2 (qV Q)) ∧ (r_2 = (-1) → CW G K mX11_seatRiders (n + 1) 132 [some (vO 1), some (vO 4), some (vI x2), some (vI x3), some (vI x4), none, some (vI r_2)] [vI (-2), vI r_1, vA 1 15] M2 (qV Q))) ∧ (¬ (r_2 = (-1)) → (¬ r_2 = x2 → (¬ r_2 = (-1) → CW G K mX11_seatRiders (n + 1) 132 [some (vO 1), some (vO 4), some (vI x2), some (vI x3), some (vI x4), none, some (vI r_2)] [vI r_2, vI r_1, vA 1 15] M2 (qV Q)) ∧ (r_2 = (-1) → CW G K mX11_seatRiders (n + 1) 132 [some (vO 1), some (vO 4), some (vI x2), some (vI x3), some (vI x4), none, some (vI r_2)] [vI (-2), vI r_1, vA 1 15] M2 (qV Q))) ∧ (r_2 = x2 → (x3 < M2 4 5 0 → (¬ r_2 = (-1) → CW G K mX11_seatRiders (n + 1) 132 [some (vO 1), some (vO 4), some (vI x2), some (vI x3), some (vI x4), none, some (vI r_2)] [vI r_2, vI r_1, vA 1 15] M2 (qV Q)) ∧ (r_2 = (-1) → CW G K mX11_seatRiders (n + 1) 132 [some (vO 1), some (vO 4), some (vI x2), some (vI x3), some (vI x4), none, some (vI r_2)] [vI (-2), vI r_1, vA 1 15] M2 (qV Q))) ∧ (¬ (x3 < M2 4 5 0) → OkI G n mX1_hoistLeaves [vO 4, vI (wr (x2 + 1))] M2 (fun r_3 M3 => (¬ r_3 = (-1) → CW G K mX11_seatRiders (n + 1) 132 [some (vO 1), some (vO 4), some (vI x2), some (vI x3), some (vI x4), none, some (vI r_3)] [vI r_3, vI r_1, vA 1 15] M3 (qV Q)) ∧ (r_3 = (-1) → CW G K mX11_seatRiders (n + 1) 132 [some (vO 1), some (vO 4), some (vI x2), some (vI x3), some (vI x4), none, some (vI r_3)] [vI (-2), vI r_1, vA 1 15] M3 (qV Q))))))))) ∧ (r_1 = (-1) → Q M1)))) : CW G K mX11_seatRiders (n + 1) 23 [some (vO 1), some (vO 4), some (vI x2), some (vI x3), some (vI x4), none, none] [] M (qV Q) := by
  refine r_iload dX11_seatRiders_23 rfl ?_
  refine r_aload_n dX11_seatRiders_25 rfl ?_
  refine r_getO (o' := 3) dX11_seatRiders_26 fX11_32 rfl tX11_4 rfl ?_
  refine r_getO (o' := 6) dX11_seatRiders_29 fX11_227 rfl tX8_2 rfl ?_
  refine r_getI dX11_seatRiders_32 fX11_306 rfl tX3_3 ?_
  refine r_icmp_ge (tgt := 162) dX11_seatRiders_35 (by decide) (fun h_9 => ?_) (fun h_9 => ?_)
  · have T := T.1 h_9
    exact r_return dX11_seatRiders_162 rfl ⟨rfl, T⟩
  · have T := T.2 h_9
    refine r_aload_n dX11_seatRiders_38 rfl ?_
    refine r_getO (o' := 3) dX11_seatRiders_39 fX11_32 rfl tX11_4 rfl ?_
    refine r_getO (o' := 6) dX11_seatRiders_42 fX11_227 rfl tX8_2 rfl ?_
    refine r_aload_n dX11_seatRiders_45 rfl ?_
    refine r_getA dX11_seatRiders_46 fX11_77 rfl uX11_15 ?_
    refine r_callVI (md' := mX3_firstWaiting) (as := [vA 1 15]) dX11_seatRiders_49 lX11_321 iX3_firstWaiting rfl rfl rfl (Nat.le_of_ble_eq_true rfl) T (fun r_1 M1 T => ?_)
    refine r_istore dX11_seatRiders_52 (by decide) rfl ?_
    refine r_iload dX11_seatRiders_54 rfl ?_
    refine r_iconst dX11_seatRiders_56 (by decide) ?_
    refine r_icmp_ne (tgt := 61) dX11_seatRiders_57 (by decide) (fun h_8 => ?_) (fun h_8 => ?_)
    · have T := T.1 h_8
      refine r_aload_n dX11_seatRiders_61 rfl ?_
      refine r_aload_n dX11_seatRiders_62 rfl ?_
      refine r_getO (o' := 3) dX11_seatRiders_63 fX11_32 rfl tX11_4 rfl ?_
      refine r_getO (o' := 6) dX11_seatRiders_66 fX11_227 rfl tX8_2 rfl ?_
      refine r_getA dX11_seatRiders_69 fX11_318 rfl uX3_13 ?_
      refine r_iload dX11_seatRiders_72 rfl ?_
      refine s_iald dX11_seatRiders_74 rfl tX3_13 aX3_13 T.1 ?_
      have T := T.2
      refine r_iload_n dX11_seatRiders_75 rfl ?_
      refine r_max dX11_seatRiders_76 lX11_264 wmax2 wmath wmax4 (Nat.le_of_ble_eq_true rfl) ?_
      refine r_callVI (md' := mX1_hoistLeaves) (as := [vI (if M1 6 13 r_1.toNat < x2 then x2 else M1 6 13 r_1.toNat)]) dX11_seatRiders_79 lX11_325 iX1_hoistLeaves rfl rfl rfl (Nat.le_of_ble_eq_true rfl) T (fun r_2 M2 T => ?_)
      refine r_istore dX11_seatRiders_82 (by decide) rfl ?_
      refine r_iload dX11_seatRiders_84 rfl ?_
      refine r_iconst dX11_seatRiders_86 (by decide) ?_
      refine r_icmp_eq (tgt := 113) dX11_seatRiders_87 (by decide) (fun h_7 => ?_) (fun h_7 => ?_)
      · have T := T.1 h_7
        refine r_aload_n dX11_seatRiders_113 rfl ?_
        refine r_getA dX11_seatRiders_114 fX11_77 rfl uX11_15 ?_
        refine r_iload dX11_seatRiders_117 rfl ?_
        refine r_iload dX11_seatRiders_119 rfl ?_
        refine r_iconst dX11_seatRiders_121 (by decide) ?_
        refine r_icmp_ne (tgt := 130) dX11_seatRiders_122 (by decide) (fun h_1 => ?_) (fun h_1 => ?_)
        · have T := T.1 h_1
          refine r_iload dX11_seatRiders_130 rfl ?_
          exact CW_msk [true, true, true, true, true, false, true] rfl T
        · have T := T.2 h_1
          refine r_bipush dX11_seatRiders_125 (by decide) (by decide) ?_
          refine r_goto (tgt := 132) dX11_seatRiders_127 (by decide) ?_
          exact CW_msk [true, true, true, true, true, false, true] rfl T
      · have T := T.2 h_7
        refine r_iload dX11_seatRiders_90 rfl ?_
        refine r_iload_n dX11_seatRiders_92 rfl ?_
        refine r_icmp_ne (tgt := 113) dX11_seatRiders_93 (by decide) (fun h_6 => ?_) (fun h_6 => ?_)
        · have T := T.1 h_6
          refine r_aload_n dX11_seatRiders_113 rfl ?_
          refine r_getA dX11_seatRiders_114 fX11_77 rfl uX11_15 ?_
          refine r_iload dX11_seatRiders_117 rfl ?_
          refine r_iload dX11_seatRiders_119 rfl ?_
          refine r_iconst dX11_seatRiders_121 (by decide) ?_
          refine r_icmp_ne (tgt := 130) dX11_seatRiders_122 (by decide) (fun h_2 => ?_) (fun h_2 => ?_)
          · have T := T.1 h_2
            refine r_iload dX11_seatRiders_130 rfl ?_
            exact CW_msk [true, true, true, true, true, false, true] rfl T
          · have T := T.2 h_2
            refine r_bipush dX11_seatRiders_125 (by decide) (by decide) ?_
            refine r_goto (tgt := 132) dX11_seatRiders_127 (by decide) ?_
            exact CW_msk [true, true, true, true, true, false, true] rfl T
        · have T := T.2 h_6
          refine r_iload_n dX11_seatRiders_96 rfl ?_
          refine r_aload_n dX11_seatRiders_97 rfl ?_
          refine r_getI dX11_seatRiders_98 fX11_328 rfl tX1_5 ?_
          refine r_icmp_lt (tgt := 113) dX11_seatRiders_101 (by decide) (fun h_5 => ?_) (fun h_5 => ?_)
          · have T := T.1 h_5
            refine r_aload_n dX11_seatRiders_113 rfl ?_
            refine r_getA dX11_seatRiders_114 fX11_77 rfl uX11_15 ?_
            refine r_iload dX11_seatRiders_117 rfl ?_
            refine r_iload dX11_seatRiders_119 rfl ?_
            refine r_iconst dX11_seatRiders_121 (by decide) ?_
            refine r_icmp_ne (tgt := 130) dX11_seatRiders_122 (by decide) (fun h_3 => ?_) (fun h_3 => ?_)
            · have T := T.1 h_3
              refine r_iload dX11_seatRiders_130 rfl ?_
              exact CW_msk [true, true, true, true, true, false, true] rfl T
            · have T := T.2 h_3
              refine r_bipush dX11_seatRiders_125 (by decide) (by decide) ?_
              refine r_goto (tgt := 132) dX11_seatRiders_127 (by decide) ?_
              exact CW_msk [true, true, true, true, true, false, true] rfl T
          · have T := T.2 h_5
            refine r_aload_n dX11_seatRiders_104 rfl ?_
            refine r_iload_n dX11_seatRiders_105 rfl ?_
            refine r_iconst dX11_seatRiders_106 (by decide) ?_
            refine r_iadd dX11_seatRiders_107 ?_
            refine r_callVI (md' := mX1_hoistLeaves) (as := [vI (wr (x2 + 1))]) dX11_seatRiders_108 lX11_325 iX1_hoistLeaves rfl rfl rfl (Nat.le_of_ble_eq_true rfl) T (fun r_3 M3 T => ?_)
            refine r_istore dX11_seatRiders_111 (by decide) rfl ?_
            refine r_aload_n dX11_seatRiders_113 rfl ?_
            refine r_getA dX11_seatRiders_114 fX11_77 rfl uX11_15 ?_
            refine r_iload dX11_seatRiders_117 rfl ?_
            refine r_iload dX11_seatRiders_119 rfl ?_
            refine r_iconst dX11_seatRiders_121 (by decide) ?_
            refine r_icmp_ne (tgt := 130) dX11_seatRiders_122 (by decide) (fun h_4 => ?_) (fun h_4 => ?_)
            · have T := T.1 h_4
              refine r_iload dX11_seatRiders_130 rfl ?_
              exact CW_msk [true, true, true, true, true, false, true] rfl T
            · have T := T.2 h_4
              refine r_bipush dX11_seatRiders_125 (by decide) (by decide) ?_
              refine r_goto (tgt := 132) dX11_seatRiders_127 (by decide) ?_
              exact CW_msk [true, true, true, true, true, false, true] rfl T
    · have T := T.2 h_8
      exact r_return dX11_seatRiders_60 rfl ⟨rfl, T⟩
set_option maxRecDepth 20000 in
set_option maxHeartbeats 1000000 in
theorem bX11_seatRiders_132 {G : Gx} {K : Kx} {n : Nat} {M : Mem} {Q : Mem → Prop}  {x2 : Int} {x3 : Int} {x4 : Int} {x6 : Int} {z0 : Int} {z1 : Int}  (T : (0 ≤ z1 ∧ z1 < 20) ∧ (∀ M1 : Mem, M1 = mset M 1 15 z1.toNat z0 → (x6 = (-1) → CW G K mX11_seatRiders (n + 1) 23 [some (vO 1), some (vO 4), some (vI x2), some (vI x3), some (vI (wr (x4 + 1))), none, none] [] M1 (qV Q)) ∧ (¬ (x6 = (-1)) → (¬ x6 = x2 → CW G K mX11_seatRiders (n + 1) 23 [some (vO 1), some (vO 4), some (vI x6), some (vI 1), some (vI (wr (x4 + 1))), none, none] [] M1 (qV Q)) ∧ (x6 = x2 → CW G K mX11_seatRiders (n + 1) 23 [some (vO 1), some (vO 4), some (vI x6), some (vI (wr (x3 + 1))), some (vI (wr (x4 + 1))), none, none] [] M1 (qV Q))))) : CW G K mX11_seatRiders (n + 1) 132 [some (vO 1), some (vO 4), some (vI x2), some (vI x3), some (vI x4), none, some (vI x6)] [vI z0, vI z1, vA 1 15] M (qV Q) := by
  refine n_iast dX11_seatRiders_132 rfl tX11_15 aX11_15 T.1 (fun M1 hM1 => ?_)
  have T := T.2 M1 hM1
  refine r_iload dX11_seatRiders_133 rfl ?_
  refine r_iconst dX11_seatRiders_135 (by decide) ?_
  refine r_icmp_eq (tgt := 156) dX11_seatRiders_136 (by decide) (fun h_2 => ?_) (fun h_2 => ?_)
  · have T := T.1 h_2
    refine r_iinc dX11_seatRiders_156 rfl (by decide) rfl ?_
    refine r_goto (tgt := 23) dX11_seatRiders_159 (by decide) ?_
    exact CW_msk [true, true, true, true, true, false, false] rfl T
  · have T := T.2 h_2
    refine r_iload dX11_seatRiders_139 rfl ?_
    refine r_iload_n dX11_seatRiders_141 rfl ?_
    refine r_icmp_ne (tgt := 151) dX11_seatRiders_142 (by decide) (fun h_1 => ?_) (fun h_1 => ?_)
    · have T := T.1 h_1
      refine r_iconst dX11_seatRiders_151 (by decide) ?_
      refine r_istore_n dX11_seatRiders_152 (by decide) rfl ?_
      refine r_iload dX11_seatRiders_153 rfl ?_
      refine r_istore_n dX11_seatRiders_155 (by decide) rfl ?_
      refine r_iinc dX11_seatRiders_156 rfl (by decide) rfl ?_
      refine r_goto (tgt := 23) dX11_seatRiders_159 (by decide) ?_
      exact CW_msk [true, true, true, true, true, false, false] rfl T
    · have T := T.2 h_1
      refine r_iload_n dX11_seatRiders_145 rfl ?_
      refine r_iconst dX11_seatRiders_146 (by decide) ?_
      refine r_iadd dX11_seatRiders_147 ?_
      refine r_goto (tgt := 152) dX11_seatRiders_148 (by decide) ?_
      refine r_istore_n dX11_seatRiders_152 (by decide) rfl ?_
      refine r_iload dX11_seatRiders_153 rfl ?_
      refine r_istore_n dX11_seatRiders_155 (by decide) rfl ?_
      refine r_iinc dX11_seatRiders_156 rfl (by decide) rfl ?_
      refine r_goto (tgt := 23) dX11_seatRiders_159 (by decide) ?_
      exact CW_msk [true, true, true, true, true, false, false] rfl T
theorem eX11_seatRiders {G : Gx} {n : Nat} {M : Mem} {Q : Mem → Prop}   (h : ∀ K : Kx, CW G K mX11_seatRiders n 0 [some (vO 1), none, none, none, none, none, none] [] M (qV Q)) : OkV G n mX11_seatRiders [vO 1] M Q := Ok_of (by decide) (Nat.le_of_ble_eq_true rfl) rfl h
-- DownOnly customer (II)I
set_option maxRecDepth 20000 in
set_option maxHeartbeats 1000000 in
theorem bX11_customer_0 {G : Gx} {K : Kx} {n : Nat} {M : Mem} {Q : Int → Mem → Prop}  {x1 : Int} {x2 : Int}  (T : (¬ x1 = (-1) → (x1 < 0 → Q (-2) M) ∧ (¬ (x1 < 0) → (6 ≤ x1 → Q (-2) M) ∧ (¬ (6 ≤ x1) → (x2 < 0 → Q (-2) M) ∧ (¬ (x2 < 0) → (6 ≤ x2 → Q (-2) M) ∧ (¬ (6 ≤ x2) → (¬ x1 = x2 → (M 6 4 0 < 10 → OkI G n mX3_addCustomer [vO 6, vI x1, vI x2] M (fun r_1 M1 => Q r_1 M1)) ∧ (¬ (M 6 4 0 < 10) → Q (-2) M)) ∧ (x1 = x2 → Q (-2) M)))))) ∧ (x1 = (-1) → ∀ M2 : Mem, M2 = mset M 6 4 0 0 → Q 0 M2)) : CW G K mX11_customer (n + 1) 0 [some (vO 1), some (vI x1), some (vI x2), none] [] M (qI Q) := by
  refine r_aload_n dX11_customer_0 rfl ?_
  refine r_getO (o' := 3) dX11_customer_1 fX11_32 rfl tX11_4 rfl ?_
  refine r_getO (o' := 6) dX11_customer_4 fX11_227 rfl tX8_2 rfl ?_
  refine r_astore_n dX11_customer_7 (by decide) rfl ?_
  refine r_iload_n dX11_customer_8 rfl ?_
  refine r_iconst dX11_customer_9 (by decide) ?_
  refine r_icmp_ne (tgt := 20) dX11_customer_10 (by decide) (fun h_7 => ?_) (fun h_7 => ?_)
  · have T := T.1 h_7
    refine r_iload_n dX11_customer_20 rfl ?_
    refine r_if_lt (tgt := 45) dX11_customer_21 (by decide) (fun h_6 => ?_) (fun h_6 => ?_)
    · have T := T.1 h_6
      refine r_bipush dX11_customer_45 (by decide) (by decide) ?_
      exact r_ireturn dX11_customer_47 rfl ⟨_, rfl, T⟩
    · have T := T.2 h_6
      refine r_iload_n dX11_customer_24 rfl ?_
      refine r_bipush dX11_customer_25 (by decide) (by decide) ?_
      refine r_icmp_ge (tgt := 45) dX11_customer_27 (by decide) (fun h_5 => ?_) (fun h_5 => ?_)
      · have T := T.1 h_5
        refine r_bipush dX11_customer_45 (by decide) (by decide) ?_
        exact r_ireturn dX11_customer_47 rfl ⟨_, rfl, T⟩
      · have T := T.2 h_5
        refine r_iload_n dX11_customer_30 rfl ?_
        refine r_if_lt (tgt := 45) dX11_customer_31 (by decide) (fun h_4 => ?_) (fun h_4 => ?_)
        · have T := T.1 h_4
          refine r_bipush dX11_customer_45 (by decide) (by decide) ?_
          exact r_ireturn dX11_customer_47 rfl ⟨_, rfl, T⟩
        · have T := T.2 h_4
          refine r_iload_n dX11_customer_34 rfl ?_
          refine r_bipush dX11_customer_35 (by decide) (by decide) ?_
          refine r_icmp_ge (tgt := 45) dX11_customer_37 (by decide) (fun h_3 => ?_) (fun h_3 => ?_)
          · have T := T.1 h_3
            refine r_bipush dX11_customer_45 (by decide) (by decide) ?_
            exact r_ireturn dX11_customer_47 rfl ⟨_, rfl, T⟩
          · have T := T.2 h_3
            refine r_iload_n dX11_customer_40 rfl ?_
            refine r_iload_n dX11_customer_41 rfl ?_
            refine r_icmp_ne (tgt := 48) dX11_customer_42 (by decide) (fun h_2 => ?_) (fun h_2 => ?_)
            · have T := T.1 h_2
              refine r_aload_n dX11_customer_48 rfl ?_
              refine r_getI dX11_customer_49 fX11_331 rfl tX3_4 ?_
              refine r_bipush dX11_customer_52 (by decide) (by decide) ?_
              refine r_icmp_lt (tgt := 62) dX11_customer_54 (by decide) (fun h_1 => ?_) (fun h_1 => ?_)
              · have T := T.1 h_1
                refine r_aload_n dX11_customer_62 rfl ?_
                refine r_iload_n dX11_customer_63 rfl ?_
                refine r_iload_n dX11_customer_64 rfl ?_
                refine r_callVI (md' := mX3_addCustomer) (as := [vI x1, vI x2]) dX11_customer_65 lX11_334 iX3_addCustomer rfl rfl rfl (Nat.le_of_ble_eq_true rfl) T (fun r_1 M1 T => ?_)
                exact r_ireturn dX11_customer_68 rfl ⟨_, rfl, T⟩
              · have T := T.2 h_1
                refine r_bipush dX11_customer_57 (by decide) (by decide) ?_
                refine r_goto (tgt := 68) dX11_customer_59 (by decide) ?_
                exact r_ireturn dX11_customer_68 rfl ⟨_, rfl, T⟩
            · have T := T.2 h_2
              refine r_bipush dX11_customer_45 (by decide) (by decide) ?_
              exact r_ireturn dX11_customer_47 rfl ⟨_, rfl, T⟩
  · have T := T.2 h_7
    refine r_aload_n dX11_customer_13 rfl ?_
    refine r_iconst dX11_customer_14 (by decide) ?_
    refine n_put dX11_customer_15 pX11_331 rfl tX3_4 (fun M2 hM2 => ?_)
    have T := T M2 hM2
    refine r_iconst dX11_customer_18 (by decide) ?_
    exact r_ireturn dX11_customer_19 rfl ⟨_, rfl, T⟩
theorem eX11_customer {G : Gx} {n : Nat} {M : Mem} {Q : Int → Mem → Prop}  {x1 : Int} {x2 : Int} (h : ∀ K : Kx, CW G K mX11_customer n 0 [some (vO 1), some (vI x1), some (vI x2), none] [] M (qI Q)) : OkI G n mX11_customer [vO 1, vI x1, vI x2] M Q := Ok_of (by decide) (Nat.le_of_ble_eq_true rfl) rfl h
-- DownOnly order (II)I
set_option maxRecDepth 20000 in
set_option maxHeartbeats 1000000 in
theorem bX11_order_0 {G : Gx} {K : Kx} {n : Nat} {M : Mem} {Q : Int → Mem → Prop}  {x1 : Int} {x2 : Int}  (T : (x1 < 1 → Q (-1) M) ∧ (¬ (x1 < 1) → (6 < x1 → Q (-1) M) ∧ (¬ (6 < x1) → (x2 < 0 → Q (-1) M) ∧ (¬ (x2 < 0) → (x2 ≤ 6 → (6 ≤ x2 → CW G K mX11_order (n + 1) 36 [some (vO 1), some (vI x1), some (vI x2), none, none, none] [] M (qI Q)) ∧ (¬ (6 ≤ x2) → (x2 < x1 → CW G K mX11_order (n + 1) 36 [some (vO 1), some (vI x1), some (vI x2), none, none, none] [] M (qI Q)) ∧ (¬ (x2 < x1) → Q (-1) M))) ∧ (¬ (x2 ≤ 6) → Q (-1) M))))) : CW G K mX11_order (n + 1) 0 [some (vO 1), some (vI x1), some (vI x2), none, none, none] [] M (qI Q) := by
  refine r_iload_n dX11_order_0 rfl ?_
  refine r_iconst dX11_order_1 (by decide) ?_
  refine r_icmp_lt (tgt := 21) dX11_order_2 (by decide) (fun h_6 => ?_) (fun h_6 => ?_)
  · have T := T.1 h_6
    refine r_iconst dX11_order_21 (by decide) ?_
    exact r_ireturn dX11_order_22 rfl ⟨_, rfl, T⟩
  · have T := T.2 h_6
    refine r_iload_n dX11_order_5 rfl ?_
    refine r_bipush dX11_order_6 (by decide) (by decide) ?_
    refine r_icmp_gt (tgt := 21) dX11_order_8 (by decide) (fun h_5 => ?_) (fun h_5 => ?_)
    · have T := T.1 h_5
      refine r_iconst dX11_order_21 (by decide) ?_
      exact r_ireturn dX11_order_22 rfl ⟨_, rfl, T⟩
    · have T := T.2 h_5
      refine r_iload_n dX11_order_11 rfl ?_
      refine r_if_lt (tgt := 21) dX11_order_12 (by decide) (fun h_4 => ?_) (fun h_4 => ?_)
      · have T := T.1 h_4
        refine r_iconst dX11_order_21 (by decide) ?_
        exact r_ireturn dX11_order_22 rfl ⟨_, rfl, T⟩
      · have T := T.2 h_4
        refine r_iload_n dX11_order_15 rfl ?_
        refine r_bipush dX11_order_16 (by decide) (by decide) ?_
        refine r_icmp_le (tgt := 23) dX11_order_18 (by decide) (fun h_3 => ?_) (fun h_3 => ?_)
        · have T := T.1 h_3
          refine r_iload_n dX11_order_23 rfl ?_
          refine r_bipush dX11_order_24 (by decide) (by decide) ?_
          refine r_icmp_ge (tgt := 36) dX11_order_26 (by decide) (fun h_2 => ?_) (fun h_2 => ?_)
          · have T := T.1 h_2
            exact T
          · have T := T.2 h_2
            refine r_iload_n dX11_order_29 rfl ?_
            refine r_iload_n dX11_order_30 rfl ?_
            refine r_icmp_lt (tgt := 36) dX11_order_31 (by decide) (fun h_1 => ?_) (fun h_1 => ?_)
            · have T := T.1 h_1
              exact T
            · have T := T.2 h_1
              refine r_iconst dX11_order_34 (by decide) ?_
              exact r_ireturn dX11_order_35 rfl ⟨_, rfl, T⟩
        · have T := T.2 h_3
          refine r_iconst dX11_order_21 (by decide) ?_
          exact r_ireturn dX11_order_22 rfl ⟨_, rfl, T⟩
set_option maxRecDepth 20000 in
set_option maxHeartbeats 1000000 in
theorem bX11_order_36 {G : Gx} {K : Kx} {n : Nat} {M : Mem} {Q : Int → Mem → Prop}  {x1 : Int} {x2 : Int}  (T : OkV G n mX11_weighOrders [vO 1, vI x1] M (fun M1 => (¬ x2 = 6 → CW G K mX11_order (n + 1) 62 [some (vO 1), some (vI x1), some (vI x2), some (vI 0), some (vI (-1)), some (vI 0)] [] M1 (qI Q)) ∧ (x2 = 6 → Q (M1 1 16 0) M1))) : CW G K mX11_order (n + 1) 36 [some (vO 1), some (vI x1), some (vI x2), none, none, none] [] M (qI Q) := by
  refine r_aload_n dX11_order_36 rfl ?_
  refine r_iload_n dX11_order_37 rfl ?_
  refine r_callVV (md' := mX11_weighOrders) (as := [vI x1]) dX11_order_38 lX11_337 iX11_weighOrders rfl rfl rfl (Nat.le_of_ble_eq_true rfl) T (fun M1 T => ?_)
  refine r_iload_n dX11_order_41 rfl ?_
  refine r_bipush dX11_order_42 (by decide) (by decide) ?_
  refine r_icmp_ne (tgt := 54) dX11_order_44 (by decide) (fun h_1 => ?_) (fun h_1 => ?_)
  · have T := T.1 h_1
    refine r_iconst dX11_order_54 (by decide) ?_
    refine r_istore_n dX11_order_55 (by decide) rfl ?_
    refine r_iconst dX11_order_56 (by decide) ?_
    refine r_istore dX11_order_57 (by decide) rfl ?_
    refine r_iconst dX11_order_59 (by decide) ?_
    refine r_istore dX11_order_60 (by decide) rfl ?_
    exact T
  · have T := T.2 h_1
    refine r_aload_n dX11_order_47 rfl ?_
    refine r_getA dX11_order_48 fX11_80 rfl uX11_16 ?_
    refine r_iconst dX11_order_51 (by decide) ?_
    refine s_iald dX11_order_52 rfl tX11_16 aX11_16 (by decide) ?_
    exact r_ireturn dX11_order_53 rfl ⟨_, rfl, T⟩
set_option maxRecDepth 20000 in
set_option maxHeartbeats 1000000 in
theorem bX11_order_62 {G : Gx} {K : Kx} {n : Nat} {M : Mem} {Q : Int → Mem → Prop}  {x1 : Int} {x2 : Int} {x3 : Int} {x4 : Int} {x5 : Int}  (T : (x2 < x5 → Q x4 M) ∧ (¬ (x2 < x5) → OkI G n mX11_nextShop [vO 1, vI x1, vI x3] M (fun r_1 M1 => (¬ r_1 = (-1) → CW G K mX11_order (n + 1) 62 [some (vO 1), some (vI x1), some (vI x2), some (vI (bOr x3 (bShl 1 r_1))), some (vI r_1), some (vI (wr (x5 + 1)))] [] M1 (qI Q)) ∧ (r_1 = (-1) → Q (-1) M1)))) : CW G K mX11_order (n + 1) 62 [some (vO 1), some (vI x1), some (vI x2), some (vI x3), some (vI x4), some (vI x5)] [] M (qI Q) := by
  refine r_iload dX11_order_62 rfl ?_
  refine r_iload_n dX11_order_64 rfl ?_
  refine r_icmp_gt (tgt := 97) dX11_order_65 (by decide) (fun h_2 => ?_) (fun h_2 => ?_)
  · have T := T.1 h_2
    refine r_iload dX11_order_97 rfl ?_
    exact r_ireturn dX11_order_99 rfl ⟨_, rfl, T⟩
  · have T := T.2 h_2
    refine r_aload_n dX11_order_68 rfl ?_
    refine r_iload_n dX11_order_69 rfl ?_
    refine r_iload_n dX11_order_70 rfl ?_
    refine r_callVI (md' := mX11_nextShop) (as := [vI x1, vI x3]) dX11_order_71 lX11_340 iX11_nextShop rfl rfl rfl (Nat.le_of_ble_eq_true rfl) T (fun r_1 M1 T => ?_)
    refine r_istore dX11_order_74 (by decide) rfl ?_
    refine r_iload dX11_order_76 rfl ?_
    refine r_iconst dX11_order_78 (by decide) ?_
    refine r_icmp_ne (tgt := 84) dX11_order_79 (by decide) (fun h_1 => ?_) (fun h_1 => ?_)
    · have T := T.1 h_1
      refine r_iload_n dX11_order_84 rfl ?_
      refine r_iconst dX11_order_85 (by decide) ?_
      refine r_iload dX11_order_86 rfl ?_
      refine r_ishl dX11_order_88 ?_
      refine r_ior dX11_order_89 ?_
      refine r_istore_n dX11_order_90 (by decide) rfl ?_
      refine r_iinc dX11_order_91 rfl (by decide) rfl ?_
      refine r_goto (tgt := 62) dX11_order_94 (by decide) ?_
      exact T
    · have T := T.2 h_1
      refine r_iconst dX11_order_82 (by decide) ?_
      exact r_ireturn dX11_order_83 rfl ⟨_, rfl, T⟩
theorem eX11_order {G : Gx} {n : Nat} {M : Mem} {Q : Int → Mem → Prop}  {x1 : Int} {x2 : Int} (h : ∀ K : Kx, CW G K mX11_order n 0 [some (vO 1), some (vI x1), some (vI x2), none, none, none] [] M (qI Q)) : OkI G n mX11_order [vO 1, vI x1, vI x2] M Q := Ok_of (by decide) (Nat.le_of_ble_eq_true rfl) rfl h
