-- DownOnly weighOrders (I)V
set_option maxRecDepth 20000 in
set_option maxHeartbeats 1000000 in
theorem bX11_weighOrders_0 {G : Gx} {K : Kx} {n : Nat} {M : Mem} {Q : Mem → Prop}  {x1 : Int}  (T : CW G K mX11_weighOrders (n + 1) 18 [some (vO 1), some (vI x1), some (vI (wr (bShl 1 x1 - 1))), some (vI (if wr (64 - 1) < wr (bShl 1 x1 - 1) then wr (64 - 1) else wr (bShl 1 x1 - 1))), none] [] M (qV Q)) : CW G K mX11_weighOrders (n + 1) 0 [some (vO 1), some (vI x1), none, none, none] [] M (qV Q) := by
  refine r_iconst dX11_weighOrders_0 (by decide) ?_
  refine r_iload_n dX11_weighOrders_1 rfl ?_
  refine r_ishl dX11_weighOrders_2 ?_
  refine r_iconst dX11_weighOrders_3 (by decide) ?_
  refine r_isub dX11_weighOrders_4 ?_
  refine r_istore_n dX11_weighOrders_5 (by decide) rfl ?_
  refine r_iload_n dX11_weighOrders_6 rfl ?_
  refine r_aload_n dX11_weighOrders_7 rfl ?_
  refine r_getA dX11_weighOrders_8 fX11_80 rfl uX11_16 ?_
  refine s_alen dX11_weighOrders_11 rfl uX11_16 aX11_16 (by decide) ?_
  refine r_iconst dX11_weighOrders_12 (by decide) ?_
  refine r_isub dX11_weighOrders_13 ?_
  refine r_min dX11_weighOrders_14 lX11_343 wmin2 wmath wmin4 (Nat.le_of_ble_eq_true rfl) ?_
  refine r_istore_n dX11_weighOrders_17 (by decide) rfl ?_
  exact T
set_option maxRecDepth 20000 in
set_option maxHeartbeats 1000000 in
theorem bX11_weighOrders_18 {G : Gx} {K : Kx} {n : Nat} {M : Mem} {Q : Mem → Prop}  {x1 : Int} {x2 : Int} {x3 : Int}  (T : (x3 < 0 → Q M) ∧ (¬ (x3 < 0) → (0 ≤ x3 ∧ x3 < 64) ∧ (∀ M1 : Mem, M1 = mset M 1 16 x3.toNat 0 → CW G K mX11_weighOrders (n + 1) 32 [some (vO 1), some (vI x1), some (vI x2), some (vI x3), some (vI 0)] [] M1 (qV Q)))) : CW G K mX11_weighOrders (n + 1) 18 [some (vO 1), some (vI x1), some (vI x2), some (vI x3), none] [] M (qV Q) := by
  refine r_iload_n dX11_weighOrders_18 rfl ?_
  refine r_if_lt (tgt := 82) dX11_weighOrders_19 (by decide) (fun h_1 => ?_) (fun h_1 => ?_)
  · have T := T.1 h_1
    exact r_return dX11_weighOrders_82 rfl ⟨rfl, T⟩
  · have T := T.2 h_1
    refine r_aload_n dX11_weighOrders_22 rfl ?_
    refine r_getA dX11_weighOrders_23 fX11_80 rfl uX11_16 ?_
    refine r_iload_n dX11_weighOrders_26 rfl ?_
    refine r_iconst dX11_weighOrders_27 (by decide) ?_
    refine n_iast dX11_weighOrders_28 rfl tX11_16 aX11_16 T.1 (fun M1 hM1 => ?_)
    have T := T.2 M1 hM1
    refine r_iconst dX11_weighOrders_29 (by decide) ?_
    refine r_istore dX11_weighOrders_30 (by decide) rfl ?_
    exact T
set_option maxRecDepth 20000 in
set_option maxHeartbeats 1000000 in
theorem bX11_weighOrders_32 {G : Gx} {K : Kx} {n : Nat} {M : Mem} {Q : Mem → Prop}  {x1 : Int} {x2 : Int} {x3 : Int} {x4 : Int}  (T : (x1 ≤ x4 → CW G K mX11_weighOrders (n + 1) 18 [some (vO 1), some (vI x1), some (vI x2), some (vI (wr (x3 + (-1)))), none] [] M (qV Q)) ∧ (¬ (x1 ≤ x4) → (¬ bAnd (bShr x3 x4) 1 = 0 → CW G K mX11_weighOrders (n + 1) 32 [some (vO 1), some (vI x1), some (vI x2), some (vI x3), some (vI (wr (x4 + 1)))] [] M (qV Q)) ∧ (bAnd (bShr x3 x4) 1 = 0 → (0 ≤ x3 ∧ x3 < 64) ∧ (OkI G n mX11_goDownWith [vO 1, vI x2, vI x3, vI x4] M (fun r_1 M1 => (0 ≤ x3 ∧ x3 < 64) ∧ (∀ M2 : Mem, M2 = mset M1 1 16 x3.toNat (if M 1 16 x3.toNat < r_1 then r_1 else M 1 16 x3.toNat) → CW G K mX11_weighOrders (n + 1) 32 [some (vO 1), some (vI x1), some (vI x2), some (vI x3), some (vI (wr (x4 + 1)))] [] M2 (qV Q))))))) : CW G K mX11_weighOrders (n + 1) 32 [some (vO 1), some (vI x1), some (vI x2), some (vI x3), some (vI x4)] [] M (qV Q) := by
  refine r_iload dX11_weighOrders_32 rfl ?_
  refine r_iload_n dX11_weighOrders_34 rfl ?_
  refine r_icmp_ge (tgt := 76) dX11_weighOrders_35 (by decide) (fun h_2 => ?_) (fun h_2 => ?_)
  · have T := T.1 h_2
    refine r_iinc dX11_weighOrders_76 rfl (by decide) rfl ?_
    refine r_goto (tgt := 18) dX11_weighOrders_79 (by decide) ?_
    exact CW_msk [true, true, true, true, false] rfl T
  · have T := T.2 h_2
    refine r_iload_n dX11_weighOrders_38 rfl ?_
    refine r_iload dX11_weighOrders_39 rfl ?_
    refine r_ishr dX11_weighOrders_41 ?_
    refine r_iconst dX11_weighOrders_42 (by decide) ?_
    refine r_iand dX11_weighOrders_43 ?_
    refine r_if_ne (tgt := 70) dX11_weighOrders_44 (by decide) (fun h_1 => ?_) (fun h_1 => ?_)
    · have T := T.1 h_1
      refine r_iinc dX11_weighOrders_70 rfl (by decide) rfl ?_
      refine r_goto (tgt := 32) dX11_weighOrders_73 (by decide) ?_
      exact T
    · have T := T.2 h_1
      refine r_aload_n dX11_weighOrders_47 rfl ?_
      refine r_getA dX11_weighOrders_48 fX11_80 rfl uX11_16 ?_
      refine r_iload_n dX11_weighOrders_51 rfl ?_
      refine r_aload_n dX11_weighOrders_52 rfl ?_
      refine r_getA dX11_weighOrders_53 fX11_80 rfl uX11_16 ?_
      refine r_iload_n dX11_weighOrders_56 rfl ?_
      refine s_iald dX11_weighOrders_57 rfl tX11_16 aX11_16 T.1 ?_
      have T := T.2
      refine r_aload_n dX11_weighOrders_58 rfl ?_
      refine r_iload_n dX11_weighOrders_59 rfl ?_
      refine r_iload_n dX11_weighOrders_60 rfl ?_
      refine r_iload dX11_weighOrders_61 rfl ?_
      refine r_callVI (md' := mX11_goDownWith) (as := [vI x2, vI x3, vI x4]) dX11_weighOrders_63 lX11_346 iX11_goDownWith rfl rfl rfl (Nat.le_of_ble_eq_true rfl) T (fun r_1 M1 T => ?_)
      refine r_max dX11_weighOrders_66 lX11_264 wmax2 wmath wmax4 (Nat.le_of_ble_eq_true rfl) ?_
      refine n_iast dX11_weighOrders_69 rfl tX11_16 aX11_16 T.1 (fun M2 hM2 => ?_)
      have T := T.2 M2 hM2
      refine r_iinc dX11_weighOrders_70 rfl (by decide) rfl ?_
      refine r_goto (tgt := 32) dX11_weighOrders_73 (by decide) ?_
      exact T
theorem eX11_weighOrders {G : Gx} {n : Nat} {M : Mem} {Q : Mem → Prop}  {x1 : Int} (h : ∀ K : Kx, CW G K mX11_weighOrders n 0 [some (vO 1), some (vI x1), none, none, none] [] M (qV Q)) : OkV G n mX11_weighOrders [vO 1, vI x1] M Q := Ok_of (by decide) (Nat.le_of_ble_eq_true rfl) rfl h
-- DownOnly goDownWith (III)I
set_option maxRecDepth 20000 in
set_option maxHeartbeats 1000000 in
theorem bX11_goDownWith_0 {G : Gx} {K : Kx} {n : Nat} {M : Mem} {Q : Int → Mem → Prop}  {x1 : Int} {x2 : Int} {x3 : Int}  (T : (bOr x2 (bShl 1 x3) < 0 → CW G K mX11_goDownWith (n + 1) 32 [some (vO 1), some (vI x1), none, some (vI x3), some (vI (bOr x2 (bShl 1 x3))), none] [] M (qI Q)) ∧ (¬ (bOr x2 (bShl 1 x3) < 0) → (64 ≤ bOr x2 (bShl 1 x3) → CW G K mX11_goDownWith (n + 1) 32 [some (vO 1), some (vI x1), none, some (vI x3), some (vI (bOr x2 (bShl 1 x3))), none] [] M (qI Q)) ∧ (¬ (64 ≤ bOr x2 (bShl 1 x3)) → (0 ≤ bOr x2 (bShl 1 x3) ∧ bOr x2 (bShl 1 x3) < 64) ∧ (OkI G n mX3_customersFrom [vO 6, vI x3, vI (bAnd x1 (bXor (bOr x2 (bShl 1 x3)) (-1)))] M (fun r_1 M1 => Q (wr (M 1 16 (bOr x2 (bShl 1 x3)).toNat + r_1)) M1))))) : CW G K mX11_goDownWith (n + 1) 0 [some (vO 1), some (vI x1), some (vI x2), some (vI x3), none, none] [] M (qI Q) := by
  refine r_iload_n dX11_goDownWith_0 rfl ?_
  refine r_iconst dX11_goDownWith_1 (by decide) ?_
  refine r_iload_n dX11_goDownWith_2 rfl ?_
  refine r_ishl dX11_goDownWith_3 ?_
  refine r_ior dX11_goDownWith_4 ?_
  refine r_istore dX11_goDownWith_5 (by decide) rfl ?_
  refine r_iload dX11_goDownWith_7 rfl ?_
  refine r_if_lt (tgt := 32) dX11_goDownWith_9 (by decide) (fun h_2 => ?_) (fun h_2 => ?_)
  · have T := T.1 h_2
    exact CW_msk [true, true, false, true, true, false] rfl T
  · have T := T.2 h_2
    refine r_iload dX11_goDownWith_12 rfl ?_
    refine r_aload_n dX11_goDownWith_14 rfl ?_
    refine r_getA dX11_goDownWith_15 fX11_80 rfl uX11_16 ?_
    refine s_alen dX11_goDownWith_18 rfl uX11_16 aX11_16 (by decide) ?_
    refine r_icmp_ge (tgt := 32) dX11_goDownWith_19 (by decide) (fun h_1 => ?_) (fun h_1 => ?_)
    · have T := T.1 h_1
      exact CW_msk [true, true, false, true, true, false] rfl T
    · have T := T.2 h_1
      refine r_aload_n dX11_goDownWith_22 rfl ?_
      refine r_getA dX11_goDownWith_23 fX11_80 rfl uX11_16 ?_
      refine r_iload dX11_goDownWith_26 rfl ?_
      refine s_iald dX11_goDownWith_28 rfl tX11_16 aX11_16 T.1 ?_
      have T := T.2
      refine r_goto (tgt := 33) dX11_goDownWith_29 (by decide) ?_
      refine r_istore dX11_goDownWith_33 (by decide) rfl ?_
      refine r_iload dX11_goDownWith_35 rfl ?_
      refine r_aload_n dX11_goDownWith_37 rfl ?_
      refine r_getO (o' := 3) dX11_goDownWith_38 fX11_32 rfl tX11_4 rfl ?_
      refine r_getO (o' := 6) dX11_goDownWith_41 fX11_227 rfl tX8_2 rfl ?_
      refine r_iload_n dX11_goDownWith_44 rfl ?_
      refine r_iload_n dX11_goDownWith_45 rfl ?_
      refine r_iload dX11_goDownWith_46 rfl ?_
      refine r_iconst dX11_goDownWith_48 (by decide) ?_
      refine r_ixor dX11_goDownWith_49 ?_
      refine r_iand dX11_goDownWith_50 ?_
      refine r_callVI (md' := mX3_customersFrom) (as := [vI x3, vI (bAnd x1 (bXor (bOr x2 (bShl 1 x3)) (-1)))]) dX11_goDownWith_51 lX11_350 iX3_customersFrom rfl rfl rfl (Nat.le_of_ble_eq_true rfl) T (fun r_1 M1 T => ?_)
      refine r_iadd dX11_goDownWith_54 ?_
      exact r_ireturn dX11_goDownWith_55 rfl ⟨_, rfl, T⟩
set_option maxRecDepth 20000 in
set_option maxHeartbeats 1000000 in
theorem bX11_goDownWith_32 {G : Gx} {K : Kx} {n : Nat} {M : Mem} {Q : Int → Mem → Prop}  {x1 : Int} {x3 : Int} {x4 : Int}  (T : OkI G n mX3_customersFrom [vO 6, vI x3, vI (bAnd x1 (bXor x4 (-1)))] M (fun r_1 M1 => Q (wr (0 + r_1)) M1)) : CW G K mX11_goDownWith (n + 1) 32 [some (vO 1), some (vI x1), none, some (vI x3), some (vI x4), none] [] M (qI Q) := by
  refine r_iconst dX11_goDownWith_32 (by decide) ?_
  refine r_istore dX11_goDownWith_33 (by decide) rfl ?_
  refine r_iload dX11_goDownWith_35 rfl ?_
  refine r_aload_n dX11_goDownWith_37 rfl ?_
  refine r_getO (o' := 3) dX11_goDownWith_38 fX11_32 rfl tX11_4 rfl ?_
  refine r_getO (o' := 6) dX11_goDownWith_41 fX11_227 rfl tX8_2 rfl ?_
  refine r_iload_n dX11_goDownWith_44 rfl ?_
  refine r_iload_n dX11_goDownWith_45 rfl ?_
  refine r_iload dX11_goDownWith_46 rfl ?_
  refine r_iconst dX11_goDownWith_48 (by decide) ?_
  refine r_ixor dX11_goDownWith_49 ?_
  refine r_iand dX11_goDownWith_50 ?_
  refine r_callVI (md' := mX3_customersFrom) (as := [vI x3, vI (bAnd x1 (bXor x4 (-1)))]) dX11_goDownWith_51 lX11_350 iX3_customersFrom rfl rfl rfl (Nat.le_of_ble_eq_true rfl) T (fun r_1 M1 T => ?_)
  refine r_iadd dX11_goDownWith_54 ?_
  exact r_ireturn dX11_goDownWith_55 rfl ⟨_, rfl, T⟩
theorem eX11_goDownWith {G : Gx} {n : Nat} {M : Mem} {Q : Int → Mem → Prop}  {x1 : Int} {x2 : Int} {x3 : Int} (h : ∀ K : Kx, CW G K mX11_goDownWith n 0 [some (vO 1), some (vI x1), some (vI x2), some (vI x3), none, none] [] M (qI Q)) : OkI G n mX11_goDownWith [vO 1, vI x1, vI x2, vI x3] M Q := Ok_of (by decide) (Nat.le_of_ble_eq_true rfl) rfl h
-- DownOnly nextShop (II)I
set_option maxRecDepth 20000 in
set_option maxHeartbeats 1000000 in
theorem bX11_nextShop_0 {G : Gx} {K : Kx} {n : Nat} {M : Mem} {Q : Int → Mem → Prop}  {x1 : Int} {x2 : Int}  (T : (x2 < 0 → Q (-1) M) ∧ (¬ (x2 < 0) → (x2 < 64 → CW G K mX11_nextShop (n + 1) 24 [some (vO 1), some (vI x1), some (vI x2), some (vI (wr (bShl 1 x1 - 1))), some (vI 0)] [] M (qI Q)) ∧ (¬ (x2 < 64) → Q (-1) M))) : CW G K mX11_nextShop (n + 1) 0 [some (vO 1), some (vI x1), some (vI x2), none, none] [] M (qI Q) := by
  refine r_iconst dX11_nextShop_0 (by decide) ?_
  refine r_iload_n dX11_nextShop_1 rfl ?_
  refine r_ishl dX11_nextShop_2 ?_
  refine r_iconst dX11_nextShop_3 (by decide) ?_
  refine r_isub dX11_nextShop_4 ?_
  refine r_istore_n dX11_nextShop_5 (by decide) rfl ?_
  refine r_iload_n dX11_nextShop_6 rfl ?_
  refine r_if_lt (tgt := 19) dX11_nextShop_7 (by decide) (fun h_2 => ?_) (fun h_2 => ?_)
  · have T := T.1 h_2
    refine r_iconst dX11_nextShop_19 (by decide) ?_
    exact r_ireturn dX11_nextShop_20 rfl ⟨_, rfl, T⟩
  · have T := T.2 h_2
    refine r_iload_n dX11_nextShop_10 rfl ?_
    refine r_aload_n dX11_nextShop_11 rfl ?_
    refine r_getA dX11_nextShop_12 fX11_80 rfl uX11_16 ?_
    refine s_alen dX11_nextShop_15 rfl uX11_16 aX11_16 (by decide) ?_
    refine r_icmp_lt (tgt := 21) dX11_nextShop_16 (by decide) (fun h_1 => ?_) (fun h_1 => ?_)
    · have T := T.1 h_1
      refine r_iconst dX11_nextShop_21 (by decide) ?_
      refine r_istore dX11_nextShop_22 (by decide) rfl ?_
      exact T
    · have T := T.2 h_1
      refine r_iconst dX11_nextShop_19 (by decide) ?_
      exact r_ireturn dX11_nextShop_20 rfl ⟨_, rfl, T⟩
set_option maxRecDepth 20000 in
set_option maxHeartbeats 1000000 in
theorem bX11_nextShop_24 {G : Gx} {K : Kx} {n : Nat} {M : Mem} {Q : Int → Mem → Prop}  {x1 : Int} {x2 : Int} {x3 : Int} {x4 : Int}  (T : (x1 ≤ x4 → Q (-1) M) ∧ (¬ (x1 ≤ x4) → (¬ bAnd (bShr x2 x4) 1 = 0 → CW G K mX11_nextShop (n + 1) 24 [some (vO 1), some (vI x1), some (vI x2), some (vI x3), some (vI (wr (x4 + 1)))] [] M (qI Q)) ∧ (bAnd (bShr x2 x4) 1 = 0 → OkI G n mX11_goDownWith [vO 1, vI x3, vI x2, vI x4] M (fun r_1 M1 => (0 ≤ x2 ∧ x2 < 64) ∧ ((¬ r_1 = M1 1 16 x2.toNat → CW G K mX11_nextShop (n + 1) 24 [some (vO 1), some (vI x1), some (vI x2), some (vI x3), some (vI (wr (x4 + 1)))] [] M1 (qI Q)) ∧ (r_1 = M1 1 16 x2.toNat → Q x4 M1)))))) : CW G K mX11_nextShop (n + 1) 24 [some (vO 1), some (vI x1), some (vI x2), some (vI x3), some (vI x4)] [] M (qI Q) := by
  refine r_iload dX11_nextShop_24 rfl ?_
  refine r_iload_n dX11_nextShop_26 rfl ?_
  refine r_icmp_ge (tgt := 65) dX11_nextShop_27 (by decide) (fun h_3 => ?_) (fun h_3 => ?_)
  · have T := T.1 h_3
    refine r_iconst dX11_nextShop_65 (by decide) ?_
    exact r_ireturn dX11_nextShop_66 rfl ⟨_, rfl, T⟩
  · have T := T.2 h_3
    refine r_iload_n dX11_nextShop_30 rfl ?_
    refine r_iload dX11_nextShop_31 rfl ?_
    refine r_ishr dX11_nextShop_33 ?_
    refine r_iconst dX11_nextShop_34 (by decide) ?_
    refine r_iand dX11_nextShop_35 ?_
    refine r_if_ne (tgt := 59) dX11_nextShop_36 (by decide) (fun h_2 => ?_) (fun h_2 => ?_)
    · have T := T.1 h_2
      refine r_iinc dX11_nextShop_59 rfl (by decide) rfl ?_
      refine r_goto (tgt := 24) dX11_nextShop_62 (by decide) ?_
      exact T
    · have T := T.2 h_2
      refine r_aload_n dX11_nextShop_39 rfl ?_
      refine r_iload_n dX11_nextShop_40 rfl ?_
      refine r_iload_n dX11_nextShop_41 rfl ?_
      refine r_iload dX11_nextShop_42 rfl ?_
      refine r_callVI (md' := mX11_goDownWith) (as := [vI x3, vI x2, vI x4]) dX11_nextShop_44 lX11_346 iX11_goDownWith rfl rfl rfl (Nat.le_of_ble_eq_true rfl) T (fun r_1 M1 T => ?_)
      refine r_aload_n dX11_nextShop_47 rfl ?_
      refine r_getA dX11_nextShop_48 fX11_80 rfl uX11_16 ?_
      refine r_iload_n dX11_nextShop_51 rfl ?_
      refine s_iald dX11_nextShop_52 rfl tX11_16 aX11_16 T.1 ?_
      have T := T.2
      refine r_icmp_ne (tgt := 59) dX11_nextShop_53 (by decide) (fun h_1 => ?_) (fun h_1 => ?_)
      · have T := T.1 h_1
        refine r_iinc dX11_nextShop_59 rfl (by decide) rfl ?_
        refine r_goto (tgt := 24) dX11_nextShop_62 (by decide) ?_
        exact T
      · have T := T.2 h_1
        refine r_iload dX11_nextShop_56 rfl ?_
        exact r_ireturn dX11_nextShop_58 rfl ⟨_, rfl, T⟩
theorem eX11_nextShop {G : Gx} {n : Nat} {M : Mem} {Q : Int → Mem → Prop}  {x1 : Int} {x2 : Int} (h : ∀ K : Kx, CW G K mX11_nextShop n 0 [some (vO 1), some (vI x1), some (vI x2), none, none] [] M (qI Q)) : OkI G n mX11_nextShop [vO 1, vI x1, vI x2] M Q := Ok_of (by decide) (Nat.le_of_ble_eq_true rfl) rfl h
-- DownOnly beds ()I
set_option maxRecDepth 20000 in
set_option maxHeartbeats 1000000 in
theorem bX11_beds_0 {G : Gx} {K : Kx} {n : Nat} {M : Mem} {Q : Int → Mem → Prop}    (T : (¬ M 4 0 0 = 0 → CW G K mX11_beds (n + 1) 19 [some (vO 1), some (vI 0), some (vI 0)] [] M (qI Q)) ∧ (M 4 0 0 = 0 → Q (-1) M)) : CW G K mX11_beds (n + 1) 0 [some (vO 1), none, none] [] M (qI Q) := by
  refine r_aload_n dX11_beds_0 rfl ?_
  refine r_getO (o' := 3) dX11_beds_1 fX11_32 rfl tX11_4 rfl ?_
  refine r_getO (o' := 4) dX11_beds_4 fX11_107 rfl tX8_0 rfl ?_
  refine r_getI dX11_beds_7 fX11_110 rfl tX1_0 ?_
  refine r_if_ne (tgt := 15) dX11_beds_10 (by decide) (fun h_1 => ?_) (fun h_1 => ?_)
  · have T := T.1 h_1
    refine r_iconst dX11_beds_15 (by decide) ?_
    refine r_istore_n dX11_beds_16 (by decide) rfl ?_
    refine r_iconst dX11_beds_17 (by decide) ?_
    refine r_istore_n dX11_beds_18 (by decide) rfl ?_
    exact T
  · have T := T.2 h_1
    refine r_iconst dX11_beds_13 (by decide) ?_
    exact r_ireturn dX11_beds_14 rfl ⟨_, rfl, T⟩
set_option maxRecDepth 20000 in
set_option maxHeartbeats 1000000 in
theorem bX11_beds_19 {G : Gx} {K : Kx} {n : Nat} {M : Mem} {Q : Int → Mem → Prop}  {x1 : Int} {x2 : Int}  (T : (M 4 2 0 ≤ x2 → Q x1 M) ∧ (¬ (M 4 2 0 ≤ x2) → (8 ≤ x2 → Q x1 M) ∧ (¬ (8 ≤ x2) → OkI G n mX11_comesHome [vO 1, vI x2] M (fun r_1 M1 => (¬ r_1 = 0 → CW G K mX11_beds (n + 1) 19 [some (vO 1), some (vI x1), some (vI (wr (x2 + 1)))] [] M1 (qI Q)) ∧ (r_1 = 0 → CW G K mX11_beds (n + 1) 19 [some (vO 1), some (vI (bOr x1 (bShl 1 x2))), some (vI (wr (x2 + 1)))] [] M1 (qI Q)))))) : CW G K mX11_beds (n + 1) 19 [some (vO 1), some (vI x1), some (vI x2)] [] M (qI Q) := by
  refine r_iload_n dX11_beds_19 rfl ?_
  refine r_aload_n dX11_beds_20 rfl ?_
  refine r_getO (o' := 3) dX11_beds_21 fX11_32 rfl tX11_4 rfl ?_
  refine r_getO (o' := 4) dX11_beds_24 fX11_107 rfl tX8_0 rfl ?_
  refine r_getI dX11_beds_27 fX11_353 rfl tX1_2 ?_
  refine r_icmp_ge (tgt := 59) dX11_beds_30 (by decide) (fun h_3 => ?_) (fun h_3 => ?_)
  · have T := T.1 h_3
    refine r_iload_n dX11_beds_59 rfl ?_
    exact r_ireturn dX11_beds_60 rfl ⟨_, rfl, T⟩
  · have T := T.2 h_3
    refine r_iload_n dX11_beds_33 rfl ?_
    refine r_bipush dX11_beds_34 (by decide) (by decide) ?_
    refine r_icmp_ge (tgt := 59) dX11_beds_36 (by decide) (fun h_2 => ?_) (fun h_2 => ?_)
    · have T := T.1 h_2
      refine r_iload_n dX11_beds_59 rfl ?_
      exact r_ireturn dX11_beds_60 rfl ⟨_, rfl, T⟩
    · have T := T.2 h_2
      refine r_aload_n dX11_beds_39 rfl ?_
      refine r_iload_n dX11_beds_40 rfl ?_
      refine r_callVI (md' := mX11_comesHome) (as := [vI x2]) dX11_beds_41 lX11_356 iX11_comesHome rfl rfl rfl (Nat.le_of_ble_eq_true rfl) T (fun r_1 M1 T => ?_)
      refine r_if_ne (tgt := 53) dX11_beds_44 (by decide) (fun h_1 => ?_) (fun h_1 => ?_)
      · have T := T.1 h_1
        refine r_iinc dX11_beds_53 rfl (by decide) rfl ?_
        refine r_goto (tgt := 19) dX11_beds_56 (by decide) ?_
        exact T
      · have T := T.2 h_1
        refine r_iload_n dX11_beds_47 rfl ?_
        refine r_iconst dX11_beds_48 (by decide) ?_
        refine r_iload_n dX11_beds_49 rfl ?_
        refine r_ishl dX11_beds_50 ?_
        refine r_ior dX11_beds_51 ?_
        refine r_istore_n dX11_beds_52 (by decide) rfl ?_
        refine r_iinc dX11_beds_53 rfl (by decide) rfl ?_
        refine r_goto (tgt := 19) dX11_beds_56 (by decide) ?_
        exact T
theorem eX11_beds {G : Gx} {n : Nat} {M : Mem} {Q : Int → Mem → Prop}   (h : ∀ K : Kx, CW G K mX11_beds n 0 [some (vO 1), none, none] [] M (qI Q)) : OkI G n mX11_beds [vO 1] M Q := Ok_of (by decide) (Nat.le_of_ble_eq_true rfl) rfl h
-- DownOnly comesHome (I)Z
set_option maxRecDepth 20000 in
set_option maxHeartbeats 1000000 in
theorem bX11_comesHome_0 {G : Gx} {K : Kx} {n : Nat} {M : Mem} {Q : Int → Mem → Prop}  {x1 : Int}  (T : OkI G n mX1_isPerson [vO 4, vI x1] M (fun r_1 M1 => (¬ r_1 = 0 → (0 ≤ x1 ∧ x1 < 8) ∧ ((0 ≤ x1 ∧ x1 < 8) ∧ ((¬ M1 5 2 x1.toNat = (-1) → CW G K mX11_comesHome (n + 1) 52 [some (vO 1), some (vI x1), some (vO 5), some (vI (M1 4 14 x1.toNat)), none, none, none] [vI 0] M1 (qI Q)) ∧ (M1 5 2 x1.toNat = (-1) → CW G K mX11_comesHome (n + 1) 52 [some (vO 1), some (vI x1), some (vO 5), some (vI (M1 4 14 x1.toNat)), none, none, none] [vI 1] M1 (qI Q))))) ∧ (r_1 = 0 → Q 1 M1))) : CW G K mX11_comesHome (n + 1) 0 [some (vO 1), some (vI x1), none, none, none, none, none] [] M (qI Q) := by
  refine r_aload_n dX11_comesHome_0 rfl ?_
  refine r_getO (o' := 3) dX11_comesHome_1 fX11_32 rfl tX11_4 rfl ?_
  refine r_getO (o' := 5) dX11_comesHome_4 fX11_130 rfl tX8_1 rfl ?_
  refine r_astore_n dX11_comesHome_7 (by decide) rfl ?_
  refine r_aload_n dX11_comesHome_8 rfl ?_
  refine r_getO (o' := 3) dX11_comesHome_9 fX11_32 rfl tX11_4 rfl ?_
  refine r_getO (o' := 4) dX11_comesHome_12 fX11_107 rfl tX8_0 rfl ?_
  refine r_iload_n dX11_comesHome_15 rfl ?_
  refine r_callVI (md' := mX1_isPerson) (as := [vI x1]) dX11_comesHome_16 lX11_161 iX1_isPerson rfl rfl rfl (Nat.le_of_ble_eq_true rfl) T (fun r_1 M1 T => ?_)
  refine r_if_ne (tgt := 24) dX11_comesHome_19 (by decide) (fun h_2 => ?_) (fun h_2 => ?_)
  · have T := T.1 h_2
    refine r_aload_n dX11_comesHome_24 rfl ?_
    refine r_getO (o' := 3) dX11_comesHome_25 fX11_32 rfl tX11_4 rfl ?_
    refine r_getO (o' := 4) dX11_comesHome_28 fX11_107 rfl tX8_0 rfl ?_
    refine r_getA dX11_comesHome_31 fX11_167 rfl uX1_14 ?_
    refine r_iload_n dX11_comesHome_34 rfl ?_
    refine s_iald dX11_comesHome_35 rfl tX1_14 aX1_14 T.1 ?_
    have T := T.2
    refine r_istore_n dX11_comesHome_36 (by decide) rfl ?_
    refine r_aload_n dX11_comesHome_37 rfl ?_
    refine r_getA dX11_comesHome_38 fX11_164 rfl uX0_2 ?_
    refine r_iload_n dX11_comesHome_41 rfl ?_
    refine s_iald dX11_comesHome_42 rfl tX0_2 aX0_2 T.1 ?_
    have T := T.2
    refine r_iconst dX11_comesHome_43 (by decide) ?_
    refine r_icmp_ne (tgt := 51) dX11_comesHome_44 (by decide) (fun h_1 => ?_) (fun h_1 => ?_)
    · have T := T.1 h_1
      refine r_iconst dX11_comesHome_51 (by decide) ?_
      exact T
    · have T := T.2 h_1
      refine r_iconst dX11_comesHome_47 (by decide) ?_
      refine r_goto (tgt := 52) dX11_comesHome_48 (by decide) ?_
      exact T
  · have T := T.2 h_2
    refine r_iconst dX11_comesHome_22 (by decide) ?_
    exact r_zreturn dX11_comesHome_23 rfl (by decide) ⟨_, rfl, T⟩
set_option maxRecDepth 20000 in
set_option maxHeartbeats 1000000 in
theorem bX11_comesHome_52 {G : Gx} {K : Kx} {n : Nat} {M : Mem} {Q : Int → Mem → Prop}  {x1 : Int} {x3 : Int} {z0 : Int}  (T : (M 5 0 0 ≤ 1439 → (z0 = 0 → (0 ≤ x1 ∧ x1 < 8) ∧ ((z0 = 0 → CW G K mX11_comesHome (n + 1) 120 [some (vO 1), some (vI x1), some (vO 5), some (vI x3), none, some (vI (M 5 2 x1.toNat)), none] [vI (M 5 0 0)] M (qI Q)) ∧ (¬ (z0 = 0) → (0 ≤ x1 ∧ x1 < 8) ∧ (CW G K mX11_comesHome (n + 1) 120 [some (vO 1), some (vI x1), some (vO 5), some (vI x3), none, some (vI (M 5 2 x1.toNat)), none] [vI (M 5 5 x1.toNat)] M (qI Q))))) ∧ (¬ (z0 = 0) → (0 ≤ x1 ∧ x1 < 8) ∧ ((z0 = 0 → CW G K mX11_comesHome (n + 1) 120 [some (vO 1), some (vI x1), some (vO 5), some (vI x3), none, some (vI (M 5 4 x1.toNat)), none] [vI (M 5 0 0)] M (qI Q)) ∧ (¬ (z0 = 0) → (0 ≤ x1 ∧ x1 < 8) ∧ (CW G K mX11_comesHome (n + 1) 120 [some (vO 1), some (vI x1), some (vO 5), some (vI x3), none, some (vI (M 5 4 x1.toNat)), none] [vI (M 5 5 x1.toNat)] M (qI Q)))))) ∧ (¬ (M 5 0 0 ≤ 1439) → (0 ≤ x1 ∧ x1 < 8) ∧ ((¬ M 5 2 x1.toNat = x3 → Q 0 M) ∧ (M 5 2 x1.toNat = x3 → Q 1 M)))) : CW G K mX11_comesHome (n + 1) 52 [some (vO 1), some (vI x1), some (vO 5), some (vI x3), none, none, none] [vI z0] M (qI Q) := by
  refine r_istore dX11_comesHome_52 (by decide) rfl ?_
  refine r_aload_n dX11_comesHome_54 rfl ?_
  refine r_getI dX11_comesHome_55 fX11_179 rfl tX0_0 ?_
  refine r_sipush dX11_comesHome_58 (by decide) (by decide) ?_
  refine r_icmp_le (tgt := 80) dX11_comesHome_61 (by decide) (fun h_5 => ?_) (fun h_5 => ?_)
  · have T := T.1 h_5
    refine r_iload dX11_comesHome_80 rfl ?_
    refine r_if_eq (tgt := 94) dX11_comesHome_82 (by decide) (fun h_3 => ?_) (fun h_3 => ?_)
    · have T := T.1 h_3
      refine r_aload_n dX11_comesHome_94 rfl ?_
      refine r_getA dX11_comesHome_95 fX11_164 rfl uX0_2 ?_
      refine r_iload_n dX11_comesHome_98 rfl ?_
      refine s_iald dX11_comesHome_99 rfl tX0_2 aX0_2 T.1 ?_
      have T := T.2
      refine r_istore dX11_comesHome_100 (by decide) rfl ?_
      refine r_iload dX11_comesHome_102 rfl ?_
      refine r_if_eq (tgt := 116) dX11_comesHome_104 (by decide) (fun h_1 => ?_) (fun h_1 => ?_)
      · have T := T.1 h_1
        refine r_aload_n dX11_comesHome_116 rfl ?_
        refine r_getI dX11_comesHome_117 fX11_179 rfl tX0_0 ?_
        exact CW_msk [true, true, true, true, false, true, false] rfl T
      · have T := T.2 h_1
        refine r_aload_n dX11_comesHome_107 rfl ?_
        refine r_getA dX11_comesHome_108 fX11_176 rfl uX0_5 ?_
        refine r_iload_n dX11_comesHome_111 rfl ?_
        refine s_iald dX11_comesHome_112 rfl tX0_5 aX0_5 T.1 ?_
        have T := T.2
        refine r_goto (tgt := 120) dX11_comesHome_113 (by decide) ?_
        exact CW_msk [true, true, true, true, false, true, false] rfl T
    · have T := T.2 h_3
      refine r_aload_n dX11_comesHome_85 rfl ?_
      refine r_getA dX11_comesHome_86 fX11_173 rfl uX0_4 ?_
      refine r_iload_n dX11_comesHome_89 rfl ?_
      refine s_iald dX11_comesHome_90 rfl tX0_4 aX0_4 T.1 ?_
      have T := T.2
      refine r_goto (tgt := 100) dX11_comesHome_91 (by decide) ?_
      refine r_istore dX11_comesHome_100 (by decide) rfl ?_
      refine r_iload dX11_comesHome_102 rfl ?_
      refine r_if_eq (tgt := 116) dX11_comesHome_104 (by decide) (fun h_2 => ?_) (fun h_2 => ?_)
      · have T := T.1 h_2
        refine r_aload_n dX11_comesHome_116 rfl ?_
        refine r_getI dX11_comesHome_117 fX11_179 rfl tX0_0 ?_
        exact CW_msk [true, true, true, true, false, true, false] rfl T
      · have T := T.2 h_2
        refine r_aload_n dX11_comesHome_107 rfl ?_
        refine r_getA dX11_comesHome_108 fX11_176 rfl uX0_5 ?_
        refine r_iload_n dX11_comesHome_111 rfl ?_
        refine s_iald dX11_comesHome_112 rfl tX0_5 aX0_5 T.1 ?_
        have T := T.2
        refine r_goto (tgt := 120) dX11_comesHome_113 (by decide) ?_
        exact CW_msk [true, true, true, true, false, true, false] rfl T
  · have T := T.2 h_5
    refine r_aload_n dX11_comesHome_64 rfl ?_
    refine r_getA dX11_comesHome_65 fX11_164 rfl uX0_2 ?_
    refine r_iload_n dX11_comesHome_68 rfl ?_
    refine s_iald dX11_comesHome_69 rfl tX0_2 aX0_2 T.1 ?_
    have T := T.2
    refine r_iload_n dX11_comesHome_70 rfl ?_
    refine r_icmp_ne (tgt := 78) dX11_comesHome_71 (by decide) (fun h_4 => ?_) (fun h_4 => ?_)
    · have T := T.1 h_4
      refine r_iconst dX11_comesHome_78 (by decide) ?_
      exact r_zreturn dX11_comesHome_79 rfl (by decide) ⟨_, rfl, T⟩
    · have T := T.2 h_4
      refine r_iconst dX11_comesHome_74 (by decide) ?_
      refine r_goto (tgt := 79) dX11_comesHome_75 (by decide) ?_
      exact r_zreturn dX11_comesHome_79 rfl (by decide) ⟨_, rfl, T⟩
set_option maxRecDepth 20000 in
set_option maxHeartbeats 1000000 in
theorem bX11_comesHome_120 {G : Gx} {K : Kx} {n : Nat} {M : Mem} {Q : Int → Mem → Prop}  {x1 : Int} {x3 : Int} {x5 : Int} {z0 : Int}  (T : (0 ≤ x1 ∧ x1 < 8) ∧ ((¬ M 5 3 x1.toNat = 0 → OkV G n mX5_from [vO 9, vO 4, vI x5, vI z0, vI 0] M (fun M1 => OkI G n mX5_leastAt [vO 9, vI x3] M1 (fun r_1 M2 => (1439 < r_1 → Q 0 M2) ∧ (¬ (1439 < r_1) → Q 1 M2)))) ∧ (M 5 3 x1.toNat = 0 → OkV G n mX5_from [vO 9, vO 4, vI x5, vI z0, vI 1] M (fun M3 => OkI G n mX5_leastAt [vO 9, vI x3] M3 (fun r_2 M4 => (1439 < r_2 → Q 0 M4) ∧ (¬ (1439 < r_2) → Q 1 M4)))))) : CW G K mX11_comesHome (n + 1) 120 [some (vO 1), some (vI x1), some (vO 5), some (vI x3), none, some (vI x5), none] [vI z0] M (qI Q) := by
  refine r_istore dX11_comesHome_120 (by decide) rfl ?_
  refine r_aload_n dX11_comesHome_122 rfl ?_
  refine r_getO (o' := 9) dX11_comesHome_123 fX11_50 rfl tX11_7 rfl ?_
  refine r_aload_n dX11_comesHome_126 rfl ?_
  refine r_getO (o' := 3) dX11_comesHome_127 fX11_32 rfl tX11_4 rfl ?_
  refine r_getO (o' := 4) dX11_comesHome_130 fX11_107 rfl tX8_0 rfl ?_
  refine r_iload dX11_comesHome_133 rfl ?_
  refine r_iload dX11_comesHome_135 rfl ?_
  refine r_aload_n dX11_comesHome_137 rfl ?_
  refine r_getA dX11_comesHome_138 fX11_170 rfl uX0_3 ?_
  refine r_iload_n dX11_comesHome_141 rfl ?_
  refine s_iald dX11_comesHome_142 rfl tX0_3 aX0_3 T.1 ?_
  have T := T.2
  refine r_if_ne (tgt := 150) dX11_comesHome_143 (by decide) (fun h_3 => ?_) (fun h_3 => ?_)
  · have T := T.1 h_3
    refine r_iconst dX11_comesHome_150 (by decide) ?_
    refine r_callVV (md' := mX5_from) (as := [vO 4, vI x5, vI z0, vI 0]) dX11_comesHome_151 lX11_209 iX5_from rfl rfl rfl (Nat.le_of_ble_eq_true rfl) T (fun M1 T => ?_)
    refine r_aload_n dX11_comesHome_154 rfl ?_
    refine r_getO (o' := 9) dX11_comesHome_155 fX11_50 rfl tX11_7 rfl ?_
    refine r_iload_n dX11_comesHome_158 rfl ?_
    refine r_callVI (md' := mX5_leastAt) (as := [vI x3]) dX11_comesHome_159 lX11_212 iX5_leastAt rfl rfl rfl (Nat.le_of_ble_eq_true rfl) T (fun r_1 M2 T => ?_)
    refine r_sipush dX11_comesHome_162 (by decide) (by decide) ?_
    refine r_icmp_gt (tgt := 172) dX11_comesHome_165 (by decide) (fun h_1 => ?_) (fun h_1 => ?_)
    · have T := T.1 h_1
      refine r_iconst dX11_comesHome_172 (by decide) ?_
      exact r_zreturn dX11_comesHome_173 rfl (by decide) ⟨_, rfl, T⟩
    · have T := T.2 h_1
      refine r_iconst dX11_comesHome_168 (by decide) ?_
      refine r_goto (tgt := 173) dX11_comesHome_169 (by decide) ?_
      exact r_zreturn dX11_comesHome_173 rfl (by decide) ⟨_, rfl, T⟩
  · have T := T.2 h_3
    refine r_iconst dX11_comesHome_146 (by decide) ?_
    refine r_goto (tgt := 151) dX11_comesHome_147 (by decide) ?_
    refine r_callVV (md' := mX5_from) (as := [vO 4, vI x5, vI z0, vI 1]) dX11_comesHome_151 lX11_209 iX5_from rfl rfl rfl (Nat.le_of_ble_eq_true rfl) T (fun M3 T => ?_)
    refine r_aload_n dX11_comesHome_154 rfl ?_
    refine r_getO (o' := 9) dX11_comesHome_155 fX11_50 rfl tX11_7 rfl ?_
    refine r_iload_n dX11_comesHome_158 rfl ?_
    refine r_callVI (md' := mX5_leastAt) (as := [vI x3]) dX11_comesHome_159 lX11_212 iX5_leastAt rfl rfl rfl (Nat.le_of_ble_eq_true rfl) T (fun r_2 M4 T => ?_)
    refine r_sipush dX11_comesHome_162 (by decide) (by decide) ?_
    refine r_icmp_gt (tgt := 172) dX11_comesHome_165 (by decide) (fun h_2 => ?_) (fun h_2 => ?_)
    · have T := T.1 h_2
      refine r_iconst dX11_comesHome_172 (by decide) ?_
      exact r_zreturn dX11_comesHome_173 rfl (by decide) ⟨_, rfl, T⟩
    · have T := T.2 h_2
      refine r_iconst dX11_comesHome_168 (by decide) ?_
      refine r_goto (tgt := 173) dX11_comesHome_169 (by decide) ?_
      exact r_zreturn dX11_comesHome_173 rfl (by decide) ⟨_, rfl, T⟩
theorem eX11_comesHome {G : Gx} {n : Nat} {M : Mem} {Q : Int → Mem → Prop}  {x1 : Int} (h : ∀ K : Kx, CW G K mX11_comesHome n 0 [some (vO 1), some (vI x1), none, none, none, none, none] [] M (qI Q)) : OkI G n mX11_comesHome [vO 1, vI x1] M Q := Ok_of (by decide) (Nat.le_of_ble_eq_true rfl) rfl h
-- DownOnly upward (I)I
set_option maxRecDepth 20000 in
set_option maxHeartbeats 1000000 in
theorem bX11_upward_0 {G : Gx} {K : Kx} {n : Nat} {M : Mem} {Q : Int → Mem → Prop}  {x1 : Int}  (T : (M 4 0 0 = 0 → Q (-1) M) ∧ (¬ (M 4 0 0 = 0) → (x1 < 0 → Q (-1) M) ∧ (¬ (x1 < 0) → (x1 ≤ 2 → (¬ x1 = 2 → CW G K mX11_upward (n + 1) 51 [some (vO 1), some (vI x1), some (vO 4), some (vI (-2)), some (vI (-2)), some (vI 0), none] [] M (qI Q)) ∧ (x1 = 2 → OkI G n mX1_twos [vO 4, vI (-1), vA 1 14] M (fun r_1 M1 => Q r_1 M1))) ∧ (¬ (x1 ≤ 2) → Q (-1) M)))) : CW G K mX11_upward (n + 1) 0 [some (vO 1), some (vI x1), none, none, none, none, none] [] M (qI Q) := by
  refine r_aload_n dX11_upward_0 rfl ?_
  refine r_getO (o' := 3) dX11_upward_1 fX11_32 rfl tX11_4 rfl ?_
  refine r_getO (o' := 4) dX11_upward_4 fX11_107 rfl tX8_0 rfl ?_
  refine r_astore_n dX11_upward_7 (by decide) rfl ?_
  refine r_aload_n dX11_upward_8 rfl ?_
  refine r_getI dX11_upward_9 fX11_110 rfl tX1_0 ?_
  refine r_if_eq (tgt := 24) dX11_upward_12 (by decide) (fun h_4 => ?_) (fun h_4 => ?_)
  · have T := T.1 h_4
    refine r_iconst dX11_upward_24 (by decide) ?_
    exact r_ireturn dX11_upward_25 rfl ⟨_, rfl, T⟩
  · have T := T.2 h_4
    refine r_iload_n dX11_upward_15 rfl ?_
    refine r_if_lt (tgt := 24) dX11_upward_16 (by decide) (fun h_3 => ?_) (fun h_3 => ?_)
    · have T := T.1 h_3
      refine r_iconst dX11_upward_24 (by decide) ?_
      exact r_ireturn dX11_upward_25 rfl ⟨_, rfl, T⟩
    · have T := T.2 h_3
      refine r_iload_n dX11_upward_19 rfl ?_
      refine r_iconst dX11_upward_20 (by decide) ?_
      refine r_icmp_le (tgt := 26) dX11_upward_21 (by decide) (fun h_2 => ?_) (fun h_2 => ?_)
      · have T := T.1 h_2
        refine r_iload_n dX11_upward_26 rfl ?_
        refine r_iconst dX11_upward_27 (by decide) ?_
        refine r_icmp_ne (tgt := 41) dX11_upward_28 (by decide) (fun h_1 => ?_) (fun h_1 => ?_)
        · have T := T.1 h_1
          refine r_bipush dX11_upward_41 (by decide) (by decide) ?_
          refine r_istore_n dX11_upward_43 (by decide) rfl ?_
          refine r_bipush dX11_upward_44 (by decide) (by decide) ?_
          refine r_istore dX11_upward_46 (by decide) rfl ?_
          refine r_iconst dX11_upward_48 (by decide) ?_
          refine r_istore dX11_upward_49 (by decide) rfl ?_
          exact T
        · have T := T.2 h_1
          refine r_aload_n dX11_upward_31 rfl ?_
          refine r_iconst dX11_upward_32 (by decide) ?_
          refine r_aload_n dX11_upward_33 rfl ?_
          refine r_getA dX11_upward_34 fX11_74 rfl uX11_14 ?_
          refine r_callVI (md' := mX1_twos) (as := [vI (-1), vA 1 14]) dX11_upward_37 lX11_359 iX1_twos rfl rfl rfl (Nat.le_of_ble_eq_true rfl) T (fun r_1 M1 T => ?_)
          exact r_ireturn dX11_upward_40 rfl ⟨_, rfl, T⟩
      · have T := T.2 h_2
        refine r_iconst dX11_upward_24 (by decide) ?_
        exact r_ireturn dX11_upward_25 rfl ⟨_, rfl, T⟩
set_option maxRecDepth 20000 in
set_option maxHeartbeats 1000000 in
theorem bX11_upward_51 {G : Gx} {K : Kx} {n : Nat} {M : Mem} {Q : Int → Mem → Prop}  {x1 : Int} {x3 : Int} {x4 : Int} {x5 : Int}  (T : (M 4 1 0 ≤ x5 → (¬ x1 = 0 → Q x4 M) ∧ (x1 = 0 → Q x3 M)) ∧ (¬ (M 4 1 0 ≤ x5) → (24 ≤ x5 → (¬ x1 = 0 → Q x4 M) ∧ (x1 = 0 → Q x3 M)) ∧ (¬ (24 ≤ x5) → (0 ≤ x5 ∧ x5 < 24) ∧ ((¬ M 4 11 x5.toNat = 0 → ((-2) ≤ x4 → CW G K mX11_upward (n + 1) 51 [some (vO 1), some (vI x1), some (vO 4), some (vI x3), some (vI x4), some (vI (wr (x5 + 1))), none] [] M (qI Q)) ∧ (¬ ((-2) ≤ x4) → CW G K mX11_upward (n + 1) 51 [some (vO 1), some (vI x1), some (vO 4), some (vI x5), some (vI (-2)), some (vI (wr (x5 + 1))), none] [] M (qI Q))) ∧ (M 4 11 x5.toNat = 0 → OkI G n mX1_twos [vO 4, vI x5, vA 1 14] M (fun r_1 M1 => (r_1 ≤ x4 → CW G K mX11_upward (n + 1) 51 [some (vO 1), some (vI x1), some (vO 4), some (vI x3), some (vI x4), some (vI (wr (x5 + 1))), none] [] M1 (qI Q)) ∧ (¬ (r_1 ≤ x4) → CW G K mX11_upward (n + 1) 51 [some (vO 1), some (vI x1), some (vO 4), some (vI x5), some (vI r_1), some (vI (wr (x5 + 1))), none] [] M1 (qI Q)))))))) : CW G K mX11_upward (n + 1) 51 [some (vO 1), some (vI x1), some (vO 4), some (vI x3), some (vI x4), some (vI x5), none] [] M (qI Q) := by
  refine r_iload dX11_upward_51 rfl ?_
  refine r_aload_n dX11_upward_53 rfl ?_
  refine r_getI dX11_upward_54 fX11_362 rfl tX1_1 ?_
  refine r_icmp_ge (tgt := 114) dX11_upward_57 (by decide) (fun h_7 => ?_) (fun h_7 => ?_)
  · have T := T.1 h_7
    refine r_iload_n dX11_upward_114 rfl ?_
    refine r_if_ne (tgt := 122) dX11_upward_115 (by decide) (fun h_1 => ?_) (fun h_1 => ?_)
    · have T := T.1 h_1
      refine r_iload dX11_upward_122 rfl ?_
      exact r_ireturn dX11_upward_124 rfl ⟨_, rfl, T⟩
    · have T := T.2 h_1
      refine r_iload_n dX11_upward_118 rfl ?_
      refine r_goto (tgt := 124) dX11_upward_119 (by decide) ?_
      exact r_ireturn dX11_upward_124 rfl ⟨_, rfl, T⟩
  · have T := T.2 h_7
    refine r_iload dX11_upward_60 rfl ?_
    refine r_bipush dX11_upward_62 (by decide) (by decide) ?_
    refine r_icmp_ge (tgt := 114) dX11_upward_64 (by decide) (fun h_6 => ?_) (fun h_6 => ?_)
    · have T := T.1 h_6
      refine r_iload_n dX11_upward_114 rfl ?_
      refine r_if_ne (tgt := 122) dX11_upward_115 (by decide) (fun h_2 => ?_) (fun h_2 => ?_)
      · have T := T.1 h_2
        refine r_iload dX11_upward_122 rfl ?_
        exact r_ireturn dX11_upward_124 rfl ⟨_, rfl, T⟩
      · have T := T.2 h_2
        refine r_iload_n dX11_upward_118 rfl ?_
        refine r_goto (tgt := 124) dX11_upward_119 (by decide) ?_
        exact r_ireturn dX11_upward_124 rfl ⟨_, rfl, T⟩
    · have T := T.2 h_6
      refine r_aload_n dX11_upward_67 rfl ?_
      refine r_getA dX11_upward_68 fX11_152 rfl uX1_11 ?_
      refine r_iload dX11_upward_71 rfl ?_
      refine s_iald dX11_upward_73 rfl tX1_11 aX1_11 T.1 ?_
      have T := T.2
      refine r_if_ne (tgt := 90) dX11_upward_74 (by decide) (fun h_5 => ?_) (fun h_5 => ?_)
      · have T := T.1 h_5
        refine r_bipush dX11_upward_90 (by decide) (by decide) ?_
        refine r_istore dX11_upward_92 (by decide) rfl ?_
        refine r_iload dX11_upward_94 rfl ?_
        refine r_iload dX11_upward_96 rfl ?_
        refine r_icmp_le (tgt := 108) dX11_upward_98 (by decide) (fun h_3 => ?_) (fun h_3 => ?_)
        · have T := T.1 h_3
          refine r_iinc dX11_upward_108 rfl (by decide) rfl ?_
          refine r_goto (tgt := 51) dX11_upward_111 (by decide) ?_
          exact CW_msk [true, true, true, true, true, true, false] rfl T
        · have T := T.2 h_3
          refine r_iload dX11_upward_101 rfl ?_
          refine r_istore dX11_upward_103 (by decide) rfl ?_
          refine r_iload dX11_upward_105 rfl ?_
          refine r_istore_n dX11_upward_107 (by decide) rfl ?_
          refine r_iinc dX11_upward_108 rfl (by decide) rfl ?_
          refine r_goto (tgt := 51) dX11_upward_111 (by decide) ?_
          exact CW_msk [true, true, true, true, true, true, false] rfl T
      · have T := T.2 h_5
        refine r_aload_n dX11_upward_77 rfl ?_
        refine r_iload dX11_upward_78 rfl ?_
        refine r_aload_n dX11_upward_80 rfl ?_
        refine r_getA dX11_upward_81 fX11_74 rfl uX11_14 ?_
        refine r_callVI (md' := mX1_twos) (as := [vI x5, vA 1 14]) dX11_upward_84 lX11_359 iX1_twos rfl rfl rfl (Nat.le_of_ble_eq_true rfl) T (fun r_1 M1 T => ?_)
        refine r_goto (tgt := 92) dX11_upward_87 (by decide) ?_
        refine r_istore dX11_upward_92 (by decide) rfl ?_
        refine r_iload dX11_upward_94 rfl ?_
        refine r_iload dX11_upward_96 rfl ?_
        refine r_icmp_le (tgt := 108) dX11_upward_98 (by decide) (fun h_4 => ?_) (fun h_4 => ?_)
        · have T := T.1 h_4
          refine r_iinc dX11_upward_108 rfl (by decide) rfl ?_
          refine r_goto (tgt := 51) dX11_upward_111 (by decide) ?_
          exact CW_msk [true, true, true, true, true, true, false] rfl T
        · have T := T.2 h_4
          refine r_iload dX11_upward_101 rfl ?_
          refine r_istore dX11_upward_103 (by decide) rfl ?_
          refine r_iload dX11_upward_105 rfl ?_
          refine r_istore_n dX11_upward_107 (by decide) rfl ?_
          refine r_iinc dX11_upward_108 rfl (by decide) rfl ?_
          refine r_goto (tgt := 51) dX11_upward_111 (by decide) ?_
          exact CW_msk [true, true, true, true, true, true, false] rfl T
theorem eX11_upward {G : Gx} {n : Nat} {M : Mem} {Q : Int → Mem → Prop}  {x1 : Int} (h : ∀ K : Kx, CW G K mX11_upward n 0 [some (vO 1), some (vI x1), none, none, none, none, none] [] M (qI Q)) : OkI G n mX11_upward [vO 1, vI x1] M Q := Ok_of (by decide) (Nat.le_of_ble_eq_true rfl) rfl h
-- DownOnly seed (I)I
set_option maxRecDepth 20000 in
set_option maxHeartbeats 1000000 in
theorem bX11_seed_0 {G : Gx} {K : Kx} {n : Nat} {M : Mem} {Q : Int → Mem → Prop}  {x1 : Int}  (T : (0 ≤ x1 → ∀ M1 : Mem, M1 = mset M 6 0 0 x1 → Q (M 6 0 0) M1) ∧ (¬ (0 ≤ x1) → Q (-1) M)) : CW G K mX11_seed n 0 [some (vO 1), some (vI x1), none] [] M (qI Q) := by
  refine r_iload_n dX11_seed_0 rfl ?_
  refine r_if_ge (tgt := 6) dX11_seed_1 (by decide) (fun h_1 => ?_) (fun h_1 => ?_)
  · have T := T.1 h_1
    refine r_aload_n dX11_seed_6 rfl ?_
    refine r_getO (o' := 3) dX11_seed_7 fX11_32 rfl tX11_4 rfl ?_
    refine r_getO (o' := 6) dX11_seed_10 fX11_227 rfl tX8_2 rfl ?_
    refine r_getI dX11_seed_13 fX11_365 rfl tX3_0 ?_
    refine r_istore_n dX11_seed_16 (by decide) rfl ?_
    refine r_aload_n dX11_seed_17 rfl ?_
    refine r_getO (o' := 3) dX11_seed_18 fX11_32 rfl tX11_4 rfl ?_
    refine r_getO (o' := 6) dX11_seed_21 fX11_227 rfl tX8_2 rfl ?_
    refine r_iload_n dX11_seed_24 rfl ?_
    refine n_put dX11_seed_25 pX11_365 rfl tX3_0 (fun M1 hM1 => ?_)
    have T := T M1 hM1
    refine r_iload_n dX11_seed_28 rfl ?_
    exact r_ireturn dX11_seed_29 rfl ⟨_, rfl, T⟩
  · have T := T.2 h_1
    refine r_iconst dX11_seed_4 (by decide) ?_
    exact r_ireturn dX11_seed_5 rfl ⟨_, rfl, T⟩
theorem eX11_seed {G : Gx} {n : Nat} {M : Mem} {Q : Int → Mem → Prop}  {x1 : Int} (h : ∀ K : Kx, CW G K mX11_seed n 0 [some (vO 1), some (vI x1), none] [] M (qI Q)) : OkI G n mX11_seed [vO 1, vI x1] M Q := Ok_of (by decide) (Nat.le_of_ble_eq_true rfl) rfl h
-- DownOnly drawn (III)I
set_option maxRecDepth 20000 in
set_option maxHeartbeats 1000000 in
theorem bX11_drawn_0 {G : Gx} {K : Kx} {n : Nat} {M : Mem} {Q : Int → Mem → Prop}  {x1 : Int} {x2 : Int} {x3 : Int}  (T : OkR G n mX11_ruleTold [vO 1, vI x1] M (fun r_1 M1 => (M1 4 0 0 = 0 → Q (-1) M1) ∧ (¬ (M1 4 0 0 = 0) → (r_1 = none → Q (-1) M1) ∧ (∀ c, r_1 = some c → (x2 < 1 → Q (-1) M1) ∧ (¬ (x2 < 1) → (20 < x2 → Q (-1) M1) ∧ (¬ (20 < x2) → (x3 < 0 → Q (-1) M1) ∧ (¬ (x3 < 0) → (x3 ≤ 1 → CW G K mX11_drawn (n + 1) 65 [some (vO 1), none, some (vI x2), some (vI x3), some (vR r_1), some (vI (M1 6 0 0)), some (vI 0), some (vI 0)] [] M1 (qI Q)) ∧ (¬ (x3 ≤ 1) → Q (-1) M1)))))))) : CW G K mX11_drawn (n + 1) 0 [some (vO 1), some (vI x1), some (vI x2), some (vI x3), none, none, none, none] [] M (qI Q) := by
  refine r_aload_n dX11_drawn_0 rfl ?_
  refine r_iload_n dX11_drawn_1 rfl ?_
  refine r_callVR (md' := mX11_ruleTold) (as := [vI x1]) dX11_drawn_2 lX11_190 iX11_ruleTold rfl rfl rfl (Nat.le_of_ble_eq_true rfl) T (fun r_1 M1 T => ?_)
  refine r_astore dX11_drawn_5 (by decide) rfl ?_
  refine r_aload_n dX11_drawn_7 rfl ?_
  refine r_getO (o' := 3) dX11_drawn_8 fX11_32 rfl tX11_4 rfl ?_
  refine r_getO (o' := 4) dX11_drawn_11 fX11_107 rfl tX8_0 rfl ?_
  refine r_getI dX11_drawn_14 fX11_110 rfl tX1_0 ?_
  refine r_if_eq (tgt := 45) dX11_drawn_17 (by decide) (fun h_5 => ?_) (fun h_5 => ?_)
  · have T := T.1 h_5
    refine r_iconst dX11_drawn_45 (by decide) ?_
    exact r_ireturn dX11_drawn_46 rfl ⟨_, rfl, T⟩
  · have T := T.2 h_5
    refine r_aload dX11_drawn_20 rfl ?_
    refine r_ifnull (tgt := 45) dX11_drawn_22 (by decide) (fun h_ => ?_) (fun c h_ => ?_)
    · have T := T.1 h_
      refine r_iconst dX11_drawn_45 (by decide) ?_
      exact r_ireturn dX11_drawn_46 rfl ⟨_, rfl, T⟩
    · have T := T.2 c h_
      refine r_iload_n dX11_drawn_25 rfl ?_
      refine r_iconst dX11_drawn_26 (by decide) ?_
      refine r_icmp_lt (tgt := 45) dX11_drawn_27 (by decide) (fun h_4 => ?_) (fun h_4 => ?_)
      · have T := T.1 h_4
        refine r_iconst dX11_drawn_45 (by decide) ?_
        exact r_ireturn dX11_drawn_46 rfl ⟨_, rfl, T⟩
      · have T := T.2 h_4
        refine r_iload_n dX11_drawn_30 rfl ?_
        refine r_bipush dX11_drawn_31 (by decide) (by decide) ?_
        refine r_icmp_gt (tgt := 45) dX11_drawn_33 (by decide) (fun h_3 => ?_) (fun h_3 => ?_)
        · have T := T.1 h_3
          refine r_iconst dX11_drawn_45 (by decide) ?_
          exact r_ireturn dX11_drawn_46 rfl ⟨_, rfl, T⟩
        · have T := T.2 h_3
          refine r_iload_n dX11_drawn_36 rfl ?_
          refine r_if_lt (tgt := 45) dX11_drawn_37 (by decide) (fun h_2 => ?_) (fun h_2 => ?_)
          · have T := T.1 h_2
            refine r_iconst dX11_drawn_45 (by decide) ?_
            exact r_ireturn dX11_drawn_46 rfl ⟨_, rfl, T⟩
          · have T := T.2 h_2
            refine r_iload_n dX11_drawn_40 rfl ?_
            refine r_iconst dX11_drawn_41 (by decide) ?_
            refine r_icmp_le (tgt := 47) dX11_drawn_42 (by decide) (fun h_1 => ?_) (fun h_1 => ?_)
            · have T := T.1 h_1
              refine r_aload_n dX11_drawn_47 rfl ?_
              refine r_getO (o' := 3) dX11_drawn_48 fX11_32 rfl tX11_4 rfl ?_
              refine r_getO (o' := 6) dX11_drawn_51 fX11_227 rfl tX8_2 rfl ?_
              refine r_getI dX11_drawn_54 fX11_365 rfl tX3_0 ?_
              refine r_istore dX11_drawn_57 (by decide) rfl ?_
              refine r_iconst dX11_drawn_59 (by decide) ?_
              refine r_istore dX11_drawn_60 (by decide) rfl ?_
              refine r_iconst dX11_drawn_62 (by decide) ?_
              refine r_istore dX11_drawn_63 (by decide) rfl ?_
              exact CW_msk [true, false, true, true, true, true, true, true] rfl T
            · have T := T.2 h_1
              refine r_iconst dX11_drawn_45 (by decide) ?_
              exact r_ireturn dX11_drawn_46 rfl ⟨_, rfl, T⟩
set_option maxRecDepth 20000 in
set_option maxHeartbeats 1000000 in
theorem bX11_drawn_65 {G : Gx} {K : Kx} {n : Nat} {M : Mem} {Q : Int → Mem → Prop}  {x2 : Int} {x3 : Int} {x4 : Option (Nat × Nat)} {x5 : Int} {x6 : Int} {x7 : Int}  (T : (x2 ≤ x7 → Q x6 M) ∧ (¬ (x2 ≤ x7) → OkI G n mX0_beginDrawn [vO 8, vO 4, vI x5] M (fun r_1 M1 => OkV G n mX0_pass [vO 8, vO 4, vR x4, vI 1440] M1 (fun M2 => OkI G n mX0_tally [vO 8, vO 4, vI x3] M2 (fun r_2 M3 => CW G K mX11_drawn (n + 1) 65 [some (vO 1), none, some (vI x2), some (vI x3), some (vR x4), some (vI r_1), some (vI (wr (x6 + r_2))), some (vI (wr (x7 + 1)))] [] M3 (qI Q)))))) : CW G K mX11_drawn (n + 1) 65 [some (vO 1), none, some (vI x2), some (vI x3), some (vR x4), some (vI x5), some (vI x6), some (vI x7)] [] M (qI Q) := by
  refine r_iload dX11_drawn_65 rfl ?_
  refine r_iload_n dX11_drawn_67 rfl ?_
  refine r_icmp_ge (tgt := 134) dX11_drawn_68 (by decide) (fun h_1 => ?_) (fun h_1 => ?_)
  · have T := T.1 h_1
    refine r_iload dX11_drawn_134 rfl ?_
    exact r_ireturn dX11_drawn_136 rfl ⟨_, rfl, T⟩
  · have T := T.2 h_1
    refine r_aload_n dX11_drawn_71 rfl ?_
    refine r_getO (o' := 8) dX11_drawn_72 fX11_43 rfl tX11_6 rfl ?_
    refine r_aload_n dX11_drawn_75 rfl ?_
    refine r_getO (o' := 3) dX11_drawn_76 fX11_32 rfl tX11_4 rfl ?_
    refine r_getO (o' := 4) dX11_drawn_79 fX11_107 rfl tX8_0 rfl ?_
    refine r_iload dX11_drawn_82 rfl ?_
    refine r_callVI (md' := mX0_beginDrawn) (as := [vO 4, vI x5]) dX11_drawn_84 lX11_368 iX0_beginDrawn rfl rfl rfl (Nat.le_of_ble_eq_true rfl) T (fun r_1 M1 T => ?_)
    refine r_istore dX11_drawn_87 (by decide) rfl ?_
    refine r_aload_n dX11_drawn_89 rfl ?_
    refine r_getO (o' := 8) dX11_drawn_90 fX11_43 rfl tX11_6 rfl ?_
    refine r_aload_n dX11_drawn_93 rfl ?_
    refine r_getO (o' := 3) dX11_drawn_94 fX11_32 rfl tX11_4 rfl ?_
    refine r_getO (o' := 4) dX11_drawn_97 fX11_107 rfl tX8_0 rfl ?_
    refine r_aload dX11_drawn_100 rfl ?_
    refine r_sipush dX11_drawn_102 (by decide) (by decide) ?_
    refine r_callVV (md' := mX0_pass) (as := [vO 4, vR x4, vI 1440]) dX11_drawn_105 lX11_194 iX0_pass rfl rfl rfl (Nat.le_of_ble_eq_true rfl) T (fun M2 T => ?_)
    refine r_iload dX11_drawn_108 rfl ?_
    refine r_aload_n dX11_drawn_110 rfl ?_
    refine r_getO (o' := 8) dX11_drawn_111 fX11_43 rfl tX11_6 rfl ?_
    refine r_aload_n dX11_drawn_114 rfl ?_
    refine r_getO (o' := 3) dX11_drawn_115 fX11_32 rfl tX11_4 rfl ?_
    refine r_getO (o' := 4) dX11_drawn_118 fX11_107 rfl tX8_0 rfl ?_
    refine r_iload_n dX11_drawn_121 rfl ?_
    refine r_callVI (md' := mX0_tally) (as := [vO 4, vI x3]) dX11_drawn_122 lX11_202 iX0_tally rfl rfl rfl (Nat.le_of_ble_eq_true rfl) T (fun r_2 M3 T => ?_)
    refine r_iadd dX11_drawn_125 ?_
    refine r_istore dX11_drawn_126 (by decide) rfl ?_
    refine r_iinc dX11_drawn_128 rfl (by decide) rfl ?_
    refine r_goto (tgt := 65) dX11_drawn_131 (by decide) ?_
    exact T
theorem eX11_drawn {G : Gx} {n : Nat} {M : Mem} {Q : Int → Mem → Prop}  {x1 : Int} {x2 : Int} {x3 : Int} (h : ∀ K : Kx, CW G K mX11_drawn n 0 [some (vO 1), some (vI x1), some (vI x2), some (vI x3), none, none, none, none] [] M (qI Q)) : OkI G n mX11_drawn [vO 1, vI x1, vI x2, vI x3] M Q := Ok_of (by decide) (Nat.le_of_ble_eq_true rfl) rfl h
-- DownOnly count (I)I
set_option maxRecDepth 20000 in
set_option maxHeartbeats 1000000 in
theorem bX11_count_0 {G : Gx} {K : Kx} {n : Nat} {M : Mem} {Q : Int → Mem → Prop}  {x1 : Int}  (T : ((x1 < 0 ∨ 13 < x1) → Q (-1) M) ∧ (x1 = 0 → Q (M 4 0 0) M) ∧ (x1 = 1 → Q (M 4 1 0) M) ∧ (x1 = 2 → Q (M 4 2 0) M) ∧ (x1 = 3 → Q (M 1 3 0) M) ∧ (x1 = 4 → Q (M 5 0 0) M) ∧ (x1 = 5 → Q (M 6 1 0) M) ∧ (x1 = 6 → Q (M 6 2 0) M) ∧ (x1 = 7 → Q (M 6 3 0) M) ∧ (x1 = 8 → Q (M 6 4 0) M) ∧ (x1 = 9 → Q (M 6 0 0) M) ∧ (x1 = 10 → Q (M 2 1 0) M) ∧ (x1 = 11 → Q (M 4 4 0) M) ∧ (x1 = 12 → Q (M 4 5 0) M) ∧ (x1 = 13 → Q (M 4 6 0) M)) : CW G K mX11_count n 0 [some (vO 1), some (vI x1)] [] M (qI Q) := by
  refine r_iload_n dX11_count_0 rfl ?_
  refine r_tsw (td := 217) (tg := [72, 83, 94, 105, 110, 121, 132, 143, 154, 165, 176, 184, 195, 206]) dX11_count_1 (by decide) (by decide) (by decide) (fun h_ => ?_) (fun j t ht hx => ?_)
  · have T := T.1 h_
    refine r_iconst dX11_count_217 (by decide) ?_
    exact r_ireturn dX11_count_218 rfl ⟨_, rfl, T⟩
  · match j, ht, hx with
    | 0, ht, hx =>
      cases ht
      have T := T.2.1 (by omega)
      refine r_aload_n dX11_count_72 rfl ?_
      refine r_getO (o' := 3) dX11_count_73 fX11_32 rfl tX11_4 rfl ?_
      refine r_getO (o' := 4) dX11_count_76 fX11_107 rfl tX8_0 rfl ?_
      refine r_getI dX11_count_79 fX11_110 rfl tX1_0 ?_
      exact r_ireturn dX11_count_82 rfl ⟨_, rfl, T⟩
    | 1, ht, hx =>
      cases ht
      have T := T.2.2.1 (by omega)
      refine r_aload_n dX11_count_83 rfl ?_
      refine r_getO (o' := 3) dX11_count_84 fX11_32 rfl tX11_4 rfl ?_
      refine r_getO (o' := 4) dX11_count_87 fX11_107 rfl tX8_0 rfl ?_
      refine r_getI dX11_count_90 fX11_362 rfl tX1_1 ?_
      exact r_ireturn dX11_count_93 rfl ⟨_, rfl, T⟩
    | 2, ht, hx =>
      cases ht
      have T := T.2.2.2.1 (by omega)
      refine r_aload_n dX11_count_94 rfl ?_
      refine r_getO (o' := 3) dX11_count_95 fX11_32 rfl tX11_4 rfl ?_
      refine r_getO (o' := 4) dX11_count_98 fX11_107 rfl tX8_0 rfl ?_
      refine r_getI dX11_count_101 fX11_353 rfl tX1_2 ?_
      exact r_ireturn dX11_count_104 rfl ⟨_, rfl, T⟩
    | 3, ht, hx =>
      cases ht
      have T := T.2.2.2.2.1 (by omega)
      refine r_aload_n dX11_count_105 rfl ?_
      refine r_getI dX11_count_106 fX11_113 rfl tX11_3 ?_
      exact r_ireturn dX11_count_109 rfl ⟨_, rfl, T⟩
    | 4, ht, hx =>
      cases ht
      have T := T.2.2.2.2.2.1 (by omega)
      refine r_aload_n dX11_count_110 rfl ?_
      refine r_getO (o' := 3) dX11_count_111 fX11_32 rfl tX11_4 rfl ?_
      refine r_getO (o' := 5) dX11_count_114 fX11_130 rfl tX8_1 rfl ?_
      refine r_getI dX11_count_117 fX11_179 rfl tX0_0 ?_
      exact r_ireturn dX11_count_120 rfl ⟨_, rfl, T⟩
    | 5, ht, hx =>
      cases ht
      have T := T.2.2.2.2.2.2.1 (by omega)
      refine r_aload_n dX11_count_121 rfl ?_
      refine r_getO (o' := 3) dX11_count_122 fX11_32 rfl tX11_4 rfl ?_
      refine r_getO (o' := 6) dX11_count_125 fX11_227 rfl tX8_2 rfl ?_
      refine r_getI dX11_count_128 fX11_231 rfl tX3_1 ?_
      exact r_ireturn dX11_count_131 rfl ⟨_, rfl, T⟩
    | 6, ht, hx =>
      cases ht
      have T := T.2.2.2.2.2.2.2.1 (by omega)
      refine r_aload_n dX11_count_132 rfl ?_
      refine r_getO (o' := 3) dX11_count_133 fX11_32 rfl tX11_4 rfl ?_
      refine r_getO (o' := 6) dX11_count_136 fX11_227 rfl tX8_2 rfl ?_
      refine r_getI dX11_count_139 fX11_270 rfl tX3_2 ?_
      exact r_ireturn dX11_count_142 rfl ⟨_, rfl, T⟩
    | 7, ht, hx =>
      cases ht
      have T := T.2.2.2.2.2.2.2.2.1 (by omega)
      refine r_aload_n dX11_count_143 rfl ?_
      refine r_getO (o' := 3) dX11_count_144 fX11_32 rfl tX11_4 rfl ?_
      refine r_getO (o' := 6) dX11_count_147 fX11_227 rfl tX8_2 rfl ?_
      refine r_getI dX11_count_150 fX11_306 rfl tX3_3 ?_
      exact r_ireturn dX11_count_153 rfl ⟨_, rfl, T⟩
    | 8, ht, hx =>
      cases ht
      have T := T.2.2.2.2.2.2.2.2.2.1 (by omega)
      refine r_aload_n dX11_count_154 rfl ?_
      refine r_getO (o' := 3) dX11_count_155 fX11_32 rfl tX11_4 rfl ?_
      refine r_getO (o' := 6) dX11_count_158 fX11_227 rfl tX8_2 rfl ?_
      refine r_getI dX11_count_161 fX11_331 rfl tX3_4 ?_
      exact r_ireturn dX11_count_164 rfl ⟨_, rfl, T⟩
    | 9, ht, hx =>
      cases ht
      have T := T.2.2.2.2.2.2.2.2.2.2.1 (by omega)
      refine r_aload_n dX11_count_165 rfl ?_
      refine r_getO (o' := 3) dX11_count_166 fX11_32 rfl tX11_4 rfl ?_
      refine r_getO (o' := 6) dX11_count_169 fX11_227 rfl tX8_2 rfl ?_
      refine r_getI dX11_count_172 fX11_365 rfl tX3_0 ?_
      exact r_ireturn dX11_count_175 rfl ⟨_, rfl, T⟩
    | 10, ht, hx =>
      cases ht
      have T := T.2.2.2.2.2.2.2.2.2.2.2.1 (by omega)
      refine r_aload_n dX11_count_176 rfl ?_
      refine r_getO (o' := 2) dX11_count_177 fX11_10 rfl tX11_0 rfl ?_
      refine r_getI dX11_count_180 fX11_83 rfl tX9_1 ?_
      exact r_ireturn dX11_count_183 rfl ⟨_, rfl, T⟩
    | 11, ht, hx =>
      cases ht
      have T := T.2.2.2.2.2.2.2.2.2.2.2.2.1 (by omega)
      refine r_aload_n dX11_count_184 rfl ?_
      refine r_getO (o' := 3) dX11_count_185 fX11_32 rfl tX11_4 rfl ?_
      refine r_getO (o' := 4) dX11_count_188 fX11_107 rfl tX8_0 rfl ?_
      refine r_getI dX11_count_191 fX11_371 rfl tX1_4 ?_
      exact r_ireturn dX11_count_194 rfl ⟨_, rfl, T⟩
    | 12, ht, hx =>
      cases ht
      have T := T.2.2.2.2.2.2.2.2.2.2.2.2.2.1 (by omega)
      refine r_aload_n dX11_count_195 rfl ?_
      refine r_getO (o' := 3) dX11_count_196 fX11_32 rfl tX11_4 rfl ?_
      refine r_getO (o' := 4) dX11_count_199 fX11_107 rfl tX8_0 rfl ?_
      refine r_getI dX11_count_202 fX11_328 rfl tX1_5 ?_
      exact r_ireturn dX11_count_205 rfl ⟨_, rfl, T⟩
    | 13, ht, hx =>
      cases ht
      have T := T.2.2.2.2.2.2.2.2.2.2.2.2.2.2 (by omega)
      refine r_aload_n dX11_count_206 rfl ?_
      refine r_getO (o' := 3) dX11_count_207 fX11_32 rfl tX11_4 rfl ?_
      refine r_getO (o' := 4) dX11_count_210 fX11_107 rfl tX8_0 rfl ?_
      refine r_getI dX11_count_213 fX11_312 rfl tX1_6 ?_
      exact r_ireturn dX11_count_216 rfl ⟨_, rfl, T⟩
    | j + 14, ht, hx => exact absurd ht (by simp)
theorem eX11_count {G : Gx} {n : Nat} {M : Mem} {Q : Int → Mem → Prop}  {x1 : Int} (h : ∀ K : Kx, CW G K mX11_count n 0 [some (vO 1), some (vI x1)] [] M (qI Q)) : OkI G n mX11_count [vO 1, vI x1] M Q := Ok_of (by decide) (Nat.le_of_ble_eq_true rfl) rfl h
-- DownOnly back (I)I
set_option maxRecDepth 20000 in
set_option maxHeartbeats 1000000 in
theorem bX11_back_0 {G : Gx} {K : Kx} {n : Nat} {M : Mem} {Q : Int → Mem → Prop}  {x1 : Int}  (T : (x1 < 0 → Q (-1) M) ∧ (¬ (x1 < 0) → (4 ≤ x1 → Q (-1) M) ∧ (¬ (4 ≤ x1) → (0 ≤ x1 ∧ x1 < 4) ∧ ((∀ c, (if M 1 5 x1.toNat = 0 then none else some (el 5 x1.toNat, 99)) = some c → (0 ≤ x1 ∧ x1 < 4) ∧ (OkV G n mX8_copyFrom [vO 3, vR (if M 1 5 x1.toNat = 0 then none else some (el 5 x1.toNat, 99))] M (fun M1 => Q (M1 5 0 0) M1))) ∧ ((if M 1 5 x1.toNat = 0 then none else some (el 5 x1.toNat, 99)) = none → Q (-1) M))))) : CW G K mX11_back (n + 1) 0 [some (vO 1), some (vI x1)] [] M (qI Q) := by
  refine r_iload_n dX11_back_0 rfl ?_
  refine r_if_lt (tgt := 18) dX11_back_1 (by decide) (fun h_2 => ?_) (fun h_2 => ?_)
  · have T := T.1 h_2
    refine r_iconst dX11_back_18 (by decide) ?_
    exact r_ireturn dX11_back_19 rfl ⟨_, rfl, T⟩
  · have T := T.2 h_2
    refine r_iload_n dX11_back_4 rfl ?_
    refine r_iconst dX11_back_5 (by decide) ?_
    refine r_icmp_ge (tgt := 18) dX11_back_6 (by decide) (fun h_1 => ?_) (fun h_1 => ?_)
    · have T := T.1 h_1
      refine r_iconst dX11_back_18 (by decide) ?_
      exact r_ireturn dX11_back_19 rfl ⟨_, rfl, T⟩
    · have T := T.2 h_1
      refine r_aload_n dX11_back_9 rfl ?_
      refine r_getA dX11_back_10 fX11_36 rfl uX11_5 ?_
      refine r_iload_n dX11_back_13 rfl ?_
      refine s_aald dX11_back_14 rfl (Or.inr tX11_5) aX11_5 T.1 ?_
      have T := T.2
      refine r_ifnonnull (tgt := 20) dX11_back_15 (by decide) (fun c h_ => ?_) (fun h_ => ?_)
      · have T := T.1 c h_
        refine r_aload_n dX11_back_20 rfl ?_
        refine r_getO (o' := 3) dX11_back_21 fX11_32 rfl tX11_4 rfl ?_
        refine r_aload_n dX11_back_24 rfl ?_
        refine r_getA dX11_back_25 fX11_36 rfl uX11_5 ?_
        refine r_iload_n dX11_back_28 rfl ?_
        refine s_aald dX11_back_29 rfl (Or.inr tX11_5) aX11_5 T.1 ?_
        have T := T.2
        refine r_callVV (md' := mX8_copyFrom) (as := [vR (if M 1 5 x1.toNat = 0 then none else some (el 5 x1.toNat, 99))]) dX11_back_30 lX11_374 iX8_copyFrom rfl rfl rfl (Nat.le_of_ble_eq_true rfl) T (fun M1 T => ?_)
        refine r_aload_n dX11_back_33 rfl ?_
        refine r_getO (o' := 3) dX11_back_34 fX11_32 rfl tX11_4 rfl ?_
        refine r_getO (o' := 5) dX11_back_37 fX11_130 rfl tX8_1 rfl ?_
        refine r_getI dX11_back_40 fX11_179 rfl tX0_0 ?_
        exact r_ireturn dX11_back_43 rfl ⟨_, rfl, T⟩
      · have T := T.2 h_
        refine r_iconst dX11_back_18 (by decide) ?_
        exact r_ireturn dX11_back_19 rfl ⟨_, rfl, T⟩
theorem eX11_back {G : Gx} {n : Nat} {M : Mem} {Q : Int → Mem → Prop}  {x1 : Int} (h : ∀ K : Kx, CW G K mX11_back n 0 [some (vO 1), some (vI x1)] [] M (qI Q)) : OkI G n mX11_back [vO 1, vI x1] M Q := Ok_of (by decide) (Nat.le_of_ble_eq_true rfl) rfl h
-- DownOnly ruleTold (I)LDownOnly$Rule;
set_option maxRecDepth 20000 in
set_option maxHeartbeats 1000000 in
theorem bX11_ruleTold_0 {G : Gx} {K : Kx} {n : Nat} {M : Mem} {Q : Option (Nat × Nat) → Mem → Prop}  {x1 : Int}  (T : (x1 < 0 → Q none M) ∧ (¬ (x1 < 0) → (M 1 3 0 ≤ x1 → Q none M) ∧ (¬ (M 1 3 0 ≤ x1) → (x1 < 6 → (0 ≤ x1 ∧ x1 < 6) ∧ (Q (if M 1 2 x1.toNat = 0 then none else some (el 2 x1.toNat, 99)) M)) ∧ (¬ (x1 < 6) → Q none M)))) : CW G K mX11_ruleTold n 0 [some (vO 1), some (vI x1)] [] M (qR Q) := by
  refine r_iload_n dX11_ruleTold_0 rfl ?_
  refine r_if_lt (tgt := 18) dX11_ruleTold_1 (by decide) (fun h_3 => ?_) (fun h_3 => ?_)
  · have T := T.1 h_3
    refine r_null dX11_ruleTold_18 ?_
    refine r_goto (tgt := 28) dX11_ruleTold_19 (by decide) ?_
    exact r_areturn dX11_ruleTold_28 rfl ⟨_, rfl, T⟩
  · have T := T.2 h_3
    refine r_iload_n dX11_ruleTold_4 rfl ?_
    refine r_aload_n dX11_ruleTold_5 rfl ?_
    refine r_getI dX11_ruleTold_6 fX11_113 rfl tX11_3 ?_
    refine r_icmp_ge (tgt := 18) dX11_ruleTold_9 (by decide) (fun h_2 => ?_) (fun h_2 => ?_)
    · have T := T.1 h_2
      refine r_null dX11_ruleTold_18 ?_
      refine r_goto (tgt := 28) dX11_ruleTold_19 (by decide) ?_
      exact r_areturn dX11_ruleTold_28 rfl ⟨_, rfl, T⟩
    · have T := T.2 h_2
      refine r_iload_n dX11_ruleTold_12 rfl ?_
      refine r_bipush dX11_ruleTold_13 (by decide) (by decide) ?_
      refine r_icmp_lt (tgt := 22) dX11_ruleTold_15 (by decide) (fun h_1 => ?_) (fun h_1 => ?_)
      · have T := T.1 h_1
        refine r_aload_n dX11_ruleTold_22 rfl ?_
        refine r_getA dX11_ruleTold_23 fX11_25 rfl uX11_2 ?_
        refine r_iload_n dX11_ruleTold_26 rfl ?_
        refine s_aald dX11_ruleTold_27 rfl (Or.inl tX11_2) aX11_2 T.1 ?_
        have T := T.2
        exact r_areturn dX11_ruleTold_28 rfl ⟨_, rfl, T⟩
      · have T := T.2 h_1
        refine r_null dX11_ruleTold_18 ?_
        refine r_goto (tgt := 28) dX11_ruleTold_19 (by decide) ?_
        exact r_areturn dX11_ruleTold_28 rfl ⟨_, rfl, T⟩
theorem eX11_ruleTold {G : Gx} {n : Nat} {M : Mem} {Q : Option (Nat × Nat) → Mem → Prop}  {x1 : Int} (h : ∀ K : Kx, CW G K mX11_ruleTold n 0 [some (vO 1), some (vI x1)] [] M (qR Q)) : OkR G n mX11_ruleTold [vO 1, vI x1] M Q := Ok_of (by decide) (Nat.le_of_ble_eq_true rfl) rfl h
-- DownOnly isStart (II)Z
set_option maxRecDepth 20000 in
set_option maxHeartbeats 1000000 in
theorem bX11_isStart_0 {G : Gx} {K : Kx} {n : Nat} {M : Mem} {Q : Int → Mem → Prop}  {x1 : Int} {x2 : Int}  (T : OkI G n mX1_isRoom [vO 4, vI x1] M (fun r_1 M1 => (r_1 = 0 → Q 0 M1) ∧ (¬ (r_1 = 0) → OkI G n mX11_isMinute [vI x2] M1 (fun r_2 M2 => (r_2 = 0 → Q 0 M2) ∧ (¬ (r_2 = 0) → Q 1 M2))))) : CW G K mX11_isStart (n + 1) 0 [some (vO 1), some (vI x1), some (vI x2)] [] M (qI Q) := by
  refine r_aload_n dX11_isStart_0 rfl ?_
  refine r_getO (o' := 3) dX11_isStart_1 fX11_32 rfl tX11_4 rfl ?_
  refine r_getO (o' := 4) dX11_isStart_4 fX11_107 rfl tX8_0 rfl ?_
  refine r_iload_n dX11_isStart_7 rfl ?_
  refine r_callVI (md' := mX1_isRoom) (as := [vI x1]) dX11_isStart_8 lX11_123 iX1_isRoom rfl rfl rfl (Nat.le_of_ble_eq_true rfl) T (fun r_1 M1 T => ?_)
  refine r_if_eq (tgt := 25) dX11_isStart_11 (by decide) (fun h_2 => ?_) (fun h_2 => ?_)
  · have T := T.1 h_2
    refine r_iconst dX11_isStart_25 (by decide) ?_
    exact r_zreturn dX11_isStart_26 rfl (by decide) ⟨_, rfl, T⟩
  · have T := T.2 h_2
    refine r_iload_n dX11_isStart_14 rfl ?_
    refine r_callSI (md' := mX11_isMinute) (as := [vI x2]) dX11_isStart_15 lX11_236 iX11_isMinute rfl rfl (Nat.le_of_ble_eq_true rfl) T (fun r_2 M2 T => ?_)
    refine r_if_eq (tgt := 25) dX11_isStart_18 (by decide) (fun h_1 => ?_) (fun h_1 => ?_)
    · have T := T.1 h_1
      refine r_iconst dX11_isStart_25 (by decide) ?_
      exact r_zreturn dX11_isStart_26 rfl (by decide) ⟨_, rfl, T⟩
    · have T := T.2 h_1
      refine r_iconst dX11_isStart_21 (by decide) ?_
      refine r_goto (tgt := 26) dX11_isStart_22 (by decide) ?_
      exact r_zreturn dX11_isStart_26 rfl (by decide) ⟨_, rfl, T⟩
theorem eX11_isStart {G : Gx} {n : Nat} {M : Mem} {Q : Int → Mem → Prop}  {x1 : Int} {x2 : Int} (h : ∀ K : Kx, CW G K mX11_isStart n 0 [some (vO 1), some (vI x1), some (vI x2)] [] M (qI Q)) : OkI G n mX11_isStart [vO 1, vI x1, vI x2] M Q := Ok_of (by decide) (Nat.le_of_ble_eq_true rfl) rfl h
-- DownOnly isMinute (I)Z
set_option maxRecDepth 20000 in
set_option maxHeartbeats 1000000 in
theorem bX11_isMinute_0 {G : Gx} {K : Kx} {n : Nat} {M : Mem} {Q : Int → Mem → Prop}  {x0 : Int}  (T : (x0 < 0 → Q 0 M) ∧ (¬ (x0 < 0) → (1439 < x0 → Q 0 M) ∧ (¬ (1439 < x0) → Q 1 M))) : CW G K mX11_isMinute n 0 [some (vI x0)] [] M (qI Q) := by
  refine r_iload_n dX11_isMinute_0 rfl ?_
  refine r_if_lt (tgt := 15) dX11_isMinute_1 (by decide) (fun h_2 => ?_) (fun h_2 => ?_)
  · have T := T.1 h_2
    refine r_iconst dX11_isMinute_15 (by decide) ?_
    exact r_zreturn dX11_isMinute_16 rfl (by decide) ⟨_, rfl, T⟩
  · have T := T.2 h_2
    refine r_iload_n dX11_isMinute_4 rfl ?_
    refine r_sipush dX11_isMinute_5 (by decide) (by decide) ?_
    refine r_icmp_gt (tgt := 15) dX11_isMinute_8 (by decide) (fun h_1 => ?_) (fun h_1 => ?_)
    · have T := T.1 h_1
      refine r_iconst dX11_isMinute_15 (by decide) ?_
      exact r_zreturn dX11_isMinute_16 rfl (by decide) ⟨_, rfl, T⟩
    · have T := T.2 h_1
      refine r_iconst dX11_isMinute_11 (by decide) ?_
      refine r_goto (tgt := 16) dX11_isMinute_12 (by decide) ?_
      exact r_zreturn dX11_isMinute_16 rfl (by decide) ⟨_, rfl, T⟩
theorem eX11_isMinute {G : Gx} {n : Nat} {M : Mem} {Q : Int → Mem → Prop}  {x0 : Int} (h : ∀ K : Kx, CW G K mX11_isMinute n 0 [some (vI x0)] [] M (qI Q)) : OkI G n mX11_isMinute [vI x0] M Q := Ok_of (by decide) (Nat.le_of_ble_eq_true rfl) rfl h
-- DownOnly orNotToday (I)I
set_option maxRecDepth 20000 in
set_option maxHeartbeats 1000000 in
theorem bX11_orNotToday_0 {G : Gx} {K : Kx} {n : Nat} {M : Mem} {Q : Int → Mem → Prop}  {x0 : Int}  (T : (x0 ≤ 1439 → Q x0 M) ∧ (¬ (x0 ≤ 1439) → Q (-2) M)) : CW G K mX11_orNotToday n 0 [some (vI x0)] [] M (qI Q) := by
  refine r_iload_n dX11_orNotToday_0 rfl ?_
  refine r_sipush dX11_orNotToday_1 (by decide) (by decide) ?_
  refine r_icmp_le (tgt := 12) dX11_orNotToday_4 (by decide) (fun h_1 => ?_) (fun h_1 => ?_)
  · have T := T.1 h_1
    refine r_iload_n dX11_orNotToday_12 rfl ?_
    exact r_ireturn dX11_orNotToday_13 rfl ⟨_, rfl, T⟩
  · have T := T.2 h_1
    refine r_bipush dX11_orNotToday_7 (by decide) (by decide) ?_
    refine r_goto (tgt := 13) dX11_orNotToday_9 (by decide) ?_
    exact r_ireturn dX11_orNotToday_13 rfl ⟨_, rfl, T⟩
theorem eX11_orNotToday {G : Gx} {n : Nat} {M : Mem} {Q : Int → Mem → Prop}  {x0 : Int} (h : ∀ K : Kx, CW G K mX11_orNotToday n 0 [some (vI x0)] [] M (qI Q)) : OkI G n mX11_orNotToday [vI x0] M Q := Ok_of (by decide) (Nat.le_of_ble_eq_true rfl) rfl h
-- DownOnly copyRow ([I[I)V
set_option maxRecDepth 20000 in
set_option maxHeartbeats 1000000 in
theorem bX11_copyRow_0 {G : Gx} {K : Kx} {n : Nat} {M : Mem} {Q : Mem → Prop} {oA : Nat} {oB : Nat} {kA : Nat} {kB : Nat} {NA : Int} {NB : Int}  (hkA : fK (oc oA) kA = 1) (hNA : ((aL (oc oA) kA : Nat) : Int) = NA) (hzA : 0 ≤ NA ∧ NA ≤ 2147483647) (hkB : fK (oc oB) kB = 1) (hNB : ((aL (oc oB) kB : Nat) : Int) = NB) (hzB : 0 ≤ NB ∧ NB ≤ 2147483647) (T : (0 ≤ (if NB < NA then NB else NA) ∧ (if NB < NA then NB else NA) ≤ NA ∧ (if NB < NA then NB else NA) ≤ NB) ∧ (∀ M1 : Mem, M1 = mcpy M oA kA oB kB (if NB < NA then NB else NA).toNat → Q M1)) : CW G K mX11_copyRow (n + 1) 0 [some (vA oA kA), some (vA oB kB)] [] M (qV Q) := by
  refine r_aload_n dX11_copyRow_0 rfl ?_
  refine r_iconst dX11_copyRow_1 (by decide) ?_
  refine r_aload_n dX11_copyRow_2 rfl ?_
  refine r_iconst dX11_copyRow_3 (by decide) ?_
  refine r_aload_n dX11_copyRow_4 rfl ?_
  refine s_alen dX11_copyRow_5 rfl (show isA (fK (oc oA) kA) = true by rw [hkA]; rfl) hNA hzA ?_
  refine r_aload_n dX11_copyRow_6 rfl ?_
  refine s_alen dX11_copyRow_7 rfl (show isA (fK (oc oB) kB) = true by rw [hkB]; rfl) hNB hzB ?_
  refine r_min dX11_copyRow_8 lX11_343 wmin2 wmath wmin4 (Nat.le_of_ble_eq_true rfl) ?_
  refine n_acopy dX11_copyRow_11 lX11_377 wac2 wac3 wac4 hkA hkB (Nat.le_of_ble_eq_true rfl) (by rw [hNA, hNB]; exact T.1) (fun M1 hM1 => ?_)
  have T := T.2 M1 hM1
  exact r_return dX11_copyRow_14 rfl ⟨rfl, T⟩
theorem eX11_copyRow {G : Gx} {n : Nat} {M : Mem} {Q : Mem → Prop} {kA : Nat} {kB : Nat} {oA : Nat} {oB : Nat}  (h : ∀ K : Kx, CW G K mX11_copyRow n 0 [some (vA oA kA), some (vA oB kB)] [] M (qV Q)) : OkV G n mX11_copyRow [vA oA kA, vA oB kB] M Q := Ok_of (by decide) (Nat.le_of_ble_eq_true rfl) rfl h
-- DownOnlyModel in (JJJ)Z
set_option maxRecDepth 20000 in
set_option maxHeartbeats 1000000 in
theorem bX12_in_0 {G : Gx} {K : Kx} {n : Nat} {M : Mem} {Q : Int → Mem → Prop}  {x0 : Int} {x2 : Int} {x4 : Int}  (T : (sg x0 x2 < 0 → Q 0 M) ∧ (¬ (sg x0 x2 < 0) → (0 < sg x0 x4 → Q 0 M) ∧ (¬ (0 < sg x0 x4) → Q 1 M))) : CW G K mX12_in n 0 [some (vL x0), none, some (vL x2), none, some (vL x4), none] [] M (qI Q) := by
  refine r_lload_n dX12_in_0 rfl ?_
  refine r_lload_n dX12_in_1 rfl ?_
  refine r_lcmp dX12_in_2 ?_
  refine r_if_lt (tgt := 17) dX12_in_3 (by decide) (fun h_2 => ?_) (fun h_2 => ?_)
  · have T := T.1 h_2
    refine r_iconst dX12_in_17 (by decide) ?_
    exact r_zreturn dX12_in_18 rfl (by decide) ⟨_, rfl, T⟩
  · have T := T.2 h_2
    refine r_lload_n dX12_in_6 rfl ?_
    refine r_lload dX12_in_7 rfl ?_
    refine r_lcmp dX12_in_9 ?_
    refine r_if_gt (tgt := 17) dX12_in_10 (by decide) (fun h_1 => ?_) (fun h_1 => ?_)
    · have T := T.1 h_1
      refine r_iconst dX12_in_17 (by decide) ?_
      exact r_zreturn dX12_in_18 rfl (by decide) ⟨_, rfl, T⟩
    · have T := T.2 h_1
      refine r_iconst dX12_in_13 (by decide) ?_
      refine r_goto (tgt := 18) dX12_in_14 (by decide) ?_
      exact r_zreturn dX12_in_18 rfl (by decide) ⟨_, rfl, T⟩
theorem eX12_in {G : Gx} {n : Nat} {M : Mem} {Q : Int → Mem → Prop}  {x0 : Int} {x2 : Int} {x4 : Int} (h : ∀ K : Kx, CW G K mX12_in n 0 [some (vL x0), none, some (vL x2), none, some (vL x4), none] [] M (qI Q)) : OkI G n mX12_in [vL x0, vL x2, vL x4] M Q := Ok_of (by decide) (Nat.le_of_ble_eq_true rfl) rfl h
-- DownOnlyModel isOf (II)Z
set_option maxRecDepth 20000 in
set_option maxHeartbeats 1000000 in
theorem bX12_isOf_0 {G : Gx} {K : Kx} {n : Nat} {M : Mem} {Q : Int → Mem → Prop}  {x0 : Int} {x1 : Int}  (T : (¬ bAnd (bShr x0 x1) 1 = 1 → Q 0 M) ∧ (bAnd (bShr x0 x1) 1 = 1 → Q 1 M)) : CW G K mX12_isOf n 0 [some (vI x0), some (vI x1)] [] M (qI Q) := by
  refine r_iload_n dX12_isOf_0 rfl ?_
  refine r_iload_n dX12_isOf_1 rfl ?_
  refine r_ishr dX12_isOf_2 ?_
  refine r_iconst dX12_isOf_3 (by decide) ?_
  refine r_iand dX12_isOf_4 ?_
  refine r_iconst dX12_isOf_5 (by decide) ?_
  refine r_icmp_ne (tgt := 13) dX12_isOf_6 (by decide) (fun h_1 => ?_) (fun h_1 => ?_)
  · have T := T.1 h_1
    refine r_iconst dX12_isOf_13 (by decide) ?_
    exact r_zreturn dX12_isOf_14 rfl (by decide) ⟨_, rfl, T⟩
  · have T := T.2 h_1
    refine r_iconst dX12_isOf_9 (by decide) ?_
    refine r_goto (tgt := 14) dX12_isOf_10 (by decide) ?_
    exact r_zreturn dX12_isOf_14 rfl (by decide) ⟨_, rfl, T⟩
theorem eX12_isOf {G : Gx} {n : Nat} {M : Mem} {Q : Int → Mem → Prop}  {x0 : Int} {x1 : Int} (h : ∀ K : Kx, CW G K mX12_isOf n 0 [some (vI x0), some (vI x1)] [] M (qI Q)) : OkI G n mX12_isOf [vI x0, vI x1] M Q := Ok_of (by decide) (Nat.le_of_ble_eq_true rfl) rfl h
-- DownOnlyModel later (II)I
set_option maxRecDepth 20000 in
set_option maxHeartbeats 1000000 in
theorem bX12_later_0 {G : Gx} {K : Kx} {n : Nat} {M : Mem} {Q : Int → Mem → Prop}  {x0 : Int} {x1 : Int}  (T : (x0 ≤ x1 → Q x1 M) ∧ (¬ (x0 ≤ x1) → Q x0 M)) : CW G K mX12_later n 0 [some (vI x0), some (vI x1)] [] M (qI Q) := by
  refine r_iload_n dX12_later_0 rfl ?_
  refine r_iload_n dX12_later_1 rfl ?_
  refine r_icmp_le (tgt := 9) dX12_later_2 (by decide) (fun h_1 => ?_) (fun h_1 => ?_)
  · have T := T.1 h_1
    refine r_iload_n dX12_later_9 rfl ?_
    exact r_ireturn dX12_later_10 rfl ⟨_, rfl, T⟩
  · have T := T.2 h_1
    refine r_iload_n dX12_later_5 rfl ?_
    refine r_goto (tgt := 10) dX12_later_6 (by decide) ?_
    exact r_ireturn dX12_later_10 rfl ⟨_, rfl, T⟩
theorem eX12_later {G : Gx} {n : Nat} {M : Mem} {Q : Int → Mem → Prop}  {x0 : Int} {x1 : Int} (h : ∀ K : Kx, CW G K mX12_later n 0 [some (vI x0), some (vI x1)] [] M (qI Q)) : OkI G n mX12_later [vI x0, vI x1] M Q := Ok_of (by decide) (Nat.le_of_ble_eq_true rfl) rfl h
-- DownOnlyModel four (I)V
set_option maxRecDepth 20000 in
set_option maxHeartbeats 1000000 in
theorem bX12_four_0 {G : Gx} {K : Kx} {n : Nat} {M : Mem} {Q : Mem → Prop}  {x1 : Int}  (T : CW G K mX12_four n 3 [some (vO 0), some (vI x1), some (vI 24)] [] M (qV Q)) : CW G K mX12_four n 0 [some (vO 0), some (vI x1), none] [] M (qV Q) := by
  refine r_bipush dX12_four_0 (by decide) (by decide) ?_
  refine r_istore_n dX12_four_2 (by decide) rfl ?_
  exact T
set_option maxRecDepth 20000 in
set_option maxHeartbeats 1000000 in
theorem bX12_four_3 {G : Gx} {K : Kx} {n : Nat} {M : Mem} {Q : Mem → Prop}  {x1 : Int} {x2 : Int}  (T : (x2 < 0 → Q M) ∧ (¬ (x2 < 0) → (0 ≤ M 0 1 0 ∧ M 0 1 0 < 400) ∧ (∀ M1 : Mem, M1 = mset M 0 0 (M 0 1 0).toNat (toB (toB (bShr x1 x2))) → ∀ M2 : Mem, M2 = mset M1 0 1 0 (wr (M1 0 1 0 + 1)) → CW G K mX12_four n 3 [some (vO 0), some (vI x1), some (vI (wr (x2 + (-8))))] [] M2 (qV Q)))) : CW G K mX12_four n 3 [some (vO 0), some (vI x1), some (vI x2)] [] M (qV Q) := by
  refine r_iload_n dX12_four_3 rfl ?_
  refine r_if_lt (tgt := 36) dX12_four_4 (by decide) (fun h_1 => ?_) (fun h_1 => ?_)
  · have T := T.1 h_1
    exact r_return dX12_four_36 rfl ⟨rfl, T⟩
  · have T := T.2 h_1
    refine r_aload_n dX12_four_7 rfl ?_
    refine r_getA dX12_four_8 fX12_7 rfl uX12_0 ?_
    refine r_aload_n dX12_four_11 rfl ?_
    refine r_getI dX12_four_12 fX12_109 rfl tX12_1 ?_
    refine r_iload_n dX12_four_15 rfl ?_
    refine r_iload_n dX12_four_16 rfl ?_
    refine r_ishr dX12_four_17 ?_
    refine r_i2b dX12_four_18 ?_
    refine n_bast dX12_four_19 rfl tX12_0 aX12_0 T.1 (fun M1 hM1 => ?_)
    have T := T.2 M1 hM1
    refine r_aload_n dX12_four_20 rfl ?_
    refine r_dup dX12_four_21 rfl ?_
    refine r_getI dX12_four_22 fX12_109 rfl tX12_1 ?_
    refine r_iconst dX12_four_25 (by decide) ?_
    refine r_iadd dX12_four_26 ?_
    refine n_put dX12_four_27 pX12_109 rfl tX12_1 (fun M2 hM2 => ?_)
    have T := T M2 hM2
    refine r_iinc dX12_four_30 rfl (by decide) rfl ?_
    refine r_goto (tgt := 3) dX12_four_33 (by decide) ?_
    exact T
theorem eX12_four {G : Gx} {n : Nat} {M : Mem} {Q : Mem → Prop}  {x1 : Int} (h : ∀ K : Kx, CW G K mX12_four n 0 [some (vO 0), some (vI x1), none] [] M (qV Q)) : OkV G n mX12_four [vO 0, vI x1] M Q := Ok_of (by decide) (Nat.le_of_ble_eq_true rfl) rfl h
-- DownOnlyModel feed (IIIII)I
set_option maxRecDepth 20000 in
set_option maxHeartbeats 1000000 in
theorem bX12_feed_0 {G : Gx} {K : Kx} {n : Nat} {M : Mem} {Q : Int → Mem → Prop}  {x1 : Int} {x2 : Int} {x3 : Int} {x4 : Int} {x5 : Int}  (T : (wr (M 0 1 0 + 20) ≤ 400 → OkV G n mX12_four [vO 0, vI x1] M (fun M1 => OkV G n mX12_four [vO 0, vI x2] M1 (fun M2 => OkV G n mX12_four [vO 0, vI x3] M2 (fun M3 => OkV G n mX12_four [vO 0, vI x4] M3 (fun M4 => OkV G n mX12_four [vO 0, vI x5] M4 (fun M5 => Q (M5 0 1 0) M5)))))) ∧ (¬ (wr (M 0 1 0 + 20) ≤ 400) → Q (-1) M)) : CW G K mX12_feed (n + 1) 0 [some (vO 0), some (vI x1), some (vI x2), some (vI x3), some (vI x4), some (vI x5)] [] M (qI Q) := by
  refine r_aload_n dX12_feed_0 rfl ?_
  refine r_getI dX12_feed_1 fX12_109 rfl tX12_1 ?_
  refine r_bipush dX12_feed_4 (by decide) (by decide) ?_
  refine r_iadd dX12_feed_6 ?_
  refine r_sipush dX12_feed_7 (by decide) (by decide) ?_
  refine r_icmp_le (tgt := 15) dX12_feed_10 (by decide) (fun h_1 => ?_) (fun h_1 => ?_)
  · have T := T.1 h_1
    refine r_aload_n dX12_feed_15 rfl ?_
    refine r_iload_n dX12_feed_16 rfl ?_
    refine r_callVV (md' := mX12_four) (as := [vI x1]) dX12_feed_17 lX12_113 iX12_four rfl rfl rfl (Nat.le_of_ble_eq_true rfl) T (fun M1 T => ?_)
    refine r_aload_n dX12_feed_20 rfl ?_
    refine r_iload_n dX12_feed_21 rfl ?_
    refine r_callVV (md' := mX12_four) (as := [vI x2]) dX12_feed_22 lX12_113 iX12_four rfl rfl rfl (Nat.le_of_ble_eq_true rfl) T (fun M2 T => ?_)
    refine r_aload_n dX12_feed_25 rfl ?_
    refine r_iload_n dX12_feed_26 rfl ?_
    refine r_callVV (md' := mX12_four) (as := [vI x3]) dX12_feed_27 lX12_113 iX12_four rfl rfl rfl (Nat.le_of_ble_eq_true rfl) T (fun M3 T => ?_)
    refine r_aload_n dX12_feed_30 rfl ?_
    refine r_iload dX12_feed_31 rfl ?_
    refine r_callVV (md' := mX12_four) (as := [vI x4]) dX12_feed_33 lX12_113 iX12_four rfl rfl rfl (Nat.le_of_ble_eq_true rfl) T (fun M4 T => ?_)
    refine r_aload_n dX12_feed_36 rfl ?_
    refine r_iload dX12_feed_37 rfl ?_
    refine r_callVV (md' := mX12_four) (as := [vI x5]) dX12_feed_39 lX12_113 iX12_four rfl rfl rfl (Nat.le_of_ble_eq_true rfl) T (fun M5 T => ?_)
    refine r_aload_n dX12_feed_42 rfl ?_
    refine r_getI dX12_feed_43 fX12_109 rfl tX12_1 ?_
    exact r_ireturn dX12_feed_46 rfl ⟨_, rfl, T⟩
  · have T := T.2 h_1
    refine r_iconst dX12_feed_13 (by decide) ?_
    exact r_ireturn dX12_feed_14 rfl ⟨_, rfl, T⟩
theorem eX12_feed {G : Gx} {n : Nat} {M : Mem} {Q : Int → Mem → Prop}  {x1 : Int} {x2 : Int} {x3 : Int} {x4 : Int} {x5 : Int} (h : ∀ K : Kx, CW G K mX12_feed n 0 [some (vO 0), some (vI x1), some (vI x2), some (vI x3), some (vI x4), some (vI x5)] [] M (qI Q)) : OkI G n mX12_feed [vO 0, vI x1, vI x2, vI x3, vI x4, vI x5] M Q := Ok_of (by decide) (Nat.le_of_ble_eq_true rfl) rfl h
-- DownOnlyModel end (I)I
set_option maxRecDepth 20000 in
set_option maxHeartbeats 1000000 in
theorem bX12_end_0 {G : Gx} {K : Kx} {n : Nat} {M : Mem} {Q : Int → Mem → Prop}  {x1 : Int}  (T : (x1 < 0 → Q (-1) M) ∧ (¬ (x1 < 0) → (x1 ≤ M 0 1 0 → ∀ M1 : Mem, M1 = mset M 0 1 0 x1 → Q x1 M1) ∧ (¬ (x1 ≤ M 0 1 0) → Q (-1) M))) : CW G K mX12_end n 0 [some (vO 0), some (vI x1)] [] M (qI Q) := by
  refine r_iload_n dX12_end_0 rfl ?_
  refine r_if_lt (tgt := 12) dX12_end_1 (by decide) (fun h_2 => ?_) (fun h_2 => ?_)
  · have T := T.1 h_2
    refine r_iconst dX12_end_12 (by decide) ?_
    exact r_ireturn dX12_end_13 rfl ⟨_, rfl, T⟩
  · have T := T.2 h_2
    refine r_iload_n dX12_end_4 rfl ?_
    refine r_aload_n dX12_end_5 rfl ?_
    refine r_getI dX12_end_6 fX12_109 rfl tX12_1 ?_
    refine r_icmp_le (tgt := 14) dX12_end_9 (by decide) (fun h_1 => ?_) (fun h_1 => ?_)
    · have T := T.1 h_1
      refine r_aload_n dX12_end_14 rfl ?_
      refine r_iload_n dX12_end_15 rfl ?_
      refine n_put dX12_end_16 pX12_109 rfl tX12_1 (fun M1 hM1 => ?_)
      have T := T M1 hM1
      refine r_iload_n dX12_end_19 rfl ?_
      exact r_ireturn dX12_end_20 rfl ⟨_, rfl, T⟩
    · have T := T.2 h_1
      refine r_iconst dX12_end_12 (by decide) ?_
      exact r_ireturn dX12_end_13 rfl ⟨_, rfl, T⟩
theorem eX12_end {G : Gx} {n : Nat} {M : Mem} {Q : Int → Mem → Prop}  {x1 : Int} (h : ∀ K : Kx, CW G K mX12_end n 0 [some (vO 0), some (vI x1)] [] M (qI Q)) : OkI G n mX12_end [vO 0, vI x1] M Q := Ok_of (by decide) (Nat.le_of_ble_eq_true rfl) rfl h
-- DownOnlyModel fails (II)Z
set_option maxRecDepth 20000 in
set_option maxHeartbeats 1000000 in
theorem bX12_fails_0 {G : Gx} {K : Kx} {n : Nat} {M : Mem} {Q : Int → Mem → Prop}  {x1 : Int} {x2 : Int}  (T : (¬ M 0 15 0 = 0 → Q 0 M) ∧ (M 0 15 0 = 0 → ∀ M1 : Mem, M1 = mset M 0 15 0 (wr (wr (1 + (wr (8 * x2))) + x1)) → Q 0 M1)) : CW G K mX12_fails n 0 [some (vO 0), some (vI x1), some (vI x2)] [] M (qI Q) := by
  refine r_aload_n dX12_fails_0 rfl ?_
  refine r_getI dX12_fails_1 fX12_117 rfl tX12_15 ?_
  refine r_if_ne (tgt := 19) dX12_fails_4 (by decide) (fun h_1 => ?_) (fun h_1 => ?_)
  · have T := T.1 h_1
    refine r_iconst dX12_fails_19 (by decide) ?_
    exact r_zreturn dX12_fails_20 rfl (by decide) ⟨_, rfl, T⟩
  · have T := T.2 h_1
    refine r_aload_n dX12_fails_7 rfl ?_
    refine r_iconst dX12_fails_8 (by decide) ?_
    refine r_bipush dX12_fails_9 (by decide) (by decide) ?_
    refine r_iload_n dX12_fails_11 rfl ?_
    refine r_imul dX12_fails_12 ?_
    refine r_iadd dX12_fails_13 ?_
    refine r_iload_n dX12_fails_14 rfl ?_
    refine r_iadd dX12_fails_15 ?_
    refine n_put dX12_fails_16 pX12_117 rfl tX12_15 (fun M1 hM1 => ?_)
    have T := T M1 hM1
    refine r_iconst dX12_fails_19 (by decide) ?_
    exact r_zreturn dX12_fails_20 rfl (by decide) ⟨_, rfl, T⟩
theorem eX12_fails {G : Gx} {n : Nat} {M : Mem} {Q : Int → Mem → Prop}  {x1 : Int} {x2 : Int} (h : ∀ K : Kx, CW G K mX12_fails n 0 [some (vO 0), some (vI x1), some (vI x2)] [] M (qI Q)) : OkI G n mX12_fails [vO 0, vI x1, vI x2] M Q := Ok_of (by decide) (Nat.le_of_ble_eq_true rfl) rfl h
-- DownOnlyModel see ()I
set_option maxRecDepth 20000 in
set_option maxHeartbeats 1000000 in
theorem bX12_see_0 {G : Gx} {K : Kx} {n : Nat} {M : Mem} {Q : Int → Mem → Prop}    (T : (M 0 1 0 ≤ M 0 14 0 → CW G K mX12_see n 38 [some (vO 0)] [] M (qI Q)) ∧ (¬ (M 0 1 0 ≤ M 0 14 0) → (0 ≤ M 0 14 0 ∧ M 0 14 0 < 400) ∧ ((¬ M 0 0 (M 0 14 0).toNat = 32 → CW G K mX12_see n 38 [some (vO 0)] [] M (qI Q)) ∧ (M 0 0 (M 0 14 0).toNat = 32 → ∀ M1 : Mem, M1 = mset M 0 14 0 (wr (M 0 14 0 + 1)) → CW G K mX12_see n 0 [some (vO 0)] [] M1 (qI Q))))) : CW G K mX12_see n 0 [some (vO 0)] [] M (qI Q) := by
  refine r_aload_n dX12_see_0 rfl ?_
  refine r_getI dX12_see_1 fX12_120 rfl tX12_14 ?_
  refine r_aload_n dX12_see_4 rfl ?_
  refine r_getI dX12_see_5 fX12_109 rfl tX12_1 ?_
  refine r_icmp_ge (tgt := 38) dX12_see_8 (by decide) (fun h_2 => ?_) (fun h_2 => ?_)
  · have T := T.1 h_2
    exact T
  · have T := T.2 h_2
    refine r_aload_n dX12_see_11 rfl ?_
    refine r_getA dX12_see_12 fX12_7 rfl uX12_0 ?_
    refine r_aload_n dX12_see_15 rfl ?_
    refine r_getI dX12_see_16 fX12_120 rfl tX12_14 ?_
    refine s_bald dX12_see_19 rfl (Or.inl tX12_0) aX12_0 T.1 ?_
    have T := T.2
    refine r_bipush dX12_see_20 (by decide) (by decide) ?_
    refine r_icmp_ne (tgt := 38) dX12_see_22 (by decide) (fun h_1 => ?_) (fun h_1 => ?_)
    · have T := T.1 h_1
      exact T
    · have T := T.2 h_1
      refine r_aload_n dX12_see_25 rfl ?_
      refine r_dup dX12_see_26 rfl ?_
      refine r_getI dX12_see_27 fX12_120 rfl tX12_14 ?_
      refine r_iconst dX12_see_30 (by decide) ?_
      refine r_iadd dX12_see_31 ?_
      refine n_put dX12_see_32 pX12_120 rfl tX12_14 (fun M1 hM1 => ?_)
      have T := T M1 hM1
      refine r_goto (tgt := 0) dX12_see_35 (by decide) ?_
      exact T
set_option maxRecDepth 20000 in
set_option maxHeartbeats 1000000 in
theorem bX12_see_38 {G : Gx} {K : Kx} {n : Nat} {M : Mem} {Q : Int → Mem → Prop}    (T : (M 0 1 0 ≤ M 0 14 0 → Q (-1) M) ∧ (¬ (M 0 1 0 ≤ M 0 14 0) → (0 ≤ M 0 14 0 ∧ M 0 14 0 < 400) ∧ (Q (bAnd (M 0 0 (M 0 14 0).toNat) 255) M))) : CW G K mX12_see n 38 [some (vO 0)] [] M (qI Q) := by
  refine r_aload_n dX12_see_38 rfl ?_
  refine r_getI dX12_see_39 fX12_120 rfl tX12_14 ?_
  refine r_aload_n dX12_see_42 rfl ?_
  refine r_getI dX12_see_43 fX12_109 rfl tX12_1 ?_
  refine r_icmp_ge (tgt := 65) dX12_see_46 (by decide) (fun h_1 => ?_) (fun h_1 => ?_)
  · have T := T.1 h_1
    refine r_iconst dX12_see_65 (by decide) ?_
    exact r_ireturn dX12_see_66 rfl ⟨_, rfl, T⟩
  · have T := T.2 h_1
    refine r_aload_n dX12_see_49 rfl ?_
    refine r_getA dX12_see_50 fX12_7 rfl uX12_0 ?_
    refine r_aload_n dX12_see_53 rfl ?_
    refine r_getI dX12_see_54 fX12_120 rfl tX12_14 ?_
    refine s_bald dX12_see_57 rfl (Or.inl tX12_0) aX12_0 T.1 ?_
    have T := T.2
    refine r_sipush dX12_see_58 (by decide) (by decide) ?_
    refine r_iand dX12_see_61 ?_
    refine r_goto (tgt := 66) dX12_see_62 (by decide) ?_
    exact r_ireturn dX12_see_66 rfl ⟨_, rfl, T⟩
theorem eX12_see {G : Gx} {n : Nat} {M : Mem} {Q : Int → Mem → Prop}   (h : ∀ K : Kx, CW G K mX12_see n 0 [some (vO 0)] [] M (qI Q)) : OkI G n mX12_see [vO 0] M Q := Ok_of (by decide) (Nat.le_of_ble_eq_true rfl) rfl h
-- DownOnlyModel isDigit (I)Z
set_option maxRecDepth 20000 in
set_option maxHeartbeats 1000000 in
theorem bX12_isDigit_0 {G : Gx} {K : Kx} {n : Nat} {M : Mem} {Q : Int → Mem → Prop}  {x1 : Int}  (T : (M 0 1 0 ≤ x1 → Q 0 M) ∧ (¬ (M 0 1 0 ≤ x1) → (0 ≤ x1 ∧ x1 < 400) ∧ ((M 0 0 x1.toNat < 48 → Q 0 M) ∧ (¬ (M 0 0 x1.toNat < 48) → (0 ≤ x1 ∧ x1 < 400) ∧ ((57 < M 0 0 x1.toNat → Q 0 M) ∧ (¬ (57 < M 0 0 x1.toNat) → Q 1 M)))))) : CW G K mX12_isDigit n 0 [some (vO 0), some (vI x1)] [] M (qI Q) := by
  refine r_iload_n dX12_isDigit_0 rfl ?_
  refine r_aload_n dX12_isDigit_1 rfl ?_
  refine r_getI dX12_isDigit_2 fX12_109 rfl tX12_1 ?_
  refine r_icmp_ge (tgt := 34) dX12_isDigit_5 (by decide) (fun h_3 => ?_) (fun h_3 => ?_)
  · have T := T.1 h_3
    refine r_iconst dX12_isDigit_34 (by decide) ?_
    exact r_zreturn dX12_isDigit_35 rfl (by decide) ⟨_, rfl, T⟩
  · have T := T.2 h_3
    refine r_aload_n dX12_isDigit_8 rfl ?_
    refine r_getA dX12_isDigit_9 fX12_7 rfl uX12_0 ?_
    refine r_iload_n dX12_isDigit_12 rfl ?_
    refine s_bald dX12_isDigit_13 rfl (Or.inl tX12_0) aX12_0 T.1 ?_
    have T := T.2
    refine r_bipush dX12_isDigit_14 (by decide) (by decide) ?_
    refine r_icmp_lt (tgt := 34) dX12_isDigit_16 (by decide) (fun h_2 => ?_) (fun h_2 => ?_)
    · have T := T.1 h_2
      refine r_iconst dX12_isDigit_34 (by decide) ?_
      exact r_zreturn dX12_isDigit_35 rfl (by decide) ⟨_, rfl, T⟩
    · have T := T.2 h_2
      refine r_aload_n dX12_isDigit_19 rfl ?_
      refine r_getA dX12_isDigit_20 fX12_7 rfl uX12_0 ?_
      refine r_iload_n dX12_isDigit_23 rfl ?_
      refine s_bald dX12_isDigit_24 rfl (Or.inl tX12_0) aX12_0 T.1 ?_
      have T := T.2
      refine r_bipush dX12_isDigit_25 (by decide) (by decide) ?_
      refine r_icmp_gt (tgt := 34) dX12_isDigit_27 (by decide) (fun h_1 => ?_) (fun h_1 => ?_)
      · have T := T.1 h_1
        refine r_iconst dX12_isDigit_34 (by decide) ?_
        exact r_zreturn dX12_isDigit_35 rfl (by decide) ⟨_, rfl, T⟩
      · have T := T.2 h_1
        refine r_iconst dX12_isDigit_30 (by decide) ?_
        refine r_goto (tgt := 35) dX12_isDigit_31 (by decide) ?_
        exact r_zreturn dX12_isDigit_35 rfl (by decide) ⟨_, rfl, T⟩
theorem eX12_isDigit {G : Gx} {n : Nat} {M : Mem} {Q : Int → Mem → Prop}  {x1 : Int} (h : ∀ K : Kx, CW G K mX12_isDigit n 0 [some (vO 0), some (vI x1)] [] M (qI Q)) : OkI G n mX12_isDigit [vO 0, vI x1] M Q := Ok_of (by decide) (Nat.le_of_ble_eq_true rfl) rfl h
-- DownOnlyModel isLetter (I)Z
set_option maxRecDepth 20000 in
set_option maxHeartbeats 1000000 in
theorem bX12_isLetter_0 {G : Gx} {K : Kx} {n : Nat} {M : Mem} {Q : Int → Mem → Prop}  {x1 : Int}  (T : (M 0 1 0 ≤ x1 → Q 0 M) ∧ (¬ (M 0 1 0 ≤ x1) → (0 ≤ x1 ∧ x1 < 400) ∧ ((M 0 0 x1.toNat < 97 → Q 0 M) ∧ (¬ (M 0 0 x1.toNat < 97) → (0 ≤ x1 ∧ x1 < 400) ∧ ((122 < M 0 0 x1.toNat → Q 0 M) ∧ (¬ (122 < M 0 0 x1.toNat) → Q 1 M)))))) : CW G K mX12_isLetter n 0 [some (vO 0), some (vI x1)] [] M (qI Q) := by
  refine r_iload_n dX12_isLetter_0 rfl ?_
  refine r_aload_n dX12_isLetter_1 rfl ?_
  refine r_getI dX12_isLetter_2 fX12_109 rfl tX12_1 ?_
  refine r_icmp_ge (tgt := 34) dX12_isLetter_5 (by decide) (fun h_3 => ?_) (fun h_3 => ?_)
  · have T := T.1 h_3
    refine r_iconst dX12_isLetter_34 (by decide) ?_
    exact r_zreturn dX12_isLetter_35 rfl (by decide) ⟨_, rfl, T⟩
  · have T := T.2 h_3
    refine r_aload_n dX12_isLetter_8 rfl ?_
    refine r_getA dX12_isLetter_9 fX12_7 rfl uX12_0 ?_
    refine r_iload_n dX12_isLetter_12 rfl ?_
    refine s_bald dX12_isLetter_13 rfl (Or.inl tX12_0) aX12_0 T.1 ?_
    have T := T.2
    refine r_bipush dX12_isLetter_14 (by decide) (by decide) ?_
    refine r_icmp_lt (tgt := 34) dX12_isLetter_16 (by decide) (fun h_2 => ?_) (fun h_2 => ?_)
    · have T := T.1 h_2
      refine r_iconst dX12_isLetter_34 (by decide) ?_
      exact r_zreturn dX12_isLetter_35 rfl (by decide) ⟨_, rfl, T⟩
    · have T := T.2 h_2
      refine r_aload_n dX12_isLetter_19 rfl ?_
      refine r_getA dX12_isLetter_20 fX12_7 rfl uX12_0 ?_
      refine r_iload_n dX12_isLetter_23 rfl ?_
      refine s_bald dX12_isLetter_24 rfl (Or.inl tX12_0) aX12_0 T.1 ?_
      have T := T.2
      refine r_bipush dX12_isLetter_25 (by decide) (by decide) ?_
      refine r_icmp_gt (tgt := 34) dX12_isLetter_27 (by decide) (fun h_1 => ?_) (fun h_1 => ?_)
      · have T := T.1 h_1
        refine r_iconst dX12_isLetter_34 (by decide) ?_
        exact r_zreturn dX12_isLetter_35 rfl (by decide) ⟨_, rfl, T⟩
      · have T := T.2 h_1
        refine r_iconst dX12_isLetter_30 (by decide) ?_
        refine r_goto (tgt := 35) dX12_isLetter_31 (by decide) ?_
        exact r_zreturn dX12_isLetter_35 rfl (by decide) ⟨_, rfl, T⟩
theorem eX12_isLetter {G : Gx} {n : Nat} {M : Mem} {Q : Int → Mem → Prop}  {x1 : Int} (h : ∀ K : Kx, CW G K mX12_isLetter n 0 [some (vO 0), some (vI x1)] [] M (qI Q)) : OkI G n mX12_isLetter [vO 0, vI x1] M Q := Ok_of (by decide) (Nat.le_of_ble_eq_true rfl) rfl h
-- DownOnlyModel isWord (J)Z
set_option maxRecDepth 20000 in
set_option maxHeartbeats 1000000 in
theorem bX12_isWord_0 {G : Gx} {K : Kx} {n : Nat} {M : Mem} {Q : Int → Mem → Prop}  {x1 : Int}  (T : OkI G n mX12_see [vO 0] M (fun r_1 M1 => CW G K mX12_isWord (n + 1) 10 [some (vO 0), some (vL x1), none, some (vL 0), none, some (vI 0)] [] M1 (qI Q))) : CW G K mX12_isWord (n + 1) 0 [some (vO 0), some (vL x1), none, none, none, none] [] M (qI Q) := by
  refine r_aload_n dX12_isWord_0 rfl ?_
  refine r_callVI (md' := mX12_see) (as := []) dX12_isWord_1 lX12_123 iX12_see rfl rfl rfl (Nat.le_of_ble_eq_true rfl) T (fun r_1 M1 T => ?_)
  refine r_pop dX12_isWord_4 rfl ?_
  refine r_lconst (z := 0) dX12_isWord_5 (by decide) (by decide) ?_
  refine r_lstore_n dX12_isWord_6 (by decide) rfl ?_
  refine r_iconst dX12_isWord_7 (by decide) ?_
  refine r_istore dX12_isWord_8 (by decide) rfl ?_
  exact T
set_option maxRecDepth 20000 in
set_option maxHeartbeats 1000000 in
theorem bX12_isWord_10 {G : Gx} {K : Kx} {n : Nat} {M : Mem} {Q : Int → Mem → Prop}  {x1 : Int} {x3 : Int} {x5 : Int}  (T : OkI G n mX12_isLetter [vO 0, vI (wr (M 0 14 0 + x5))] M (fun r_1 M1 => (r_1 = 0 → (x5 ≤ 0 → Q 0 M1) ∧ (¬ (x5 ≤ 0) → (8 ≤ x5 → Q 0 M1) ∧ (¬ (8 ≤ x5) → (¬ sg x3 x1 = 0 → Q 0 M1) ∧ (sg x3 x1 = 0 → Q 1 M1)))) ∧ (¬ (r_1 = 0) → (8 ≤ x5 → CW G K mX12_isWord (n + 1) 10 [some (vO 0), some (vL x1), none, some (vL x3), none, some (vI (wr (x5 + 1)))] [] M1 (qI Q)) ∧ (¬ (8 ≤ x5) → (0 ≤ wr (M1 0 14 0 + x5) ∧ wr (M1 0 14 0 + x5) < 400) ∧ (CW G K mX12_isWord (n + 1) 10 [some (vO 0), some (vL x1), none, some (vL (lOr (lShl x3 8) (M1 0 0 (wr (M1 0 14 0 + x5)).toNat))), none, some (vI (wr (x5 + 1)))] [] M1 (qI Q)))))) : CW G K mX12_isWord (n + 1) 10 [some (vO 0), some (vL x1), none, some (vL x3), none, some (vI x5)] [] M (qI Q) := by
  refine r_aload_n dX12_isWord_10 rfl ?_
  refine r_aload_n dX12_isWord_11 rfl ?_
  refine r_getI dX12_isWord_12 fX12_120 rfl tX12_14 ?_
  refine r_iload dX12_isWord_15 rfl ?_
  refine r_iadd dX12_isWord_17 ?_
  refine r_callVI (md' := mX12_isLetter) (as := [vI (wr (M 0 14 0 + x5))]) dX12_isWord_18 lX12_127 iX12_isLetter rfl rfl rfl (Nat.le_of_ble_eq_true rfl) T (fun r_1 M1 T => ?_)
  refine r_if_eq (tgt := 56) dX12_isWord_21 (by decide) (fun h_5 => ?_) (fun h_5 => ?_)
  · have T := T.1 h_5
    refine r_iload dX12_isWord_56 rfl ?_
    refine r_if_le (tgt := 78) dX12_isWord_58 (by decide) (fun h_3 => ?_) (fun h_3 => ?_)
    · have T := T.1 h_3
      refine r_iconst dX12_isWord_78 (by decide) ?_
      exact r_zreturn dX12_isWord_79 rfl (by decide) ⟨_, rfl, T⟩
    · have T := T.2 h_3
      refine r_iload dX12_isWord_61 rfl ?_
      refine r_bipush dX12_isWord_63 (by decide) (by decide) ?_
      refine r_icmp_ge (tgt := 78) dX12_isWord_65 (by decide) (fun h_2 => ?_) (fun h_2 => ?_)
      · have T := T.1 h_2
        refine r_iconst dX12_isWord_78 (by decide) ?_
        exact r_zreturn dX12_isWord_79 rfl (by decide) ⟨_, rfl, T⟩
      · have T := T.2 h_2
        refine r_lload_n dX12_isWord_68 rfl ?_
        refine r_lload_n dX12_isWord_69 rfl ?_
        refine r_lcmp dX12_isWord_70 ?_
        refine r_if_ne (tgt := 78) dX12_isWord_71 (by decide) (fun h_1 => ?_) (fun h_1 => ?_)
        · have T := T.1 h_1
          refine r_iconst dX12_isWord_78 (by decide) ?_
          exact r_zreturn dX12_isWord_79 rfl (by decide) ⟨_, rfl, T⟩
        · have T := T.2 h_1
          refine r_iconst dX12_isWord_74 (by decide) ?_
          refine r_goto (tgt := 79) dX12_isWord_75 (by decide) ?_
          exact r_zreturn dX12_isWord_79 rfl (by decide) ⟨_, rfl, T⟩
  · have T := T.2 h_5
    refine r_iload dX12_isWord_24 rfl ?_
    refine r_bipush dX12_isWord_26 (by decide) (by decide) ?_
    refine r_icmp_ge (tgt := 50) dX12_isWord_28 (by decide) (fun h_4 => ?_) (fun h_4 => ?_)
    · have T := T.1 h_4
      refine r_iinc dX12_isWord_50 rfl (by decide) rfl ?_
      refine r_goto (tgt := 10) dX12_isWord_53 (by decide) ?_
      exact T
    · have T := T.2 h_4
      refine r_lload_n dX12_isWord_31 rfl ?_
      refine r_bipush dX12_isWord_32 (by decide) (by decide) ?_
      refine r_lshl dX12_isWord_34 ?_
      refine r_aload_n dX12_isWord_35 rfl ?_
      refine r_getA dX12_isWord_36 fX12_7 rfl uX12_0 ?_
      refine r_aload_n dX12_isWord_39 rfl ?_
      refine r_getI dX12_isWord_40 fX12_120 rfl tX12_14 ?_
      refine r_iload dX12_isWord_43 rfl ?_
      refine r_iadd dX12_isWord_45 ?_
      refine s_bald dX12_isWord_46 rfl (Or.inl tX12_0) aX12_0 T.1 ?_
      have T := T.2
      refine r_i2l dX12_isWord_47 ?_
      refine r_lor dX12_isWord_48 ?_
      refine r_lstore_n dX12_isWord_49 (by decide) rfl ?_
      refine r_iinc dX12_isWord_50 rfl (by decide) rfl ?_
      refine r_goto (tgt := 10) dX12_isWord_53 (by decide) ?_
      exact T
theorem eX12_isWord {G : Gx} {n : Nat} {M : Mem} {Q : Int → Mem → Prop}  {x1 : Int} (h : ∀ K : Kx, CW G K mX12_isWord n 0 [some (vO 0), some (vL x1), none, none, none, none] [] M (qI Q)) : OkI G n mX12_isWord [vO 0, vL x1] M Q := Ok_of (by decide) (Nat.le_of_ble_eq_true rfl) rfl h
-- DownOnlyModel passWord ()V
set_option maxRecDepth 20000 in
set_option maxHeartbeats 1000000 in
theorem bX12_passWord_0 {G : Gx} {K : Kx} {n : Nat} {M : Mem} {Q : Mem → Prop}    (T : OkI G n mX12_isLetter [vO 0, vI (M 0 14 0)] M (fun r_1 M1 => (r_1 = 0 → Q M1) ∧ (¬ (r_1 = 0) → ∀ M2 : Mem, M2 = mset M1 0 14 0 (wr (M1 0 14 0 + 1)) → CW G K mX12_passWord (n + 1) 0 [some (vO 0)] [] M2 (qV Q)))) : CW G K mX12_passWord (n + 1) 0 [some (vO 0)] [] M (qV Q) := by
  refine r_aload_n dX12_passWord_0 rfl ?_
  refine r_aload_n dX12_passWord_1 rfl ?_
  refine r_getI dX12_passWord_2 fX12_120 rfl tX12_14 ?_
  refine r_callVI (md' := mX12_isLetter) (as := [vI (M 0 14 0)]) dX12_passWord_5 lX12_127 iX12_isLetter rfl rfl rfl (Nat.le_of_ble_eq_true rfl) T (fun r_1 M1 T => ?_)
  refine r_if_eq (tgt := 24) dX12_passWord_8 (by decide) (fun h_1 => ?_) (fun h_1 => ?_)
  · have T := T.1 h_1
    exact r_return dX12_passWord_24 rfl ⟨rfl, T⟩
  · have T := T.2 h_1
    refine r_aload_n dX12_passWord_11 rfl ?_
    refine r_dup dX12_passWord_12 rfl ?_
    refine r_getI dX12_passWord_13 fX12_120 rfl tX12_14 ?_
    refine r_iconst dX12_passWord_16 (by decide) ?_
    refine r_iadd dX12_passWord_17 ?_
    refine n_put dX12_passWord_18 pX12_120 rfl tX12_14 (fun M2 hM2 => ?_)
    have T := T M2 hM2
    refine r_goto (tgt := 0) dX12_passWord_21 (by decide) ?_
    exact T
theorem eX12_passWord {G : Gx} {n : Nat} {M : Mem} {Q : Mem → Prop}   (h : ∀ K : Kx, CW G K mX12_passWord n 0 [some (vO 0)] [] M (qV Q)) : OkV G n mX12_passWord [vO 0] M Q := Ok_of (by decide) (Nat.le_of_ble_eq_true rfl) rfl h
-- DownOnlyModel takesWord (J)Z
set_option maxRecDepth 20000 in
set_option maxHeartbeats 1000000 in
theorem bX12_takesWord_0 {G : Gx} {K : Kx} {n : Nat} {M : Mem} {Q : Int → Mem → Prop}  {x1 : Int}  (T : OkI G n mX12_isWord [vO 0, vL x1] M (fun r_1 M1 => (¬ r_1 = 0 → OkV G n mX12_passWord [vO 0] M1 (fun M2 => Q 1 M2)) ∧ (r_1 = 0 → Q 0 M1))) : CW G K mX12_takesWord (n + 1) 0 [some (vO 0), some (vL x1), none] [] M (qI Q) := by
  refine r_aload_n dX12_takesWord_0 rfl ?_
  refine r_lload_n dX12_takesWord_1 rfl ?_
  refine r_callVI (md' := mX12_isWord) (as := [vL x1]) dX12_takesWord_2 lX12_131 iX12_isWord rfl rfl rfl (Nat.le_of_ble_eq_true rfl) T (fun r_1 M1 T => ?_)
  refine r_if_ne (tgt := 10) dX12_takesWord_5 (by decide) (fun h_1 => ?_) (fun h_1 => ?_)
  · have T := T.1 h_1
    refine r_aload_n dX12_takesWord_10 rfl ?_
    refine r_callVV (md' := mX12_passWord) (as := []) dX12_takesWord_11 lX12_135 iX12_passWord rfl rfl rfl (Nat.le_of_ble_eq_true rfl) T (fun M2 T => ?_)
    refine r_iconst dX12_takesWord_14 (by decide) ?_
    exact r_zreturn dX12_takesWord_15 rfl (by decide) ⟨_, rfl, T⟩
  · have T := T.2 h_1
    refine r_iconst dX12_takesWord_8 (by decide) ?_
    exact r_zreturn dX12_takesWord_9 rfl (by decide) ⟨_, rfl, T⟩
theorem eX12_takesWord {G : Gx} {n : Nat} {M : Mem} {Q : Int → Mem → Prop}  {x1 : Int} (h : ∀ K : Kx, CW G K mX12_takesWord n 0 [some (vO 0), some (vL x1), none] [] M (qI Q)) : OkI G n mX12_takesWord [vO 0, vL x1] M Q := Ok_of (by decide) (Nat.le_of_ble_eq_true rfl) rfl h
-- DownOnlyModel numberHere (II)Z
set_option maxRecDepth 20000 in
set_option maxHeartbeats 1000000 in
theorem bX12_numberHere_0 {G : Gx} {K : Kx} {n : Nat} {M : Mem} {Q : Int → Mem → Prop}  {x1 : Int} {x2 : Int}  (T : OkI G n mX12_see [vO 0] M (fun r_1 M1 => OkI G n mX12_isDigit [vO 0, vI (M1 0 14 0)] M1 (fun r_2 M2 => (¬ r_2 = 0 → CW G K mX12_numberHere (n + 1) 34 [some (vO 0), some (vI x1), some (vI x2), some (vI (M2 0 14 0)), some (vI 0)] [] M2 (qI Q)) ∧ (r_2 = 0 → OkI G n mX12_fails [vO 0, vI 0, vI (M2 0 14 0)] M2 (fun r_3 M3 => (r_3 = 0 ∨ r_3 = 1) ∧ Q r_3 M3))))) : CW G K mX12_numberHere (n + 1) 0 [some (vO 0), some (vI x1), some (vI x2), none, none] [] M (qI Q) := by
  refine r_aload_n dX12_numberHere_0 rfl ?_
  refine r_callVI (md' := mX12_see) (as := []) dX12_numberHere_1 lX12_123 iX12_see rfl rfl rfl (Nat.le_of_ble_eq_true rfl) T (fun r_1 M1 T => ?_)
  refine r_pop dX12_numberHere_4 rfl ?_
  refine r_aload_n dX12_numberHere_5 rfl ?_
  refine r_aload_n dX12_numberHere_6 rfl ?_
  refine r_getI dX12_numberHere_7 fX12_120 rfl tX12_14 ?_
  refine r_callVI (md' := mX12_isDigit) (as := [vI (M1 0 14 0)]) dX12_numberHere_10 lX12_138 iX12_isDigit rfl rfl rfl (Nat.le_of_ble_eq_true rfl) T (fun r_2 M2 T => ?_)
  refine r_if_ne (tgt := 26) dX12_numberHere_13 (by decide) (fun h_1 => ?_) (fun h_1 => ?_)
  · have T := T.1 h_1
    refine r_aload_n dX12_numberHere_26 rfl ?_
    refine r_getI dX12_numberHere_27 fX12_120 rfl tX12_14 ?_
    refine r_istore_n dX12_numberHere_30 (by decide) rfl ?_
    refine r_iconst dX12_numberHere_31 (by decide) ?_
    refine r_istore dX12_numberHere_32 (by decide) rfl ?_
    exact T
  · have T := T.2 h_1
    refine r_aload_n dX12_numberHere_16 rfl ?_
    refine r_iconst dX12_numberHere_17 (by decide) ?_
    refine r_aload_n dX12_numberHere_18 rfl ?_
    refine r_getI dX12_numberHere_19 fX12_120 rfl tX12_14 ?_
    refine r_callVI (md' := mX12_fails) (as := [vI 0, vI (M2 0 14 0)]) dX12_numberHere_22 lX12_141 iX12_fails rfl rfl rfl (Nat.le_of_ble_eq_true rfl) T (fun r_3 M3 T => ?_)
    exact r_zreturn dX12_numberHere_25 rfl T.1 ⟨_, rfl, T.2⟩
set_option maxRecDepth 20000 in
set_option maxHeartbeats 1000000 in
theorem bX12_numberHere_34 {G : Gx} {K : Kx} {n : Nat} {M : Mem} {Q : Int → Mem → Prop}  {x1 : Int} {x2 : Int} {x3 : Int} {x4 : Int}  (T : OkI G n mX12_isDigit [vO 0, vI (M 0 14 0)] M (fun r_1 M1 => (r_1 = 0 → ∀ M2 : Mem, M2 = mset M1 0 16 0 x4 → (5 < wr (M2 0 14 0 - x3) → OkI G n mX12_fails [vO 0, vI 1, vI x3] M2 (fun r_2 M3 => (r_2 = 0 → Q 0 M3) ∧ (¬ (r_2 = 0) → Q 1 M3))) ∧ (¬ (5 < wr (M2 0 14 0 - x3)) → OkI G n mX12_in [vL x4, vL x1, vL x2] M2 (fun r_3 M4 => (¬ r_3 = 0 → Q 1 M4) ∧ (r_3 = 0 → OkI G n mX12_fails [vO 0, vI 1, vI x3] M4 (fun r_4 M5 => (r_4 = 0 → Q 0 M5) ∧ (¬ (r_4 = 0) → Q 1 M5)))))) ∧ (¬ (r_1 = 0) → (5 ≤ wr (M1 0 14 0 - x3) → ∀ M6 : Mem, M6 = mset M1 0 14 0 (wr (M1 0 14 0 + 1)) → CW G K mX12_numberHere (n + 1) 34 [some (vO 0), some (vI x1), some (vI x2), some (vI x3), some (vI x4)] [] M6 (qI Q)) ∧ (¬ (5 ≤ wr (M1 0 14 0 - x3)) → (0 ≤ M1 0 14 0 ∧ M1 0 14 0 < 400) ∧ (∀ M7 : Mem, M7 = mset M1 0 14 0 (wr (M1 0 14 0 + 1)) → CW G K mX12_numberHere (n + 1) 34 [some (vO 0), some (vI x1), some (vI x2), some (vI x3), some (vI (wr (wr (wr (10 * x4) + (M1 0 0 (M1 0 14 0).toNat)) - 48)))] [] M7 (qI Q)))))) : CW G K mX12_numberHere (n + 1) 34 [some (vO 0), some (vI x1), some (vI x2), some (vI x3), some (vI x4)] [] M (qI Q) := by
  refine r_aload_n dX12_numberHere_34 rfl ?_
  refine r_aload_n dX12_numberHere_35 rfl ?_
  refine r_getI dX12_numberHere_36 fX12_120 rfl tX12_14 ?_
  refine r_callVI (md' := mX12_isDigit) (as := [vI (M 0 14 0)]) dX12_numberHere_39 lX12_138 iX12_isDigit rfl rfl rfl (Nat.le_of_ble_eq_true rfl) T (fun r_1 M1 T => ?_)
  refine r_if_eq (tgt := 88) dX12_numberHere_42 (by decide) (fun h_6 => ?_) (fun h_6 => ?_)
  · have T := T.1 h_6
    refine r_aload_n dX12_numberHere_88 rfl ?_
    refine r_iload dX12_numberHere_89 rfl ?_
    refine n_put dX12_numberHere_91 pX12_145 rfl tX12_16 (fun M2 hM2 => ?_)
    have T := T M2 hM2
    refine r_aload_n dX12_numberHere_94 rfl ?_
    refine r_getI dX12_numberHere_95 fX12_120 rfl tX12_14 ?_
    refine r_iload_n dX12_numberHere_98 rfl ?_
    refine r_isub dX12_numberHere_99 ?_
    refine r_iconst dX12_numberHere_100 (by decide) ?_
    refine r_icmp_gt (tgt := 117) dX12_numberHere_101 (by decide) (fun h_4 => ?_) (fun h_4 => ?_)
    · have T := T.1 h_4
      refine r_aload_n dX12_numberHere_117 rfl ?_
      refine r_iconst dX12_numberHere_118 (by decide) ?_
      refine r_iload_n dX12_numberHere_119 rfl ?_
      refine r_callVI (md' := mX12_fails) (as := [vI 1, vI x3]) dX12_numberHere_120 lX12_141 iX12_fails rfl rfl rfl (Nat.le_of_ble_eq_true rfl) T (fun r_2 M3 T => ?_)
      refine r_if_eq (tgt := 130) dX12_numberHere_123 (by decide) (fun h_1 => ?_) (fun h_1 => ?_)
      · have T := T.1 h_1
        refine r_iconst dX12_numberHere_130 (by decide) ?_
        exact r_zreturn dX12_numberHere_131 rfl (by decide) ⟨_, rfl, T⟩
      · have T := T.2 h_1
        refine r_iconst dX12_numberHere_126 (by decide) ?_
        refine r_goto (tgt := 131) dX12_numberHere_127 (by decide) ?_
        exact r_zreturn dX12_numberHere_131 rfl (by decide) ⟨_, rfl, T⟩
    · have T := T.2 h_4
      refine r_iload dX12_numberHere_104 rfl ?_
      refine r_i2l dX12_numberHere_106 ?_
      refine r_iload_n dX12_numberHere_107 rfl ?_
      refine r_i2l dX12_numberHere_108 ?_
      refine r_iload_n dX12_numberHere_109 rfl ?_
      refine r_i2l dX12_numberHere_110 ?_
      refine r_callSI (md' := mX12_in) (as := [vL x4, vL x1, vL x2]) dX12_numberHere_111 lX12_148 iX12_in rfl rfl (Nat.le_of_ble_eq_true rfl) T (fun r_3 M4 T => ?_)
      refine r_if_ne (tgt := 126) dX12_numberHere_114 (by decide) (fun h_3 => ?_) (fun h_3 => ?_)
      · have T := T.1 h_3
        refine r_iconst dX12_numberHere_126 (by decide) ?_
        refine r_goto (tgt := 131) dX12_numberHere_127 (by decide) ?_
        exact r_zreturn dX12_numberHere_131 rfl (by decide) ⟨_, rfl, T⟩
      · have T := T.2 h_3
        refine r_aload_n dX12_numberHere_117 rfl ?_
        refine r_iconst dX12_numberHere_118 (by decide) ?_
        refine r_iload_n dX12_numberHere_119 rfl ?_
        refine r_callVI (md' := mX12_fails) (as := [vI 1, vI x3]) dX12_numberHere_120 lX12_141 iX12_fails rfl rfl rfl (Nat.le_of_ble_eq_true rfl) T (fun r_4 M5 T => ?_)
        refine r_if_eq (tgt := 130) dX12_numberHere_123 (by decide) (fun h_2 => ?_) (fun h_2 => ?_)
        · have T := T.1 h_2
          refine r_iconst dX12_numberHere_130 (by decide) ?_
          exact r_zreturn dX12_numberHere_131 rfl (by decide) ⟨_, rfl, T⟩
        · have T := T.2 h_2
          refine r_iconst dX12_numberHere_126 (by decide) ?_
          refine r_goto (tgt := 131) dX12_numberHere_127 (by decide) ?_
          exact r_zreturn dX12_numberHere_131 rfl (by decide) ⟨_, rfl, T⟩
  · have T := T.2 h_6
    refine r_aload_n dX12_numberHere_45 rfl ?_
    refine r_getI dX12_numberHere_46 fX12_120 rfl tX12_14 ?_
    refine r_iload_n dX12_numberHere_49 rfl ?_
    refine r_isub dX12_numberHere_50 ?_
    refine r_iconst dX12_numberHere_51 (by decide) ?_
    refine r_icmp_ge (tgt := 75) dX12_numberHere_52 (by decide) (fun h_5 => ?_) (fun h_5 => ?_)
    · have T := T.1 h_5
      refine r_aload_n dX12_numberHere_75 rfl ?_
      refine r_dup dX12_numberHere_76 rfl ?_
      refine r_getI dX12_numberHere_77 fX12_120 rfl tX12_14 ?_
      refine r_iconst dX12_numberHere_80 (by decide) ?_
      refine r_iadd dX12_numberHere_81 ?_
      refine n_put dX12_numberHere_82 pX12_120 rfl tX12_14 (fun M6 hM6 => ?_)
      have T := T M6 hM6
      refine r_goto (tgt := 34) dX12_numberHere_85 (by decide) ?_
      exact T
    · have T := T.2 h_5
      refine r_bipush dX12_numberHere_55 (by decide) (by decide) ?_
      refine r_iload dX12_numberHere_57 rfl ?_
      refine r_imul dX12_numberHere_59 ?_
      refine r_aload_n dX12_numberHere_60 rfl ?_
      refine r_getA dX12_numberHere_61 fX12_7 rfl uX12_0 ?_
      refine r_aload_n dX12_numberHere_64 rfl ?_
      refine r_getI dX12_numberHere_65 fX12_120 rfl tX12_14 ?_
      refine s_bald dX12_numberHere_68 rfl (Or.inl tX12_0) aX12_0 T.1 ?_
      have T := T.2
      refine r_iadd dX12_numberHere_69 ?_
      refine r_bipush dX12_numberHere_70 (by decide) (by decide) ?_
      refine r_isub dX12_numberHere_72 ?_
      refine r_istore dX12_numberHere_73 (by decide) rfl ?_
      refine r_aload_n dX12_numberHere_75 rfl ?_
      refine r_dup dX12_numberHere_76 rfl ?_
      refine r_getI dX12_numberHere_77 fX12_120 rfl tX12_14 ?_
      refine r_iconst dX12_numberHere_80 (by decide) ?_
      refine r_iadd dX12_numberHere_81 ?_
      refine n_put dX12_numberHere_82 pX12_120 rfl tX12_14 (fun M7 hM7 => ?_)
      have T := T M7 hM7
      refine r_goto (tgt := 34) dX12_numberHere_85 (by decide) ?_
      exact T
theorem eX12_numberHere {G : Gx} {n : Nat} {M : Mem} {Q : Int → Mem → Prop}  {x1 : Int} {x2 : Int} (h : ∀ K : Kx, CW G K mX12_numberHere n 0 [some (vO 0), some (vI x1), some (vI x2), none, none] [] M (qI Q)) : OkI G n mX12_numberHere [vO 0, vI x1, vI x2] M Q := Ok_of (by decide) (Nat.le_of_ble_eq_true rfl) rfl h
-- DownOnlyModel wordHere ()I
set_option maxRecDepth 20000 in
set_option maxHeartbeats 1000000 in
theorem bX12_wordHere_0 {G : Gx} {K : Kx} {n : Nat} {M : Mem} {Q : Int → Mem → Prop}    (T : OkI G n mX12_isWord [vO 0, vL 7237495] M (fun r_1 M1 => (r_1 = 0 → OkI G n mX12_isWord [vO 0, vL 123581014175598] M1 (fun r_2 M2 => (r_2 = 0 → OkI G n mX12_isWord [vO 0, vL 1919905645] M2 (fun r_3 M3 => (r_3 = 0 → OkI G n mX12_isWord [vO 0, vL 114784769370228] M3 (fun r_4 M4 => (r_4 = 0 → OkI G n mX12_isWord [vO 0, vL 1751478885] M4 (fun r_5 M5 => (r_5 = 0 → OkI G n mX12_isWord [vO 0, vL 1919902821] M5 (fun r_6 M6 => (r_6 = 0 → OkI G n mX12_isWord [vO 0, vL 1752132965] M6 (fun r_7 M7 => (r_7 = 0 → OkI G n mX12_isWord [vO 0, vL 7630704] M7 (fun r_8 M8 => (r_8 = 0 → Q (-1) M8) ∧ (¬ (r_8 = 0) → Q 7 M8))) ∧ (¬ (r_7 = 0) → Q 6 M7))) ∧ (¬ (r_6 = 0) → Q 5 M6))) ∧ (¬ (r_5 = 0) → Q 4 M5))) ∧ (¬ (r_4 = 0) → Q 3 M4))) ∧ (¬ (r_3 = 0) → Q 2 M3))) ∧ (¬ (r_2 = 0) → Q 1 M2))) ∧ (¬ (r_1 = 0) → Q 0 M1))) : CW G K mX12_wordHere (n + 1) 0 [some (vO 0)] [] M (qI Q) := by
  refine r_aload_n dX12_wordHere_0 rfl ?_
  refine r_ldc2 (z := 7237495) dX12_wordHere_1 kX12_152 (by decide) (by decide) ?_
  refine r_callVI (md' := mX12_isWord) (as := [vL 7237495]) dX12_wordHere_4 lX12_131 iX12_isWord rfl rfl rfl (Nat.le_of_ble_eq_true rfl) T (fun r_1 M1 T => ?_)
  refine r_if_eq (tgt := 12) dX12_wordHere_7 (by decide) (fun h_8 => ?_) (fun h_8 => ?_)
  · have T := T.1 h_8
    refine r_aload_n dX12_wordHere_12 rfl ?_
    refine r_ldc2 (z := 123581014175598) dX12_wordHere_13 kX12_154 (by decide) (by decide) ?_
    refine r_callVI (md' := mX12_isWord) (as := [vL 123581014175598]) dX12_wordHere_16 lX12_131 iX12_isWord rfl rfl rfl (Nat.le_of_ble_eq_true rfl) T (fun r_2 M2 T => ?_)
    refine r_if_eq (tgt := 24) dX12_wordHere_19 (by decide) (fun h_7 => ?_) (fun h_7 => ?_)
    · have T := T.1 h_7
      refine r_aload_n dX12_wordHere_24 rfl ?_
      refine r_ldc2 (z := 1919905645) dX12_wordHere_25 kX12_156 (by decide) (by decide) ?_
      refine r_callVI (md' := mX12_isWord) (as := [vL 1919905645]) dX12_wordHere_28 lX12_131 iX12_isWord rfl rfl rfl (Nat.le_of_ble_eq_true rfl) T (fun r_3 M3 T => ?_)
      refine r_if_eq (tgt := 36) dX12_wordHere_31 (by decide) (fun h_6 => ?_) (fun h_6 => ?_)
      · have T := T.1 h_6
        refine r_aload_n dX12_wordHere_36 rfl ?_
        refine r_ldc2 (z := 114784769370228) dX12_wordHere_37 kX12_158 (by decide) (by decide) ?_
        refine r_callVI (md' := mX12_isWord) (as := [vL 114784769370228]) dX12_wordHere_40 lX12_131 iX12_isWord rfl rfl rfl (Nat.le_of_ble_eq_true rfl) T (fun r_4 M4 T => ?_)
        refine r_if_eq (tgt := 48) dX12_wordHere_43 (by decide) (fun h_5 => ?_) (fun h_5 => ?_)
        · have T := T.1 h_5
          refine r_aload_n dX12_wordHere_48 rfl ?_
          refine r_ldc2 (z := 1751478885) dX12_wordHere_49 kX12_160 (by decide) (by decide) ?_
          refine r_callVI (md' := mX12_isWord) (as := [vL 1751478885]) dX12_wordHere_52 lX12_131 iX12_isWord rfl rfl rfl (Nat.le_of_ble_eq_true rfl) T (fun r_5 M5 T => ?_)
          refine r_if_eq (tgt := 60) dX12_wordHere_55 (by decide) (fun h_4 => ?_) (fun h_4 => ?_)
          · have T := T.1 h_4
            refine r_aload_n dX12_wordHere_60 rfl ?_
            refine r_ldc2 (z := 1919902821) dX12_wordHere_61 kX12_162 (by decide) (by decide) ?_
            refine r_callVI (md' := mX12_isWord) (as := [vL 1919902821]) dX12_wordHere_64 lX12_131 iX12_isWord rfl rfl rfl (Nat.le_of_ble_eq_true rfl) T (fun r_6 M6 T => ?_)
            refine r_if_eq (tgt := 72) dX12_wordHere_67 (by decide) (fun h_3 => ?_) (fun h_3 => ?_)
            · have T := T.1 h_3
              refine r_aload_n dX12_wordHere_72 rfl ?_
              refine r_ldc2 (z := 1752132965) dX12_wordHere_73 kX12_164 (by decide) (by decide) ?_
              refine r_callVI (md' := mX12_isWord) (as := [vL 1752132965]) dX12_wordHere_76 lX12_131 iX12_isWord rfl rfl rfl (Nat.le_of_ble_eq_true rfl) T (fun r_7 M7 T => ?_)
              refine r_if_eq (tgt := 87) dX12_wordHere_79 (by decide) (fun h_2 => ?_) (fun h_2 => ?_)
              · have T := T.1 h_2
                refine r_aload_n dX12_wordHere_87 rfl ?_
                refine r_ldc2 (z := 7630704) dX12_wordHere_88 kX12_166 (by decide) (by decide) ?_
                refine r_callVI (md' := mX12_isWord) (as := [vL 7630704]) dX12_wordHere_91 lX12_131 iX12_isWord rfl rfl rfl (Nat.le_of_ble_eq_true rfl) T (fun r_8 M8 T => ?_)
                refine r_if_eq (tgt := 102) dX12_wordHere_94 (by decide) (fun h_1 => ?_) (fun h_1 => ?_)
                · have T := T.1 h_1
                  refine r_iconst dX12_wordHere_102 (by decide) ?_
                  exact r_ireturn dX12_wordHere_103 rfl ⟨_, rfl, T⟩
                · have T := T.2 h_1
                  refine r_bipush dX12_wordHere_97 (by decide) (by decide) ?_
                  refine r_goto (tgt := 103) dX12_wordHere_99 (by decide) ?_
                  exact r_ireturn dX12_wordHere_103 rfl ⟨_, rfl, T⟩
              · have T := T.2 h_2
                refine r_bipush dX12_wordHere_82 (by decide) (by decide) ?_
                refine r_goto (tgt := 103) dX12_wordHere_84 (by decide) ?_
                exact r_ireturn dX12_wordHere_103 rfl ⟨_, rfl, T⟩
            · have T := T.2 h_3
              refine r_iconst dX12_wordHere_70 (by decide) ?_
              exact r_ireturn dX12_wordHere_71 rfl ⟨_, rfl, T⟩
          · have T := T.2 h_4
            refine r_iconst dX12_wordHere_58 (by decide) ?_
            exact r_ireturn dX12_wordHere_59 rfl ⟨_, rfl, T⟩
        · have T := T.2 h_5
          refine r_iconst dX12_wordHere_46 (by decide) ?_
          exact r_ireturn dX12_wordHere_47 rfl ⟨_, rfl, T⟩
      · have T := T.2 h_6
        refine r_iconst dX12_wordHere_34 (by decide) ?_
        exact r_ireturn dX12_wordHere_35 rfl ⟨_, rfl, T⟩
    · have T := T.2 h_7
      refine r_iconst dX12_wordHere_22 (by decide) ?_
      exact r_ireturn dX12_wordHere_23 rfl ⟨_, rfl, T⟩
  · have T := T.2 h_8
    refine r_iconst dX12_wordHere_10 (by decide) ?_
    exact r_ireturn dX12_wordHere_11 rfl ⟨_, rfl, T⟩
theorem eX12_wordHere {G : Gx} {n : Nat} {M : Mem} {Q : Int → Mem → Prop}   (h : ∀ K : Kx, CW G K mX12_wordHere n 0 [some (vO 0)] [] M (qI Q)) : OkI G n mX12_wordHere [vO 0] M Q := Ok_of (by decide) (Nat.le_of_ble_eq_true rfl) rfl h
-- DownOnlyModel puts (II)V
set_option maxRecDepth 20000 in
set_option maxHeartbeats 1000000 in
theorem bX12_puts_0 {G : Gx} {K : Kx} {n : Nat} {M : Mem} {Q : Mem → Prop}  {x1 : Int} {x2 : Int}  (T : (0 ≤ M 0 17 0 ∧ M 0 17 0 < 7) ∧ ((0 ≤ wr (wr (400 * (M 0 17 0)) + (M 0 4 (M 0 17 0).toNat)) ∧ wr (wr (400 * (M 0 17 0)) + (M 0 4 (M 0 17 0).toNat)) < 2400) ∧ (∀ M1 : Mem, M1 = mset M 0 3 (wr (wr (400 * (M 0 17 0)) + (M 0 4 (M 0 17 0).toNat))).toNat (wr (x1 + (wr (16 * x2)))) → (0 ≤ M1 0 17 0 ∧ M1 0 17 0 < 7) ∧ ((0 ≤ M1 0 17 0 ∧ M1 0 17 0 < 7) ∧ (∀ M2 : Mem, M2 = mset M1 0 4 (M1 0 17 0).toNat (wr (M1 0 4 (M1 0 17 0).toNat + 1)) → Q M2))))) : CW G K mX12_puts n 0 [some (vO 0), some (vI x1), some (vI x2)] [] M (qV Q) := by
  refine r_aload_n dX12_puts_0 rfl ?_
  refine r_getA dX12_puts_1 fX12_13 rfl uX12_3 ?_
  refine r_sipush dX12_puts_4 (by decide) (by decide) ?_
  refine r_aload_n dX12_puts_7 rfl ?_
  refine r_getI dX12_puts_8 fX12_168 rfl tX12_17 ?_
  refine r_imul dX12_puts_11 ?_
  refine r_aload_n dX12_puts_12 rfl ?_
  refine r_getA dX12_puts_13 fX12_17 rfl uX12_4 ?_
  refine r_aload_n dX12_puts_16 rfl ?_
  refine r_getI dX12_puts_17 fX12_168 rfl tX12_17 ?_
  refine s_iald dX12_puts_20 rfl tX12_4 aX12_4 T.1 ?_
  have T := T.2
  refine r_iadd dX12_puts_21 ?_
  refine r_iload_n dX12_puts_22 rfl ?_
  refine r_bipush dX12_puts_23 (by decide) (by decide) ?_
  refine r_iload_n dX12_puts_25 rfl ?_
  refine r_imul dX12_puts_26 ?_
  refine r_iadd dX12_puts_27 ?_
  refine n_iast dX12_puts_28 rfl tX12_3 aX12_3 T.1 (fun M1 hM1 => ?_)
  have T := T.2 M1 hM1
  refine r_aload_n dX12_puts_29 rfl ?_
  refine r_getA dX12_puts_30 fX12_17 rfl uX12_4 ?_
  refine r_aload_n dX12_puts_33 rfl ?_
  refine r_getI dX12_puts_34 fX12_168 rfl tX12_17 ?_
  refine r_dup2 dX12_puts_37 rfl rfl ?_
  refine s_iald dX12_puts_38 rfl tX12_4 aX12_4 T.1 ?_
  have T := T.2
  refine r_iconst dX12_puts_39 (by decide) ?_
  refine r_iadd dX12_puts_40 ?_
  refine n_iast dX12_puts_41 rfl tX12_4 aX12_4 T.1 (fun M2 hM2 => ?_)
  have T := T.2 M2 hM2
  exact r_return dX12_puts_42 rfl ⟨rfl, T⟩
theorem eX12_puts {G : Gx} {n : Nat} {M : Mem} {Q : Mem → Prop}  {x1 : Int} {x2 : Int} (h : ∀ K : Kx, CW G K mX12_puts n 0 [some (vO 0), some (vI x1), some (vI x2)] [] M (qV Q)) : OkV G n mX12_puts [vO 0, vI x1, vI x2] M Q := Ok_of (by decide) (Nat.le_of_ble_eq_true rfl) rfl h
