theorem n_put {G : Gx} {K : Kx} {md : MD} {n pc : Nat} {lo : List (Option V)} {st : List V} {M : Mem} {Q : Option V → Mem → Prop} {ci k o idx : Nat} {x : Int} (d : decode md.2.1 pc = .ok (.putfield idx, 3)) (f : Fp md.1.cls idx ci k) (ho : oc o = ci) (hk : fK ci k = 0) (kk : ∀ M1 : Mem, M1 = mset M o k 0 x → CW G K md n (pc + 3) lo st M1 Q) : CW G K md n pc lo (vI x :: vO o :: st) M Q := r_put d f ho hk (kk _ rfl)
theorem n_iast {G : Gx} {K : Kx} {md : MD} {n pc : Nat} {lo : List (Option V)} {st : List V} {M : Mem} {Q : Option V → Mem → Prop} {o k ci : Nat} {i x N : Int} (d : decode md.2.1 pc = .ok (.iastore, 1)) (ho : oc o = ci) (hk : fK ci k = 1) (hN : ((aL ci k : Nat) : Int) = N) (h : 0 ≤ i ∧ i < N) (kk : ∀ M1 : Mem, M1 = mset M o k i.toNat x → CW G K md n (pc + 1) lo st M1 Q) : CW G K md n pc lo (vI x :: vI i :: vA o k :: st) M Q := s_iast d ho hk hN h (kk _ rfl)
theorem n_last {G : Gx} {K : Kx} {md : MD} {n pc : Nat} {lo : List (Option V)} {st : List V} {M : Mem} {Q : Option V → Mem → Prop} {o k ci : Nat} {i x N : Int} (d : decode md.2.1 pc = .ok (.lastore, 1)) (ho : oc o = ci) (hk : fK ci k = 4) (hN : ((aL ci k : Nat) : Int) = N) (h : 0 ≤ i ∧ i < N) (kk : ∀ M1 : Mem, M1 = mset M o k i.toNat x → CW G K md n (pc + 1) lo st M1 Q) : CW G K md n pc lo (vL x :: vI i :: vA o k :: st) M Q := s_last d ho hk hN h (kk _ rfl)
theorem n_bast {G : Gx} {K : Kx} {md : MD} {n pc : Nat} {lo : List (Option V)} {st : List V} {M : Mem} {Q : Option V → Mem → Prop} {o k ci : Nat} {i x N : Int} (d : decode md.2.1 pc = .ok (.bastore, 1)) (ho : oc o = ci) (hk : fK ci k = 2) (hN : ((aL ci k : Nat) : Int) = N) (h : 0 ≤ i ∧ i < N) (kk : ∀ M1 : Mem, M1 = mset M o k i.toNat (toB x) → CW G K md n (pc + 1) lo st M1 Q) : CW G K md n pc lo (vI x :: vI i :: vA o k :: st) M Q := s_bast d ho hk hN h (kk _ rfl)
theorem n_zast {G : Gx} {K : Kx} {md : MD} {n pc : Nat} {lo : List (Option V)} {st : List V} {M : Mem} {Q : Option V → Mem → Prop} {o k ci : Nat} {i x N : Int} (d : decode md.2.1 pc = .ok (.bastore, 1)) (ho : oc o = ci) (hk : fK ci k = 3) (hN : ((aL ci k : Nat) : Int) = N) (h : 0 ≤ i ∧ i < N) (h01 : x = 0 ∨ x = 1) (kk : ∀ M1 : Mem, M1 = mset M o k i.toNat x → CW G K md n (pc + 1) lo st M1 Q) : CW G K md n pc lo (vI x :: vI i :: vA o k :: st) M Q := s_zast d ho hk hN h h01 (kk _ rfl)
theorem n_acopy {G : Gx} {K : Kx} {md : MD} {n pc : Nat} {lo : List (Option V)} {st : List V} {M : Mem} {Q : Option V → Mem → Prop} {o k o' k' : Nat} {z : Int} {idx : Nat} (d : decode md.2.1 pc = .ok (.invokestatic idx, 3)) (w1 : Cond.methodLink md.1.cls idx arraycopyName ∈ gw) (w2 : Cond.native arraycopyName ∈ gw) (w3 : Cond.static arraycopyName ∈ gw) (w4 : Cond.initialized "java/lang/System" ∈ gw) (hk : fK (oc o) k = 1) (hk' : fK (oc o') k' = 1) (hw : (st.map vcat).sum ≤ 8) (hz : 0 ≤ z ∧ z ≤ (aL (oc o) k : Nat) ∧ z ≤ (aL (oc o') k' : Nat)) (kk : ∀ M1 : Mem, M1 = mcpy M o k o' k' z.toNat → CW G K md (n + 1) (pc + 3) lo st M1 Q) : CW G K md (n + 1) pc lo (vI z :: vI 0 :: vA o' k' :: vI 0 :: vA o k :: st) M Q := r_acopy d w1 w2 w3 w4 hk hk' hw hz (kk _ rfl)
theorem sX2_51 : (RX2, 51, 0) ∈ strR := by decide +kernel
theorem sX2_64 : (RX2, 64, 1) ∈ strR := by decide +kernel
theorem sX2_72 : (RX2, 72, 2) ∈ strR := by decide +kernel
theorem sX2_74 : (RX2, 74, 3) ∈ strR := by decide +kernel
theorem sX2_79 : (RX2, 79, 4) ∈ strR := by decide +kernel
theorem sX2_87 : (RX2, 87, 5) ∈ strR := by decide +kernel
theorem sX7_41 : (RX7, 41, 6) ∈ strR := by decide +kernel
theorem sX7_67 : (RX7, 67, 7) ∈ strR := by decide +kernel
theorem sX7_69 : (RX7, 69, 8) ∈ strR := by decide +kernel
theorem sX7_71 : (RX7, 71, 9) ∈ strR := by decide +kernel
theorem sX7_95 : (RX7, 95, 11) ∈ strR := by decide +kernel
theorem sX7_97 : (RX7, 97, 10) ∈ strR := by decide +kernel
theorem sX7_99 : (RX7, 99, 12) ∈ strR := by decide +kernel
theorem sX7_141 : (RX7, 141, 13) ∈ strR := by decide +kernel
theorem sX7_143 : (RX7, 143, 5) ∈ strR := by decide +kernel
theorem sX7_145 : (RX7, 145, 0) ∈ strR := by decide +kernel
theorem sX7_147 : (RX7, 147, 14) ∈ strR := by decide +kernel
theorem sX7_149 : (RX7, 149, 15) ∈ strR := by decide +kernel
theorem sX7_151 : (RX7, 151, 16) ∈ strR := by decide +kernel
theorem sX7_153 : (RX7, 153, 17) ∈ strR := by decide +kernel
theorem sX7_155 : (RX7, 155, 18) ∈ strR := by decide +kernel
-- java/lang/Integer bitCount (I)I
set_option maxRecDepth 20000 in
set_option maxHeartbeats 1000000 in
theorem bJ6_bitCount_0f7a4_0 {G : Gx} {K : Kx} {n : Nat} {M : Mem} {Q : Int → Mem → Prop}  {x0 : Int}  (T : Q (bAnd (wr (wr (bAnd (wr (wr (bAnd (wr (x0 - (bAnd (bUshr x0 1) 1431655765))) 858993459 + (bAnd (bUshr (wr (x0 - (bAnd (bUshr x0 1) 1431655765))) 2) 858993459)) + (bUshr (wr (bAnd (wr (x0 - (bAnd (bUshr x0 1) 1431655765))) 858993459 + (bAnd (bUshr (wr (x0 - (bAnd (bUshr x0 1) 1431655765))) 2) 858993459))) 4))) 252645135 + (bUshr (bAnd (wr (wr (bAnd (wr (x0 - (bAnd (bUshr x0 1) 1431655765))) 858993459 + (bAnd (bUshr (wr (x0 - (bAnd (bUshr x0 1) 1431655765))) 2) 858993459)) + (bUshr (wr (bAnd (wr (x0 - (bAnd (bUshr x0 1) 1431655765))) 858993459 + (bAnd (bUshr (wr (x0 - (bAnd (bUshr x0 1) 1431655765))) 2) 858993459))) 4))) 252645135) 8)) + (bUshr (wr (bAnd (wr (wr (bAnd (wr (x0 - (bAnd (bUshr x0 1) 1431655765))) 858993459 + (bAnd (bUshr (wr (x0 - (bAnd (bUshr x0 1) 1431655765))) 2) 858993459)) + (bUshr (wr (bAnd (wr (x0 - (bAnd (bUshr x0 1) 1431655765))) 858993459 + (bAnd (bUshr (wr (x0 - (bAnd (bUshr x0 1) 1431655765))) 2) 858993459))) 4))) 252645135 + (bUshr (bAnd (wr (wr (bAnd (wr (x0 - (bAnd (bUshr x0 1) 1431655765))) 858993459 + (bAnd (bUshr (wr (x0 - (bAnd (bUshr x0 1) 1431655765))) 2) 858993459)) + (bUshr (wr (bAnd (wr (x0 - (bAnd (bUshr x0 1) 1431655765))) 858993459 + (bAnd (bUshr (wr (x0 - (bAnd (bUshr x0 1) 1431655765))) 2) 858993459))) 4))) 252645135) 8))) 16))) 63) M) : CW G K mJ6_bitCount_0f7a4 n 0 [some (vI x0)] [] M (qI Q) := by
  refine r_iload_n dJ6_bitCount_0f7a4_0 rfl ?_
  refine r_iload_n dJ6_bitCount_0f7a4_1 rfl ?_
  refine r_iconst dJ6_bitCount_0f7a4_2 (by decide) ?_
  refine r_iushr dJ6_bitCount_0f7a4_3 ?_
  refine r_ldcw (z := 1431655765) dJ6_bitCount_0f7a4_4 kJ6_265 (by decide) (by decide) ?_
  refine r_iand dJ6_bitCount_0f7a4_7 ?_
  refine r_isub dJ6_bitCount_0f7a4_8 ?_
  refine r_istore_n dJ6_bitCount_0f7a4_9 (by decide) rfl ?_
  refine r_iload_n dJ6_bitCount_0f7a4_10 rfl ?_
  refine r_ldcw (z := 858993459) dJ6_bitCount_0f7a4_11 kJ6_266 (by decide) (by decide) ?_
  refine r_iand dJ6_bitCount_0f7a4_14 ?_
  refine r_iload_n dJ6_bitCount_0f7a4_15 rfl ?_
  refine r_iconst dJ6_bitCount_0f7a4_16 (by decide) ?_
  refine r_iushr dJ6_bitCount_0f7a4_17 ?_
  refine r_ldcw (z := 858993459) dJ6_bitCount_0f7a4_18 kJ6_266 (by decide) (by decide) ?_
  refine r_iand dJ6_bitCount_0f7a4_21 ?_
  refine r_iadd dJ6_bitCount_0f7a4_22 ?_
  refine r_istore_n dJ6_bitCount_0f7a4_23 (by decide) rfl ?_
  refine r_iload_n dJ6_bitCount_0f7a4_24 rfl ?_
  refine r_iload_n dJ6_bitCount_0f7a4_25 rfl ?_
  refine r_iconst dJ6_bitCount_0f7a4_26 (by decide) ?_
  refine r_iushr dJ6_bitCount_0f7a4_27 ?_
  refine r_iadd dJ6_bitCount_0f7a4_28 ?_
  refine r_ldcw (z := 252645135) dJ6_bitCount_0f7a4_29 kJ6_267 (by decide) (by decide) ?_
  refine r_iand dJ6_bitCount_0f7a4_32 ?_
  refine r_istore_n dJ6_bitCount_0f7a4_33 (by decide) rfl ?_
  refine r_iload_n dJ6_bitCount_0f7a4_34 rfl ?_
  refine r_iload_n dJ6_bitCount_0f7a4_35 rfl ?_
  refine r_bipush dJ6_bitCount_0f7a4_36 (by decide) (by decide) ?_
  refine r_iushr dJ6_bitCount_0f7a4_38 ?_
  refine r_iadd dJ6_bitCount_0f7a4_39 ?_
  refine r_istore_n dJ6_bitCount_0f7a4_40 (by decide) rfl ?_
  refine r_iload_n dJ6_bitCount_0f7a4_41 rfl ?_
  refine r_iload_n dJ6_bitCount_0f7a4_42 rfl ?_
  refine r_bipush dJ6_bitCount_0f7a4_43 (by decide) (by decide) ?_
  refine r_iushr dJ6_bitCount_0f7a4_45 ?_
  refine r_iadd dJ6_bitCount_0f7a4_46 ?_
  refine r_istore_n dJ6_bitCount_0f7a4_47 (by decide) rfl ?_
  refine r_iload_n dJ6_bitCount_0f7a4_48 rfl ?_
  refine r_bipush dJ6_bitCount_0f7a4_49 (by decide) (by decide) ?_
  refine r_iand dJ6_bitCount_0f7a4_51 ?_
  exact r_ireturn dJ6_bitCount_0f7a4_52 rfl ⟨_, rfl, T⟩
theorem eJ6_bitCount_0f7a4 {G : Gx} {n : Nat} {M : Mem} {Q : Int → Mem → Prop}  {x0 : Int} (h : ∀ K : Kx, CW G K mJ6_bitCount_0f7a4 n 0 [some (vI x0)] [] M (qI Q)) : OkI G n mJ6_bitCount_0f7a4 [vI x0] M Q := Ok_of (by decide) (Nat.le_of_ble_eq_true rfl) rfl h
-- java/util/Arrays fill ([II)V
set_option maxRecDepth 20000 in
set_option maxHeartbeats 1000000 in
theorem bJ7_fill_53178_0 {G : Gx} {K : Kx} {n : Nat} {M : Mem} {Q : Mem → Prop} {oA : Nat} {kA : Nat} {NA : Int} {x1 : Int} (hkA : fK (oc oA) kA = 1) (hNA : ((aL (oc oA) kA : Nat) : Int) = NA) (hzA : 0 ≤ NA ∧ NA ≤ 2147483647) (T : CW G K mJ7_fill_53178 n 5 [some (vA oA kA), some (vI x1), some (vI 0), some (vI NA)] [] M (qV Q)) : CW G K mJ7_fill_53178 n 0 [some (vA oA kA), some (vI x1), none, none] [] M (qV Q) := by
  refine r_iconst dJ7_fill_53178_0 (by decide) ?_
  refine r_istore_n dJ7_fill_53178_1 (by decide) rfl ?_
  refine r_aload_n dJ7_fill_53178_2 rfl ?_
  refine s_alen dJ7_fill_53178_3 rfl (show isA (fK (oc oA) kA) = true by rw [hkA]; rfl) hNA hzA ?_
  refine r_istore_n dJ7_fill_53178_4 (by decide) rfl ?_
  exact T
set_option maxRecDepth 20000 in
set_option maxHeartbeats 1000000 in
theorem bJ7_fill_53178_5 {G : Gx} {K : Kx} {n : Nat} {M : Mem} {Q : Mem → Prop} {oA : Nat} {kA : Nat} {NA : Int} {x1 : Int} {x2 : Int} {x3 : Int} (hkA : fK (oc oA) kA = 1) (hNA : ((aL (oc oA) kA : Nat) : Int) = NA) (hzA : 0 ≤ NA ∧ NA ≤ 2147483647) (T : (x3 ≤ x2 → Q M) ∧ (¬ (x3 ≤ x2) → (0 ≤ x2 ∧ x2 < NA) ∧ (∀ M1 : Mem, M1 = mset M oA kA x2.toNat x1 → CW G K mJ7_fill_53178 n 5 [some (vA oA kA), some (vI x1), some (vI (wr (x2 + 1))), some (vI x3)] [] M1 (qV Q)))) : CW G K mJ7_fill_53178 n 5 [some (vA oA kA), some (vI x1), some (vI x2), some (vI x3)] [] M (qV Q) := by
  refine r_iload_n dJ7_fill_53178_5 rfl ?_
  refine r_iload_n dJ7_fill_53178_6 rfl ?_
  refine r_icmp_ge (tgt := 20) dJ7_fill_53178_7 (by decide) (fun h_1 => ?_) (fun h_1 => ?_)
  · have T := T.1 h_1
    exact r_return dJ7_fill_53178_20 rfl ⟨rfl, T⟩
  · have T := T.2 h_1
    refine r_aload_n dJ7_fill_53178_10 rfl ?_
    refine r_iload_n dJ7_fill_53178_11 rfl ?_
    refine r_iload_n dJ7_fill_53178_12 rfl ?_
    refine n_iast dJ7_fill_53178_13 rfl hkA hNA T.1 (fun M1 hM1 => ?_)
    have T := T.2 M1 hM1
    refine r_iinc dJ7_fill_53178_14 rfl (by decide) rfl ?_
    refine r_goto (tgt := 5) dJ7_fill_53178_17 (by decide) ?_
    exact T
theorem eJ7_fill_53178 {G : Gx} {n : Nat} {M : Mem} {Q : Mem → Prop} {kA : Nat} {oA : Nat} {x1 : Int} (h : ∀ K : Kx, CW G K mJ7_fill_53178 n 0 [some (vA oA kA), some (vI x1), none, none] [] M (qV Q)) : OkV G n mJ7_fill_53178 [vA oA kA, vI x1] M Q := Ok_of (by decide) (Nat.le_of_ble_eq_true rfl) rfl h
-- DownOnly$Tape append (I)V
set_option maxRecDepth 20000 in
set_option maxHeartbeats 1000000 in
theorem bX9_append_0 {G : Gx} {K : Kx} {n : Nat} {M : Mem} {Q : Mem → Prop}  {x1 : Int}  (T : CW G K mX9_append n 3 [some (vO 2), some (vI x1), some (vI 24)] [] M (qV Q)) : CW G K mX9_append n 0 [some (vO 2), some (vI x1), none] [] M (qV Q) := by
  refine r_bipush dX9_append_0 (by decide) (by decide) ?_
  refine r_istore_n dX9_append_2 (by decide) rfl ?_
  exact T
set_option maxRecDepth 20000 in
set_option maxHeartbeats 1000000 in
theorem bX9_append_3 {G : Gx} {K : Kx} {n : Nat} {M : Mem} {Q : Mem → Prop}  {x1 : Int} {x2 : Int}  (T : (x2 < 0 → Q M) ∧ (¬ (x2 < 0) → (400 ≤ M 2 1 0 → Q M) ∧ (¬ (400 ≤ M 2 1 0) → (0 ≤ M 2 1 0 ∧ M 2 1 0 < 400) ∧ (∀ M1 : Mem, M1 = mset M 2 0 (M 2 1 0).toNat (bAnd (bShr x1 x2) 255) → ∀ M2 : Mem, M2 = mset M1 2 1 0 (wr (M1 2 1 0 + 1)) → CW G K mX9_append n 3 [some (vO 2), some (vI x1), some (vI (wr (x2 + (-8))))] [] M2 (qV Q))))) : CW G K mX9_append n 3 [some (vO 2), some (vI x1), some (vI x2)] [] M (qV Q) := by
  refine r_iload_n dX9_append_3 rfl ?_
  refine r_if_lt (tgt := 51) dX9_append_4 (by decide) (fun h_2 => ?_) (fun h_2 => ?_)
  · have T := T.1 h_2
    exact r_return dX9_append_51 rfl ⟨rfl, T⟩
  · have T := T.2 h_2
    refine r_aload_n dX9_append_7 rfl ?_
    refine r_getI dX9_append_8 fX9_15 rfl tX9_1 ?_
    refine r_aload_n dX9_append_11 rfl ?_
    refine r_getA dX9_append_12 fX9_9 rfl uX9_0 ?_
    refine s_alen dX9_append_15 rfl uX9_0 aX9_0 (by decide) ?_
    refine r_icmp_ge (tgt := 51) dX9_append_16 (by decide) (fun h_1 => ?_) (fun h_1 => ?_)
    · have T := T.1 h_1
      exact r_return dX9_append_51 rfl ⟨rfl, T⟩
    · have T := T.2 h_1
      refine r_aload_n dX9_append_19 rfl ?_
      refine r_getA dX9_append_20 fX9_9 rfl uX9_0 ?_
      refine r_aload_n dX9_append_23 rfl ?_
      refine r_getI dX9_append_24 fX9_15 rfl tX9_1 ?_
      refine r_iload_n dX9_append_27 rfl ?_
      refine r_iload_n dX9_append_28 rfl ?_
      refine r_ishr dX9_append_29 ?_
      refine r_sipush dX9_append_30 (by decide) (by decide) ?_
      refine r_iand dX9_append_33 ?_
      refine n_iast dX9_append_34 rfl tX9_0 aX9_0 T.1 (fun M1 hM1 => ?_)
      have T := T.2 M1 hM1
      refine r_aload_n dX9_append_35 rfl ?_
      refine r_dup dX9_append_36 rfl ?_
      refine r_getI dX9_append_37 fX9_15 rfl tX9_1 ?_
      refine r_iconst dX9_append_40 (by decide) ?_
      refine r_iadd dX9_append_41 ?_
      refine n_put dX9_append_42 pX9_15 rfl tX9_1 (fun M2 hM2 => ?_)
      have T := T M2 hM2
      refine r_iinc dX9_append_45 rfl (by decide) rfl ?_
      refine r_goto (tgt := 3) dX9_append_48 (by decide) ?_
      exact T
theorem eX9_append {G : Gx} {n : Nat} {M : Mem} {Q : Mem → Prop}  {x1 : Int} (h : ∀ K : Kx, CW G K mX9_append n 0 [some (vO 2), some (vI x1), none] [] M (qV Q)) : OkV G n mX9_append [vO 2, vI x1] M Q := Ok_of (by decide) (Nat.le_of_ble_eq_true rfl) rfl h
-- DownOnly$Tape begin ()V
set_option maxRecDepth 20000 in
set_option maxHeartbeats 1000000 in
theorem bX9_begin_0 {G : Gx} {K : Kx} {n : Nat} {M : Mem} {Q : Mem → Prop}    (T : ∀ M1 : Mem, M1 = mset M 2 7 0 0 → ∀ M2 : Mem, M2 = mset M1 2 4 0 0 → OkV G n mX9_advance [vO 2] M2 (fun M3 => Q M3)) : CW G K mX9_begin (n + 1) 0 [some (vO 2)] [] M (qV Q) := by
  refine r_aload_n dX9_begin_0 rfl ?_
  refine r_iconst dX9_begin_1 (by decide) ?_
  refine n_put dX9_begin_2 pX9_19 rfl tX9_7 (fun M1 hM1 => ?_)
  have T := T M1 hM1
  refine r_aload_n dX9_begin_5 rfl ?_
  refine r_iconst dX9_begin_6 (by decide) ?_
  refine n_put dX9_begin_7 pX9_22 rfl tX9_4 (fun M2 hM2 => ?_)
  have T := T M2 hM2
  refine r_aload_n dX9_begin_10 rfl ?_
  refine r_callVV (md' := mX9_advance) (as := []) dX9_begin_11 lX9_25 iX9_advance rfl rfl rfl (Nat.le_of_ble_eq_true rfl) T (fun M3 T => ?_)
  exact r_return dX9_begin_14 rfl ⟨rfl, T⟩
theorem eX9_begin {G : Gx} {n : Nat} {M : Mem} {Q : Mem → Prop}   (h : ∀ K : Kx, CW G K mX9_begin n 0 [some (vO 2)] [] M (qV Q)) : OkV G n mX9_begin [vO 2] M Q := Ok_of (by decide) (Nat.le_of_ble_eq_true rfl) rfl h
-- DownOnly$Tape advance ()V
set_option maxRecDepth 20000 in
set_option maxHeartbeats 1000000 in
theorem bX9_advance_0 {G : Gx} {K : Kx} {n : Nat} {M : Mem} {Q : Mem → Prop}    (T : CW G K mX9_advance (n + 1) 5 [some (vO 2), some (vI (M 2 4 0)), none] [] M (qV Q)) : CW G K mX9_advance (n + 1) 0 [some (vO 2), none, none] [] M (qV Q) := by
  refine r_aload_n dX9_advance_0 rfl ?_
  refine r_getI dX9_advance_1 fX9_22 rfl tX9_4 ?_
  refine r_istore_n dX9_advance_4 (by decide) rfl ?_
  exact T
set_option maxRecDepth 20000 in
set_option maxHeartbeats 1000000 in
theorem bX9_advance_5 {G : Gx} {K : Kx} {n : Nat} {M : Mem} {Q : Mem → Prop}  {x1 : Int}  (T : (M 2 1 0 ≤ x1 → CW G K mX9_advance (n + 1) 29 [some (vO 2), some (vI x1), none] [] M (qV Q)) ∧ (¬ (M 2 1 0 ≤ x1) → OkI G n mX9_byteAt [vO 2, vI x1] M (fun r_1 M1 => (¬ r_1 = 32 → CW G K mX9_advance (n + 1) 29 [some (vO 2), some (vI x1), none] [] M1 (qV Q)) ∧ (r_1 = 32 → CW G K mX9_advance (n + 1) 5 [some (vO 2), some (vI (wr (x1 + 1))), none] [] M1 (qV Q))))) : CW G K mX9_advance (n + 1) 5 [some (vO 2), some (vI x1), none] [] M (qV Q) := by
  refine r_iload_n dX9_advance_5 rfl ?_
  refine r_aload_n dX9_advance_6 rfl ?_
  refine r_getI dX9_advance_7 fX9_15 rfl tX9_1 ?_
  refine r_icmp_ge (tgt := 29) dX9_advance_10 (by decide) (fun h_2 => ?_) (fun h_2 => ?_)
  · have T := T.1 h_2
    exact T
  · have T := T.2 h_2
    refine r_aload_n dX9_advance_13 rfl ?_
    refine r_iload_n dX9_advance_14 rfl ?_
    refine r_callVI (md' := mX9_byteAt) (as := [vI x1]) dX9_advance_15 lX9_28 iX9_byteAt rfl rfl rfl (Nat.le_of_ble_eq_true rfl) T (fun r_1 M1 T => ?_)
    refine r_bipush dX9_advance_18 (by decide) (by decide) ?_
    refine r_icmp_ne (tgt := 29) dX9_advance_20 (by decide) (fun h_1 => ?_) (fun h_1 => ?_)
    · have T := T.1 h_1
      exact T
    · have T := T.2 h_1
      refine r_iinc dX9_advance_23 rfl (by decide) rfl ?_
      refine r_goto (tgt := 5) dX9_advance_26 (by decide) ?_
      exact T
set_option maxRecDepth 20000 in
set_option maxHeartbeats 1000000 in
theorem bX9_advance_29 {G : Gx} {K : Kx} {n : Nat} {M : Mem} {Q : Mem → Prop}  {x1 : Int}  (T : ∀ M1 : Mem, M1 = mset M 2 3 0 x1 → (x1 < M1 2 1 0 → OkI G n mX9_byteAt [vO 2, vI x1] M1 (fun r_1 M2 => OkI G n mX9_isLetter [vI r_1] M2 (fun r_2 M3 => (r_2 = 0 → OkI G n mX9_byteAt [vO 2, vI x1] M3 (fun r_3 M4 => OkI G n mX9_isDigit [vI r_3] M4 (fun r_4 M5 => (r_4 = 0 → ∀ M6 : Mem, M6 = mset M5 2 2 0 3 → OkI G n mX9_byteAt [vO 2, vI x1] M6 (fun r_5 M7 => (r_5 = 60 → CW G K mX9_advance (n + 1) 146 [some (vO 2), some (vI x1), none] [vI 1] M7 (qV Q)) ∧ (¬ (r_5 = 60) → OkI G n mX9_byteAt [vO 2, vI x1] M7 (fun r_6 M8 => (¬ r_6 = 62 → CW G K mX9_advance (n + 1) 146 [some (vO 2), some (vI x1), none] [vI 0] M8 (qV Q)) ∧ (r_6 = 62 → CW G K mX9_advance (n + 1) 146 [some (vO 2), some (vI x1), none] [vI 1] M8 (qV Q)))))) ∧ (¬ (r_4 = 0) → ∀ M9 : Mem, M9 = mset M5 2 2 0 2 → OkI G n mX9_behindDigits [vO 2, vI x1] M9 (fun r_7 M10 => ∀ M11 : Mem, M11 = mset M10 2 4 0 r_7 → Q M11))))) ∧ (¬ (r_2 = 0) → ∀ M12 : Mem, M12 = mset M3 2 2 0 1 → CW G K mX9_advance (n + 1) 66 [some (vO 2), some (vI x1), none] [] M12 (qV Q))))) ∧ (¬ (x1 < M1 2 1 0) → ∀ M13 : Mem, M13 = mset M1 2 2 0 0 → ∀ M14 : Mem, M14 = mset M13 2 4 0 x1 → Q M14)) : CW G K mX9_advance (n + 1) 29 [some (vO 2), some (vI x1), none] [] M (qV Q) := by
  refine r_aload_n dX9_advance_29 rfl ?_
  refine r_iload_n dX9_advance_30 rfl ?_
  refine n_put dX9_advance_31 pX9_32 rfl tX9_3 (fun M1 hM1 => ?_)
  have T := T M1 hM1
  refine r_iload_n dX9_advance_34 rfl ?_
  refine r_aload_n dX9_advance_35 rfl ?_
  refine r_getI dX9_advance_36 fX9_15 rfl tX9_1 ?_
  refine r_icmp_lt (tgt := 50) dX9_advance_39 (by decide) (fun h_5 => ?_) (fun h_5 => ?_)
  · have T := T.1 h_5
    refine r_aload_n dX9_advance_50 rfl ?_
    refine r_iload_n dX9_advance_51 rfl ?_
    refine r_callVI (md' := mX9_byteAt) (as := [vI x1]) dX9_advance_52 lX9_28 iX9_byteAt rfl rfl rfl (Nat.le_of_ble_eq_true rfl) T (fun r_1 M2 T => ?_)
    refine r_callSI (md' := mX9_isLetter) (as := [vI r_1]) dX9_advance_55 lX9_38 iX9_isLetter rfl rfl (Nat.le_of_ble_eq_true rfl) T (fun r_2 M3 T => ?_)
    refine r_if_eq (tgt := 91) dX9_advance_58 (by decide) (fun h_4 => ?_) (fun h_4 => ?_)
    · have T := T.1 h_4
      refine r_aload_n dX9_advance_91 rfl ?_
      refine r_iload_n dX9_advance_92 rfl ?_
      refine r_callVI (md' := mX9_byteAt) (as := [vI x1]) dX9_advance_93 lX9_28 iX9_byteAt rfl rfl rfl (Nat.le_of_ble_eq_true rfl) T (fun r_3 M4 T => ?_)
      refine r_callSI (md' := mX9_isDigit) (as := [vI r_3]) dX9_advance_96 lX9_42 iX9_isDigit rfl rfl (Nat.le_of_ble_eq_true rfl) T (fun r_4 M5 T => ?_)
      refine r_if_eq (tgt := 116) dX9_advance_99 (by decide) (fun h_3 => ?_) (fun h_3 => ?_)
      · have T := T.1 h_3
        refine r_aload_n dX9_advance_116 rfl ?_
        refine r_iconst dX9_advance_117 (by decide) ?_
        refine n_put dX9_advance_118 pX9_35 rfl tX9_2 (fun M6 hM6 => ?_)
        have T := T M6 hM6
        refine r_aload_n dX9_advance_121 rfl ?_
        refine r_iload_n dX9_advance_122 rfl ?_
        refine r_callVI (md' := mX9_byteAt) (as := [vI x1]) dX9_advance_123 lX9_28 iX9_byteAt rfl rfl rfl (Nat.le_of_ble_eq_true rfl) T (fun r_5 M7 T => ?_)
        refine r_bipush dX9_advance_126 (by decide) (by decide) ?_
        refine r_icmp_eq (tgt := 141) dX9_advance_128 (by decide) (fun h_2 => ?_) (fun h_2 => ?_)
        · have T := T.1 h_2
          refine r_iconst dX9_advance_141 (by decide) ?_
          refine r_goto (tgt := 146) dX9_advance_142 (by decide) ?_
          exact T
        · have T := T.2 h_2
          refine r_aload_n dX9_advance_131 rfl ?_
          refine r_iload_n dX9_advance_132 rfl ?_
          refine r_callVI (md' := mX9_byteAt) (as := [vI x1]) dX9_advance_133 lX9_28 iX9_byteAt rfl rfl rfl (Nat.le_of_ble_eq_true rfl) T (fun r_6 M8 T => ?_)
          refine r_bipush dX9_advance_136 (by decide) (by decide) ?_
          refine r_icmp_ne (tgt := 145) dX9_advance_138 (by decide) (fun h_1 => ?_) (fun h_1 => ?_)
          · have T := T.1 h_1
            refine r_iconst dX9_advance_145 (by decide) ?_
            exact T
          · have T := T.2 h_1
            refine r_iconst dX9_advance_141 (by decide) ?_
            refine r_goto (tgt := 146) dX9_advance_142 (by decide) ?_
            exact T
      · have T := T.2 h_3
        refine r_aload_n dX9_advance_102 rfl ?_
        refine r_iconst dX9_advance_103 (by decide) ?_
        refine n_put dX9_advance_104 pX9_35 rfl tX9_2 (fun M9 hM9 => ?_)
        have T := T M9 hM9
        refine r_aload_n dX9_advance_107 rfl ?_
        refine r_iload_n dX9_advance_108 rfl ?_
        refine r_callVI (md' := mX9_behindDigits) (as := [vI x1]) dX9_advance_109 lX9_45 iX9_behindDigits rfl rfl rfl (Nat.le_of_ble_eq_true rfl) T (fun r_7 M10 T => ?_)
        refine r_istore_n dX9_advance_112 (by decide) rfl ?_
        refine r_goto (tgt := 171) dX9_advance_113 (by decide) ?_
        refine r_aload_n dX9_advance_171 rfl ?_
        refine r_iload_n dX9_advance_172 rfl ?_
        refine n_put dX9_advance_173 pX9_22 rfl tX9_4 (fun M11 hM11 => ?_)
        have T := T M11 hM11
        exact r_return dX9_advance_176 rfl ⟨rfl, T⟩
    · have T := T.2 h_4
      refine r_aload_n dX9_advance_61 rfl ?_
      refine r_iconst dX9_advance_62 (by decide) ?_
      refine n_put dX9_advance_63 pX9_35 rfl tX9_2 (fun M12 hM12 => ?_)
      have T := T M12 hM12
      exact T
  · have T := T.2 h_5
    refine r_aload_n dX9_advance_42 rfl ?_
    refine r_iconst dX9_advance_43 (by decide) ?_
    refine n_put dX9_advance_44 pX9_35 rfl tX9_2 (fun M13 hM13 => ?_)
    have T := T M13 hM13
    refine r_goto (tgt := 171) dX9_advance_47 (by decide) ?_
    refine r_aload_n dX9_advance_171 rfl ?_
    refine r_iload_n dX9_advance_172 rfl ?_
    refine n_put dX9_advance_173 pX9_22 rfl tX9_4 (fun M14 hM14 => ?_)
    have T := T M14 hM14
    exact r_return dX9_advance_176 rfl ⟨rfl, T⟩
set_option maxRecDepth 20000 in
set_option maxHeartbeats 1000000 in
theorem bX9_advance_146 {G : Gx} {K : Kx} {n : Nat} {M : Mem} {Q : Mem → Prop}  {x1 : Int} {z0 : Int}  (T : (z0 = 0 → ∀ M1 : Mem, M1 = mset M 2 4 0 (wr (x1 + 1)) → Q M1) ∧ (¬ (z0 = 0) → OkI G n mX9_byteAt [vO 2, vI (wr (x1 + 1))] M (fun r_1 M2 => (¬ r_1 = 61 → ∀ M3 : Mem, M3 = mset M2 2 4 0 (wr (x1 + 1)) → Q M3) ∧ (r_1 = 61 → ∀ M4 : Mem, M4 = mset M2 2 4 0 (wr (x1 + 2)) → Q M4)))) : CW G K mX9_advance (n + 1) 146 [some (vO 2), some (vI x1), none] [vI z0] M (qV Q) := by
  refine r_istore_n dX9_advance_146 (by decide) rfl ?_
  refine r_iload_n dX9_advance_147 rfl ?_
  refine r_iload_n dX9_advance_148 rfl ?_
  refine r_if_eq (tgt := 168) dX9_advance_149 (by decide) (fun h_2 => ?_) (fun h_2 => ?_)
  · have T := T.1 h_2
    refine r_iconst dX9_advance_168 (by decide) ?_
    refine r_iadd dX9_advance_169 ?_
    refine r_istore_n dX9_advance_170 (by decide) rfl ?_
    refine r_aload_n dX9_advance_171 rfl ?_
    refine r_iload_n dX9_advance_172 rfl ?_
    refine n_put dX9_advance_173 pX9_22 rfl tX9_4 (fun M1 hM1 => ?_)
    have T := T M1 hM1
    exact r_return dX9_advance_176 rfl ⟨rfl, T⟩
  · have T := T.2 h_2
    refine r_aload_n dX9_advance_152 rfl ?_
    refine r_iload_n dX9_advance_153 rfl ?_
    refine r_iconst dX9_advance_154 (by decide) ?_
    refine r_iadd dX9_advance_155 ?_
    refine r_callVI (md' := mX9_byteAt) (as := [vI (wr (x1 + 1))]) dX9_advance_156 lX9_28 iX9_byteAt rfl rfl rfl (Nat.le_of_ble_eq_true rfl) T (fun r_1 M2 T => ?_)
    refine r_bipush dX9_advance_159 (by decide) (by decide) ?_
    refine r_icmp_ne (tgt := 168) dX9_advance_161 (by decide) (fun h_1 => ?_) (fun h_1 => ?_)
    · have T := T.1 h_1
      refine r_iconst dX9_advance_168 (by decide) ?_
      refine r_iadd dX9_advance_169 ?_
      refine r_istore_n dX9_advance_170 (by decide) rfl ?_
      refine r_aload_n dX9_advance_171 rfl ?_
      refine r_iload_n dX9_advance_172 rfl ?_
      refine n_put dX9_advance_173 pX9_22 rfl tX9_4 (fun M3 hM3 => ?_)
      have T := T M3 hM3
      exact r_return dX9_advance_176 rfl ⟨rfl, T⟩
    · have T := T.2 h_1
      refine r_iconst dX9_advance_164 (by decide) ?_
      refine r_goto (tgt := 169) dX9_advance_165 (by decide) ?_
      refine r_iadd dX9_advance_169 ?_
      refine r_istore_n dX9_advance_170 (by decide) rfl ?_
      refine r_aload_n dX9_advance_171 rfl ?_
      refine r_iload_n dX9_advance_172 rfl ?_
      refine n_put dX9_advance_173 pX9_22 rfl tX9_4 (fun M4 hM4 => ?_)
      have T := T M4 hM4
      exact r_return dX9_advance_176 rfl ⟨rfl, T⟩
set_option maxRecDepth 20000 in
set_option maxHeartbeats 1000000 in
theorem bX9_advance_66 {G : Gx} {K : Kx} {n : Nat} {M : Mem} {Q : Mem → Prop}  {x1 : Int}  (T : OkI G n mX9_byteAt [vO 2, vI x1] M (fun r_1 M1 => OkI G n mX9_isLetter [vI r_1] M1 (fun r_2 M2 => (r_2 = 0 → ∀ M3 : Mem, M3 = mset M2 2 4 0 x1 → Q M3) ∧ (¬ (r_2 = 0) → (M2 2 1 0 ≤ x1 → ∀ M4 : Mem, M4 = mset M2 2 4 0 x1 → Q M4) ∧ (¬ (M2 2 1 0 ≤ x1) → CW G K mX9_advance (n + 1) 66 [some (vO 2), some (vI (wr (x1 + 1))), none] [] M2 (qV Q)))))) : CW G K mX9_advance (n + 1) 66 [some (vO 2), some (vI x1), none] [] M (qV Q) := by
  refine r_aload_n dX9_advance_66 rfl ?_
  refine r_iload_n dX9_advance_67 rfl ?_
  refine r_callVI (md' := mX9_byteAt) (as := [vI x1]) dX9_advance_68 lX9_28 iX9_byteAt rfl rfl rfl (Nat.le_of_ble_eq_true rfl) T (fun r_1 M1 T => ?_)
  refine r_callSI (md' := mX9_isLetter) (as := [vI r_1]) dX9_advance_71 lX9_38 iX9_isLetter rfl rfl (Nat.le_of_ble_eq_true rfl) T (fun r_2 M2 T => ?_)
  refine r_if_eq (tgt := 171) dX9_advance_74 (by decide) (fun h_2 => ?_) (fun h_2 => ?_)
  · have T := T.1 h_2
    refine r_aload_n dX9_advance_171 rfl ?_
    refine r_iload_n dX9_advance_172 rfl ?_
    refine n_put dX9_advance_173 pX9_22 rfl tX9_4 (fun M3 hM3 => ?_)
    have T := T M3 hM3
    exact r_return dX9_advance_176 rfl ⟨rfl, T⟩
  · have T := T.2 h_2
    refine r_iload_n dX9_advance_77 rfl ?_
    refine r_aload_n dX9_advance_78 rfl ?_
    refine r_getI dX9_advance_79 fX9_15 rfl tX9_1 ?_
    refine r_icmp_ge (tgt := 171) dX9_advance_82 (by decide) (fun h_1 => ?_) (fun h_1 => ?_)
    · have T := T.1 h_1
      refine r_aload_n dX9_advance_171 rfl ?_
      refine r_iload_n dX9_advance_172 rfl ?_
      refine n_put dX9_advance_173 pX9_22 rfl tX9_4 (fun M4 hM4 => ?_)
      have T := T M4 hM4
      exact r_return dX9_advance_176 rfl ⟨rfl, T⟩
    · have T := T.2 h_1
      refine r_iinc dX9_advance_85 rfl (by decide) rfl ?_
      refine r_goto (tgt := 66) dX9_advance_88 (by decide) ?_
      exact T
theorem eX9_advance {G : Gx} {n : Nat} {M : Mem} {Q : Mem → Prop}   (h : ∀ K : Kx, CW G K mX9_advance n 0 [some (vO 2), none, none] [] M (qV Q)) : OkV G n mX9_advance [vO 2] M Q := Ok_of (by decide) (Nat.le_of_ble_eq_true rfl) rfl h
-- DownOnly$Tape behindDigits (I)I
set_option maxRecDepth 20000 in
set_option maxHeartbeats 1000000 in
theorem bX9_behindDigits_0 {G : Gx} {K : Kx} {n : Nat} {M : Mem} {Q : Int → Mem → Prop}  {x1 : Int}  (T : ∀ M1 : Mem, M1 = mset M 2 5 0 0 → ∀ M2 : Mem, M2 = mset M1 2 6 0 0 → CW G K mX9_behindDigits n 12 [some (vO 2), none, some (vI x1)] [] M2 (qI Q)) : CW G K mX9_behindDigits n 0 [some (vO 2), some (vI x1), none] [] M (qI Q) := by
  refine r_iload_n dX9_behindDigits_0 rfl ?_
  refine r_istore_n dX9_behindDigits_1 (by decide) rfl ?_
  refine r_aload_n dX9_behindDigits_2 rfl ?_
  refine r_iconst dX9_behindDigits_3 (by decide) ?_
  refine n_put dX9_behindDigits_4 pX9_48 rfl tX9_5 (fun M1 hM1 => ?_)
  have T := T M1 hM1
  refine r_aload_n dX9_behindDigits_7 rfl ?_
  refine r_iconst dX9_behindDigits_8 (by decide) ?_
  refine n_put dX9_behindDigits_9 pX9_51 rfl tX9_6 (fun M2 hM2 => ?_)
  have T := T M2 hM2
  exact CW_msk [true, false, true] rfl T
set_option maxRecDepth 20000 in
set_option maxHeartbeats 1000000 in
theorem bX9_behindDigits_12 {G : Gx} {K : Kx} {n : Nat} {M : Mem} {Q : Int → Mem → Prop}  {x2 : Int}  (T : (x2 < 0 → Q x2 M) ∧ (¬ (x2 < 0) → (M 2 1 0 ≤ x2 → Q x2 M) ∧ (¬ (M 2 1 0 ≤ x2) → (400 ≤ x2 → Q x2 M) ∧ (¬ (400 ≤ x2) → (0 ≤ x2 ∧ x2 < 400) ∧ ((M 2 0 x2.toNat < 48 → Q x2 M) ∧ (¬ (M 2 0 x2.toNat < 48) → (0 ≤ x2 ∧ x2 < 400) ∧ ((57 < M 2 0 x2.toNat → Q x2 M) ∧ (¬ (57 < M 2 0 x2.toNat) → ∀ M1 : Mem, M1 = mset M 2 5 0 (wr (M 2 5 0 + 1)) → (5 < M1 2 5 0 → CW G K mX9_behindDigits n 12 [some (vO 2), none, some (vI (wr (x2 + 1)))] [] M1 (qI Q)) ∧ (¬ (5 < M1 2 5 0) → (0 ≤ x2 ∧ x2 < 400) ∧ (∀ M2 : Mem, M2 = mset M1 2 6 0 (wr (wr (wr ((M1 2 6 0) * 10) + (M1 2 0 x2.toNat)) - 48)) → CW G K mX9_behindDigits n 12 [some (vO 2), none, some (vI (wr (x2 + 1)))] [] M2 (qI Q))))))))))) : CW G K mX9_behindDigits n 12 [some (vO 2), none, some (vI x2)] [] M (qI Q) := by
  refine r_iload_n dX9_behindDigits_12 rfl ?_
  refine r_if_lt (tgt := 100) dX9_behindDigits_13 (by decide) (fun h_6 => ?_) (fun h_6 => ?_)
  · have T := T.1 h_6
    refine r_iload_n dX9_behindDigits_100 rfl ?_
    exact r_ireturn dX9_behindDigits_101 rfl ⟨_, rfl, T⟩
  · have T := T.2 h_6
    refine r_iload_n dX9_behindDigits_16 rfl ?_
    refine r_aload_n dX9_behindDigits_17 rfl ?_
    refine r_getI dX9_behindDigits_18 fX9_15 rfl tX9_1 ?_
    refine r_icmp_ge (tgt := 100) dX9_behindDigits_21 (by decide) (fun h_5 => ?_) (fun h_5 => ?_)
    · have T := T.1 h_5
      refine r_iload_n dX9_behindDigits_100 rfl ?_
      exact r_ireturn dX9_behindDigits_101 rfl ⟨_, rfl, T⟩
    · have T := T.2 h_5
      refine r_iload_n dX9_behindDigits_24 rfl ?_
      refine r_aload_n dX9_behindDigits_25 rfl ?_
      refine r_getA dX9_behindDigits_26 fX9_9 rfl uX9_0 ?_
      refine s_alen dX9_behindDigits_29 rfl uX9_0 aX9_0 (by decide) ?_
      refine r_icmp_ge (tgt := 100) dX9_behindDigits_30 (by decide) (fun h_4 => ?_) (fun h_4 => ?_)
      · have T := T.1 h_4
        refine r_iload_n dX9_behindDigits_100 rfl ?_
        exact r_ireturn dX9_behindDigits_101 rfl ⟨_, rfl, T⟩
      · have T := T.2 h_4
        refine r_aload_n dX9_behindDigits_33 rfl ?_
        refine r_getA dX9_behindDigits_34 fX9_9 rfl uX9_0 ?_
        refine r_iload_n dX9_behindDigits_37 rfl ?_
        refine s_iald dX9_behindDigits_38 rfl tX9_0 aX9_0 T.1 ?_
        have T := T.2
        refine r_bipush dX9_behindDigits_39 (by decide) (by decide) ?_
        refine r_icmp_lt (tgt := 100) dX9_behindDigits_41 (by decide) (fun h_3 => ?_) (fun h_3 => ?_)
        · have T := T.1 h_3
          refine r_iload_n dX9_behindDigits_100 rfl ?_
          exact r_ireturn dX9_behindDigits_101 rfl ⟨_, rfl, T⟩
        · have T := T.2 h_3
          refine r_aload_n dX9_behindDigits_44 rfl ?_
          refine r_getA dX9_behindDigits_45 fX9_9 rfl uX9_0 ?_
          refine r_iload_n dX9_behindDigits_48 rfl ?_
          refine s_iald dX9_behindDigits_49 rfl tX9_0 aX9_0 T.1 ?_
          have T := T.2
          refine r_bipush dX9_behindDigits_50 (by decide) (by decide) ?_
          refine r_icmp_gt (tgt := 100) dX9_behindDigits_52 (by decide) (fun h_2 => ?_) (fun h_2 => ?_)
          · have T := T.1 h_2
            refine r_iload_n dX9_behindDigits_100 rfl ?_
            exact r_ireturn dX9_behindDigits_101 rfl ⟨_, rfl, T⟩
          · have T := T.2 h_2
            refine r_aload_n dX9_behindDigits_55 rfl ?_
            refine r_dup dX9_behindDigits_56 rfl ?_
            refine r_getI dX9_behindDigits_57 fX9_48 rfl tX9_5 ?_
            refine r_iconst dX9_behindDigits_60 (by decide) ?_
            refine r_iadd dX9_behindDigits_61 ?_
            refine n_put dX9_behindDigits_62 pX9_48 rfl tX9_5 (fun M1 hM1 => ?_)
            have T := T M1 hM1
            refine r_aload_n dX9_behindDigits_65 rfl ?_
            refine r_getI dX9_behindDigits_66 fX9_48 rfl tX9_5 ?_
            refine r_iconst dX9_behindDigits_69 (by decide) ?_
            refine r_icmp_gt (tgt := 94) dX9_behindDigits_70 (by decide) (fun h_1 => ?_) (fun h_1 => ?_)
            · have T := T.1 h_1
              refine r_iinc dX9_behindDigits_94 rfl (by decide) rfl ?_
              refine r_goto (tgt := 12) dX9_behindDigits_97 (by decide) ?_
              exact T
            · have T := T.2 h_1
              refine r_aload_n dX9_behindDigits_73 rfl ?_
              refine r_aload_n dX9_behindDigits_74 rfl ?_
              refine r_getI dX9_behindDigits_75 fX9_51 rfl tX9_6 ?_
              refine r_bipush dX9_behindDigits_78 (by decide) (by decide) ?_
              refine r_imul dX9_behindDigits_80 ?_
              refine r_aload_n dX9_behindDigits_81 rfl ?_
              refine r_getA dX9_behindDigits_82 fX9_9 rfl uX9_0 ?_
              refine r_iload_n dX9_behindDigits_85 rfl ?_
              refine s_iald dX9_behindDigits_86 rfl tX9_0 aX9_0 T.1 ?_
              have T := T.2
              refine r_iadd dX9_behindDigits_87 ?_
              refine r_bipush dX9_behindDigits_88 (by decide) (by decide) ?_
              refine r_isub dX9_behindDigits_90 ?_
              refine n_put dX9_behindDigits_91 pX9_51 rfl tX9_6 (fun M2 hM2 => ?_)
              have T := T M2 hM2
              refine r_iinc dX9_behindDigits_94 rfl (by decide) rfl ?_
              refine r_goto (tgt := 12) dX9_behindDigits_97 (by decide) ?_
              exact T
theorem eX9_behindDigits {G : Gx} {n : Nat} {M : Mem} {Q : Int → Mem → Prop}  {x1 : Int} (h : ∀ K : Kx, CW G K mX9_behindDigits n 0 [some (vO 2), some (vI x1), none] [] M (qI Q)) : OkI G n mX9_behindDigits [vO 2, vI x1] M Q := Ok_of (by decide) (Nat.le_of_ble_eq_true rfl) rfl h
-- DownOnly$Tape byteAt (I)I
set_option maxRecDepth 20000 in
set_option maxHeartbeats 1000000 in
theorem bX9_byteAt_0 {G : Gx} {K : Kx} {n : Nat} {M : Mem} {Q : Int → Mem → Prop}  {x1 : Int}  (T : (x1 < 0 → Q (-1) M) ∧ (¬ (x1 < 0) → (M 2 1 0 ≤ x1 → Q (-1) M) ∧ (¬ (M 2 1 0 ≤ x1) → (400 ≤ x1 → Q (-1) M) ∧ (¬ (400 ≤ x1) → (0 ≤ x1 ∧ x1 < 400) ∧ (Q (M 2 0 x1.toNat) M))))) : CW G K mX9_byteAt n 0 [some (vO 2), some (vI x1)] [] M (qI Q) := by
  refine r_iload_n dX9_byteAt_0 rfl ?_
  refine r_if_lt (tgt := 30) dX9_byteAt_1 (by decide) (fun h_3 => ?_) (fun h_3 => ?_)
  · have T := T.1 h_3
    refine r_iconst dX9_byteAt_30 (by decide) ?_
    exact r_ireturn dX9_byteAt_31 rfl ⟨_, rfl, T⟩
  · have T := T.2 h_3
    refine r_iload_n dX9_byteAt_4 rfl ?_
    refine r_aload_n dX9_byteAt_5 rfl ?_
    refine r_getI dX9_byteAt_6 fX9_15 rfl tX9_1 ?_
    refine r_icmp_ge (tgt := 30) dX9_byteAt_9 (by decide) (fun h_2 => ?_) (fun h_2 => ?_)
    · have T := T.1 h_2
      refine r_iconst dX9_byteAt_30 (by decide) ?_
      exact r_ireturn dX9_byteAt_31 rfl ⟨_, rfl, T⟩
    · have T := T.2 h_2
      refine r_iload_n dX9_byteAt_12 rfl ?_
      refine r_aload_n dX9_byteAt_13 rfl ?_
      refine r_getA dX9_byteAt_14 fX9_9 rfl uX9_0 ?_
      refine s_alen dX9_byteAt_17 rfl uX9_0 aX9_0 (by decide) ?_
      refine r_icmp_ge (tgt := 30) dX9_byteAt_18 (by decide) (fun h_1 => ?_) (fun h_1 => ?_)
      · have T := T.1 h_1
        refine r_iconst dX9_byteAt_30 (by decide) ?_
        exact r_ireturn dX9_byteAt_31 rfl ⟨_, rfl, T⟩
      · have T := T.2 h_1
        refine r_aload_n dX9_byteAt_21 rfl ?_
        refine r_getA dX9_byteAt_22 fX9_9 rfl uX9_0 ?_
        refine r_iload_n dX9_byteAt_25 rfl ?_
        refine s_iald dX9_byteAt_26 rfl tX9_0 aX9_0 T.1 ?_
        have T := T.2
        refine r_goto (tgt := 31) dX9_byteAt_27 (by decide) ?_
        exact r_ireturn dX9_byteAt_31 rfl ⟨_, rfl, T⟩
theorem eX9_byteAt {G : Gx} {n : Nat} {M : Mem} {Q : Int → Mem → Prop}  {x1 : Int} (h : ∀ K : Kx, CW G K mX9_byteAt n 0 [some (vO 2), some (vI x1)] [] M (qI Q)) : OkI G n mX9_byteAt [vO 2, vI x1] M Q := Ok_of (by decide) (Nat.le_of_ble_eq_true rfl) rfl h
-- DownOnly$Tape isLetter (I)Z
set_option maxRecDepth 20000 in
set_option maxHeartbeats 1000000 in
theorem bX9_isLetter_0 {G : Gx} {K : Kx} {n : Nat} {M : Mem} {Q : Int → Mem → Prop}  {x0 : Int}  (T : (x0 < 97 → Q 0 M) ∧ (¬ (x0 < 97) → (122 < x0 → Q 0 M) ∧ (¬ (122 < x0) → Q 1 M))) : CW G K mX9_isLetter n 0 [some (vI x0)] [] M (qI Q) := by
  refine r_iload_n dX9_isLetter_0 rfl ?_
  refine r_bipush dX9_isLetter_1 (by decide) (by decide) ?_
  refine r_icmp_lt (tgt := 16) dX9_isLetter_3 (by decide) (fun h_2 => ?_) (fun h_2 => ?_)
  · have T := T.1 h_2
    refine r_iconst dX9_isLetter_16 (by decide) ?_
    exact r_zreturn dX9_isLetter_17 rfl (by decide) ⟨_, rfl, T⟩
  · have T := T.2 h_2
    refine r_iload_n dX9_isLetter_6 rfl ?_
    refine r_bipush dX9_isLetter_7 (by decide) (by decide) ?_
    refine r_icmp_gt (tgt := 16) dX9_isLetter_9 (by decide) (fun h_1 => ?_) (fun h_1 => ?_)
    · have T := T.1 h_1
      refine r_iconst dX9_isLetter_16 (by decide) ?_
      exact r_zreturn dX9_isLetter_17 rfl (by decide) ⟨_, rfl, T⟩
    · have T := T.2 h_1
      refine r_iconst dX9_isLetter_12 (by decide) ?_
      refine r_goto (tgt := 17) dX9_isLetter_13 (by decide) ?_
      exact r_zreturn dX9_isLetter_17 rfl (by decide) ⟨_, rfl, T⟩
theorem eX9_isLetter {G : Gx} {n : Nat} {M : Mem} {Q : Int → Mem → Prop}  {x0 : Int} (h : ∀ K : Kx, CW G K mX9_isLetter n 0 [some (vI x0)] [] M (qI Q)) : OkI G n mX9_isLetter [vI x0] M Q := Ok_of (by decide) (Nat.le_of_ble_eq_true rfl) rfl h
-- DownOnly$Tape isDigit (I)Z
set_option maxRecDepth 20000 in
set_option maxHeartbeats 1000000 in
theorem bX9_isDigit_0 {G : Gx} {K : Kx} {n : Nat} {M : Mem} {Q : Int → Mem → Prop}  {x0 : Int}  (T : (x0 < 48 → Q 0 M) ∧ (¬ (x0 < 48) → (57 < x0 → Q 0 M) ∧ (¬ (57 < x0) → Q 1 M))) : CW G K mX9_isDigit n 0 [some (vI x0)] [] M (qI Q) := by
  refine r_iload_n dX9_isDigit_0 rfl ?_
  refine r_bipush dX9_isDigit_1 (by decide) (by decide) ?_
  refine r_icmp_lt (tgt := 16) dX9_isDigit_3 (by decide) (fun h_2 => ?_) (fun h_2 => ?_)
  · have T := T.1 h_2
    refine r_iconst dX9_isDigit_16 (by decide) ?_
    exact r_zreturn dX9_isDigit_17 rfl (by decide) ⟨_, rfl, T⟩
  · have T := T.2 h_2
    refine r_iload_n dX9_isDigit_6 rfl ?_
    refine r_bipush dX9_isDigit_7 (by decide) (by decide) ?_
    refine r_icmp_gt (tgt := 16) dX9_isDigit_9 (by decide) (fun h_1 => ?_) (fun h_1 => ?_)
    · have T := T.1 h_1
      refine r_iconst dX9_isDigit_16 (by decide) ?_
      exact r_zreturn dX9_isDigit_17 rfl (by decide) ⟨_, rfl, T⟩
    · have T := T.2 h_1
      refine r_iconst dX9_isDigit_12 (by decide) ?_
      refine r_goto (tgt := 17) dX9_isDigit_13 (by decide) ?_
      exact r_zreturn dX9_isDigit_17 rfl (by decide) ⟨_, rfl, T⟩
theorem eX9_isDigit {G : Gx} {n : Nat} {M : Mem} {Q : Int → Mem → Prop}  {x0 : Int} (h : ∀ K : Kx, CW G K mX9_isDigit n 0 [some (vI x0)] [] M (qI Q)) : OkI G n mX9_isDigit [vI x0] M Q := Ok_of (by decide) (Nat.le_of_ble_eq_true rfl) rfl h
-- DownOnly$Tape isSign (C)Z
set_option maxRecDepth 20000 in
set_option maxHeartbeats 1000000 in
theorem bX9_isSign_0 {G : Gx} {K : Kx} {n : Nat} {M : Mem} {Q : Int → Mem → Prop}  {x1 : Int}  (T : (¬ M 2 2 0 = 3 → Q 0 M) ∧ (M 2 2 0 = 3 → (¬ wr (M 2 4 0 - (M 2 3 0)) = 1 → Q 0 M) ∧ (wr (M 2 4 0 - (M 2 3 0)) = 1 → OkI G n mX9_byteAt [vO 2, vI (M 2 3 0)] M (fun r_1 M1 => (¬ r_1 = x1 → Q 0 M1) ∧ (r_1 = x1 → Q 1 M1))))) : CW G K mX9_isSign (n + 1) 0 [some (vO 2), some (vI x1)] [] M (qI Q) := by
  refine r_aload_n dX9_isSign_0 rfl ?_
  refine r_getI dX9_isSign_1 fX9_35 rfl tX9_2 ?_
  refine r_iconst dX9_isSign_4 (by decide) ?_
  refine r_icmp_ne (tgt := 37) dX9_isSign_5 (by decide) (fun h_3 => ?_) (fun h_3 => ?_)
  · have T := T.1 h_3
    refine r_iconst dX9_isSign_37 (by decide) ?_
    exact r_zreturn dX9_isSign_38 rfl (by decide) ⟨_, rfl, T⟩
  · have T := T.2 h_3
    refine r_aload_n dX9_isSign_8 rfl ?_
    refine r_getI dX9_isSign_9 fX9_22 rfl tX9_4 ?_
    refine r_aload_n dX9_isSign_12 rfl ?_
    refine r_getI dX9_isSign_13 fX9_32 rfl tX9_3 ?_
    refine r_isub dX9_isSign_16 ?_
    refine r_iconst dX9_isSign_17 (by decide) ?_
    refine r_icmp_ne (tgt := 37) dX9_isSign_18 (by decide) (fun h_2 => ?_) (fun h_2 => ?_)
    · have T := T.1 h_2
      refine r_iconst dX9_isSign_37 (by decide) ?_
      exact r_zreturn dX9_isSign_38 rfl (by decide) ⟨_, rfl, T⟩
    · have T := T.2 h_2
      refine r_aload_n dX9_isSign_21 rfl ?_
      refine r_aload_n dX9_isSign_22 rfl ?_
      refine r_getI dX9_isSign_23 fX9_32 rfl tX9_3 ?_
      refine r_callVI (md' := mX9_byteAt) (as := [vI (M 2 3 0)]) dX9_isSign_26 lX9_28 iX9_byteAt rfl rfl rfl (Nat.le_of_ble_eq_true rfl) T (fun r_1 M1 T => ?_)
      refine r_iload_n dX9_isSign_29 rfl ?_
      refine r_icmp_ne (tgt := 37) dX9_isSign_30 (by decide) (fun h_1 => ?_) (fun h_1 => ?_)
      · have T := T.1 h_1
        refine r_iconst dX9_isSign_37 (by decide) ?_
        exact r_zreturn dX9_isSign_38 rfl (by decide) ⟨_, rfl, T⟩
      · have T := T.2 h_1
        refine r_iconst dX9_isSign_33 (by decide) ?_
        refine r_goto (tgt := 38) dX9_isSign_34 (by decide) ?_
        exact r_zreturn dX9_isSign_38 rfl (by decide) ⟨_, rfl, T⟩
theorem eX9_isSign {G : Gx} {n : Nat} {M : Mem} {Q : Int → Mem → Prop}  {x1 : Int} (h : ∀ K : Kx, CW G K mX9_isSign n 0 [some (vO 2), some (vI x1)] [] M (qI Q)) : OkI G n mX9_isSign [vO 2, vI x1] M Q := Ok_of (by decide) (Nat.le_of_ble_eq_true rfl) rfl h
-- DownOnly$Tape refuse (I)Z
set_option maxRecDepth 20000 in
set_option maxHeartbeats 1000000 in
theorem bX9_refuse_0 {G : Gx} {K : Kx} {n : Nat} {M : Mem} {Q : Int → Mem → Prop}  {x1 : Int}  (T : ∀ M1 : Mem, M1 = mset M 2 7 0 (wr (wr (1 + (wr (8 * (M 2 3 0)))) + x1)) → Q 0 M1) : CW G K mX9_refuse n 0 [some (vO 2), some (vI x1)] [] M (qI Q) := by
  refine r_aload_n dX9_refuse_0 rfl ?_
  refine r_iconst dX9_refuse_1 (by decide) ?_
  refine r_bipush dX9_refuse_2 (by decide) (by decide) ?_
  refine r_aload_n dX9_refuse_4 rfl ?_
  refine r_getI dX9_refuse_5 fX9_32 rfl tX9_3 ?_
  refine r_imul dX9_refuse_8 ?_
  refine r_iadd dX9_refuse_9 ?_
  refine r_iload_n dX9_refuse_10 rfl ?_
  refine r_iadd dX9_refuse_11 ?_
  refine n_put dX9_refuse_12 pX9_19 rfl tX9_7 (fun M1 hM1 => ?_)
  have T := T M1 hM1
  refine r_iconst dX9_refuse_15 (by decide) ?_
  exact r_zreturn dX9_refuse_16 rfl (by decide) ⟨_, rfl, T⟩
theorem eX9_refuse {G : Gx} {n : Nat} {M : Mem} {Q : Int → Mem → Prop}  {x1 : Int} (h : ∀ K : Kx, CW G K mX9_refuse n 0 [some (vO 2), some (vI x1)] [] M (qI Q)) : OkI G n mX9_refuse [vO 2, vI x1] M Q := Ok_of (by decide) (Nat.le_of_ble_eq_true rfl) rfl h
-- DownOnly$Tape isNumber (II)Z
set_option maxRecDepth 20000 in
set_option maxHeartbeats 1000000 in
theorem bX9_isNumber_0 {G : Gx} {K : Kx} {n : Nat} {M : Mem} {Q : Int → Mem → Prop}  {x1 : Int} {x2 : Int}  (T : (M 2 2 0 = 2 → (5 < M 2 5 0 → CW G K mX9_isNumber (n + 1) 43 [some (vO 2), none, none, none] [vI 0] M (qI Q)) ∧ (¬ (5 < M 2 5 0) → (M 2 6 0 < x1 → CW G K mX9_isNumber (n + 1) 43 [some (vO 2), none, none, none] [vI 0] M (qI Q)) ∧ (¬ (M 2 6 0 < x1) → (x2 < M 2 6 0 → CW G K mX9_isNumber (n + 1) 43 [some (vO 2), none, none, none] [vI 0] M (qI Q)) ∧ (¬ (x2 < M 2 6 0) → CW G K mX9_isNumber (n + 1) 43 [some (vO 2), none, none, none] [vI 1] M (qI Q))))) ∧ (¬ (M 2 2 0 = 2) → OkI G n mX9_refuse [vO 2, vI 0] M (fun r_1 M1 => (r_1 = 0 ∨ r_1 = 1) ∧ Q r_1 M1))) : CW G K mX9_isNumber (n + 1) 0 [some (vO 2), some (vI x1), some (vI x2), none] [] M (qI Q) := by
  refine r_aload_n dX9_isNumber_0 rfl ?_
  refine r_getI dX9_isNumber_1 fX9_35 rfl tX9_2 ?_
  refine r_iconst dX9_isNumber_4 (by decide) ?_
  refine r_icmp_eq (tgt := 14) dX9_isNumber_5 (by decide) (fun h_4 => ?_) (fun h_4 => ?_)
  · have T := T.1 h_4
    refine r_aload_n dX9_isNumber_14 rfl ?_
    refine r_getI dX9_isNumber_15 fX9_48 rfl tX9_5 ?_
    refine r_iconst dX9_isNumber_18 (by decide) ?_
    refine r_icmp_gt (tgt := 42) dX9_isNumber_19 (by decide) (fun h_3 => ?_) (fun h_3 => ?_)
    · have T := T.1 h_3
      refine r_iconst dX9_isNumber_42 (by decide) ?_
      exact CW_msk [true, false, false, false] rfl T
    · have T := T.2 h_3
      refine r_aload_n dX9_isNumber_22 rfl ?_
      refine r_getI dX9_isNumber_23 fX9_51 rfl tX9_6 ?_
      refine r_iload_n dX9_isNumber_26 rfl ?_
      refine r_icmp_lt (tgt := 42) dX9_isNumber_27 (by decide) (fun h_2 => ?_) (fun h_2 => ?_)
      · have T := T.1 h_2
        refine r_iconst dX9_isNumber_42 (by decide) ?_
        exact CW_msk [true, false, false, false] rfl T
      · have T := T.2 h_2
        refine r_aload_n dX9_isNumber_30 rfl ?_
        refine r_getI dX9_isNumber_31 fX9_51 rfl tX9_6 ?_
        refine r_iload_n dX9_isNumber_34 rfl ?_
        refine r_icmp_gt (tgt := 42) dX9_isNumber_35 (by decide) (fun h_1 => ?_) (fun h_1 => ?_)
        · have T := T.1 h_1
          refine r_iconst dX9_isNumber_42 (by decide) ?_
          exact CW_msk [true, false, false, false] rfl T
        · have T := T.2 h_1
          refine r_iconst dX9_isNumber_38 (by decide) ?_
          refine r_goto (tgt := 43) dX9_isNumber_39 (by decide) ?_
          exact CW_msk [true, false, false, false] rfl T
  · have T := T.2 h_4
    refine r_aload_n dX9_isNumber_8 rfl ?_
    refine r_iconst dX9_isNumber_9 (by decide) ?_
    refine r_callVI (md' := mX9_refuse) (as := [vI 0]) dX9_isNumber_10 lX9_63 iX9_refuse rfl rfl rfl (Nat.le_of_ble_eq_true rfl) T (fun r_1 M1 T => ?_)
    exact r_zreturn dX9_isNumber_13 rfl T.1 ⟨_, rfl, T.2⟩
set_option maxRecDepth 20000 in
set_option maxHeartbeats 1000000 in
theorem bX9_isNumber_43 {G : Gx} {K : Kx} {n : Nat} {M : Mem} {Q : Int → Mem → Prop}  {z0 : Int}  (T : (¬ z0 = 0 → Q 1 M) ∧ (z0 = 0 → OkI G n mX9_refuse [vO 2, vI 1] M (fun r_1 M1 => (r_1 = 0 → Q 0 M1) ∧ (¬ (r_1 = 0) → Q 1 M1)))) : CW G K mX9_isNumber (n + 1) 43 [some (vO 2), none, none, none] [vI z0] M (qI Q) := by
  refine r_istore_n dX9_isNumber_43 (by decide) rfl ?_
  refine r_iload_n dX9_isNumber_44 rfl ?_
  refine r_if_ne (tgt := 56) dX9_isNumber_45 (by decide) (fun h_2 => ?_) (fun h_2 => ?_)
  · have T := T.1 h_2
    refine r_iconst dX9_isNumber_56 (by decide) ?_
    refine r_goto (tgt := 61) dX9_isNumber_57 (by decide) ?_
    exact r_zreturn dX9_isNumber_61 rfl (by decide) ⟨_, rfl, T⟩
  · have T := T.2 h_2
    refine r_aload_n dX9_isNumber_48 rfl ?_
    refine r_iconst dX9_isNumber_49 (by decide) ?_
    refine r_callVI (md' := mX9_refuse) (as := [vI 1]) dX9_isNumber_50 lX9_63 iX9_refuse rfl rfl rfl (Nat.le_of_ble_eq_true rfl) T (fun r_1 M1 T => ?_)
    refine r_if_eq (tgt := 60) dX9_isNumber_53 (by decide) (fun h_1 => ?_) (fun h_1 => ?_)
    · have T := T.1 h_1
      refine r_iconst dX9_isNumber_60 (by decide) ?_
      exact r_zreturn dX9_isNumber_61 rfl (by decide) ⟨_, rfl, T⟩
    · have T := T.2 h_1
      refine r_iconst dX9_isNumber_56 (by decide) ?_
      refine r_goto (tgt := 61) dX9_isNumber_57 (by decide) ?_
      exact r_zreturn dX9_isNumber_61 rfl (by decide) ⟨_, rfl, T⟩
theorem eX9_isNumber {G : Gx} {n : Nat} {M : Mem} {Q : Int → Mem → Prop}  {x1 : Int} {x2 : Int} (h : ∀ K : Kx, CW G K mX9_isNumber n 0 [some (vO 2), some (vI x1), some (vI x2), none] [] M (qI Q)) : OkI G n mX9_isNumber [vO 2, vI x1, vI x2] M Q := Ok_of (by decide) (Nat.le_of_ble_eq_true rfl) rfl h
-- DownOnly$Tape passSign (C)Z
set_option maxRecDepth 20000 in
set_option maxHeartbeats 1000000 in
theorem bX9_passSign_0 {G : Gx} {K : Kx} {n : Nat} {M : Mem} {Q : Int → Mem → Prop}  {x1 : Int}  (T : OkI G n mX9_isSign [vO 2, vI x1] M (fun r_1 M1 => (¬ r_1 = 0 → OkV G n mX9_advance [vO 2] M1 (fun M2 => Q 1 M2)) ∧ (r_1 = 0 → OkI G n mX9_refuse [vO 2, vI 0] M1 (fun r_2 M3 => (r_2 = 0 ∨ r_2 = 1) ∧ Q r_2 M3)))) : CW G K mX9_passSign (n + 1) 0 [some (vO 2), some (vI x1)] [] M (qI Q) := by
  refine r_aload_n dX9_passSign_0 rfl ?_
  refine r_iload_n dX9_passSign_1 rfl ?_
  refine r_callVI (md' := mX9_isSign) (as := [vI x1]) dX9_passSign_2 lX9_66 iX9_isSign rfl rfl rfl (Nat.le_of_ble_eq_true rfl) T (fun r_1 M1 T => ?_)
  refine r_if_ne (tgt := 14) dX9_passSign_5 (by decide) (fun h_1 => ?_) (fun h_1 => ?_)
  · have T := T.1 h_1
    refine r_aload_n dX9_passSign_14 rfl ?_
    refine r_callVV (md' := mX9_advance) (as := []) dX9_passSign_15 lX9_25 iX9_advance rfl rfl rfl (Nat.le_of_ble_eq_true rfl) T (fun M2 T => ?_)
    refine r_iconst dX9_passSign_18 (by decide) ?_
    exact r_zreturn dX9_passSign_19 rfl (by decide) ⟨_, rfl, T⟩
  · have T := T.2 h_1
    refine r_aload_n dX9_passSign_8 rfl ?_
    refine r_iconst dX9_passSign_9 (by decide) ?_
    refine r_callVI (md' := mX9_refuse) (as := [vI 0]) dX9_passSign_10 lX9_63 iX9_refuse rfl rfl rfl (Nat.le_of_ble_eq_true rfl) T (fun r_2 M3 T => ?_)
    exact r_zreturn dX9_passSign_13 rfl T.1 ⟨_, rfl, T.2⟩
theorem eX9_passSign {G : Gx} {n : Nat} {M : Mem} {Q : Int → Mem → Prop}  {x1 : Int} (h : ∀ K : Kx, CW G K mX9_passSign n 0 [some (vO 2), some (vI x1)] [] M (qI Q)) : OkI G n mX9_passSign [vO 2, vI x1] M Q := Ok_of (by decide) (Nat.le_of_ble_eq_true rfl) rfl h
-- DownOnly$Tape take ()I
set_option maxRecDepth 20000 in
set_option maxHeartbeats 1000000 in
theorem bX9_take_0 {G : Gx} {K : Kx} {n : Nat} {M : Mem} {Q : Int → Mem → Prop}    (T : OkV G n mX9_advance [vO 2] M (fun M1 => Q (M 2 6 0) M1)) : CW G K mX9_take (n + 1) 0 [some (vO 2), none] [] M (qI Q) := by
  refine r_aload_n dX9_take_0 rfl ?_
  refine r_getI dX9_take_1 fX9_51 rfl tX9_6 ?_
  refine r_istore_n dX9_take_4 (by decide) rfl ?_
  refine r_aload_n dX9_take_5 rfl ?_
  refine r_callVV (md' := mX9_advance) (as := []) dX9_take_6 lX9_25 iX9_advance rfl rfl rfl (Nat.le_of_ble_eq_true rfl) T (fun M1 T => ?_)
  refine r_iload_n dX9_take_9 rfl ?_
  exact r_ireturn dX9_take_10 rfl ⟨_, rfl, T⟩
theorem eX9_take {G : Gx} {n : Nat} {M : Mem} {Q : Int → Mem → Prop}   (h : ∀ K : Kx, CW G K mX9_take n 0 [some (vO 2), none] [] M (qI Q)) : OkI G n mX9_take [vO 2] M Q := Ok_of (by decide) (Nat.le_of_ble_eq_true rfl) rfl h
-- DownOnly$House clear ()V
set_option maxRecDepth 20000 in
set_option maxHeartbeats 1000000 in
theorem bX1_clear_0 {G : Gx} {K : Kx} {n : Nat} {M : Mem} {Q : Mem → Prop} {o : Nat}  (h0 : oc o = 1) (T : ∀ M1 : Mem, M1 = mset M o 0 0 0 → ∀ M2 : Mem, M2 = mset M1 o 1 0 0 → ∀ M3 : Mem, M3 = mset M2 o 2 0 0 → ∀ M4 : Mem, M4 = mset M3 o 3 0 0 → ∀ M5 : Mem, M5 = mset M4 o 4 0 0 → ∀ M6 : Mem, M6 = mset M5 o 5 0 0 → ∀ M7 : Mem, M7 = mset M6 o 6 0 0 → Q M7) : CW G K mX1_clear n 0 [some (vO o)] [] M (qV Q) := by
  refine r_aload_n dX1_clear_0 rfl ?_
  refine r_iconst dX1_clear_1 (by decide) ?_
  refine n_put dX1_clear_2 pX1_36 h0 tX1_0 (fun M1 hM1 => ?_)
  have T := T M1 hM1
  refine r_aload_n dX1_clear_5 rfl ?_
  refine r_iconst dX1_clear_6 (by decide) ?_
  refine n_put dX1_clear_7 pX1_40 h0 tX1_1 (fun M2 hM2 => ?_)
  have T := T M2 hM2
  refine r_aload_n dX1_clear_10 rfl ?_
  refine r_iconst dX1_clear_11 (by decide) ?_
  refine n_put dX1_clear_12 pX1_43 h0 tX1_2 (fun M3 hM3 => ?_)
  have T := T M3 hM3
  refine r_aload_n dX1_clear_15 rfl ?_
  refine r_iconst dX1_clear_16 (by decide) ?_
  refine n_put dX1_clear_17 pX1_46 h0 tX1_3 (fun M4 hM4 => ?_)
  have T := T M4 hM4
  refine r_aload_n dX1_clear_20 rfl ?_
  refine r_iconst dX1_clear_21 (by decide) ?_
  refine n_put dX1_clear_22 pX1_49 h0 tX1_4 (fun M5 hM5 => ?_)
  have T := T M5 hM5
  refine r_aload_n dX1_clear_25 rfl ?_
  refine r_iconst dX1_clear_26 (by decide) ?_
  refine n_put dX1_clear_27 pX1_52 h0 tX1_5 (fun M6 hM6 => ?_)
  have T := T M6 hM6
  refine r_aload_n dX1_clear_30 rfl ?_
  refine r_iconst dX1_clear_31 (by decide) ?_
  refine n_put dX1_clear_32 pX1_55 h0 tX1_6 (fun M7 hM7 => ?_)
  have T := T M7 hM7
  exact r_return dX1_clear_35 rfl ⟨rfl, T⟩
theorem eX1_clear {G : Gx} {n : Nat} {M : Mem} {Q : Mem → Prop} {o : Nat}  (h : ∀ K : Kx, CW G K mX1_clear n 0 [some (vO o)] [] M (qV Q)) : OkV G n mX1_clear [vO o] M Q := Ok_of (by decide) (Nat.le_of_ble_eq_true rfl) rfl h
-- DownOnly$House copyFrom (LDownOnly$House;)V
set_option maxRecDepth 20000 in
set_option maxHeartbeats 1000000 in
theorem bX1_copyFrom_0 {G : Gx} {K : Kx} {n : Nat} {M : Mem} {Q : Mem → Prop} {o : Nat} {o1 : Nat}  (h0 : oc o1 = 1) (h1 : oc o = 1) (T : ∀ M1 : Mem, M1 = mset M o 0 0 (M o1 0 0) → ∀ M2 : Mem, M2 = mset M1 o 1 0 (M1 o1 1 0) → ∀ M3 : Mem, M3 = mset M2 o 2 0 (M2 o1 2 0) → ∀ M4 : Mem, M4 = mset M3 o 3 0 (M3 o1 3 0) → ∀ M5 : Mem, M5 = mset M4 o 4 0 (M4 o1 4 0) → ∀ M6 : Mem, M6 = mset M5 o 5 0 (M5 o1 5 0) → ∀ M7 : Mem, M7 = mset M6 o 6 0 (M6 o1 6 0) → OkV G n mX11_copyRow [vA o1 7, vA o 7] M7 (fun M8 => OkV G n mX11_copyRow [vA o1 8, vA o 8] M8 (fun M9 => OkV G n mX11_copyRow [vA o1 9, vA o 9] M9 (fun M10 => OkV G n mX11_copyRow [vA o1 10, vA o 10] M10 (fun M11 => OkV G n mX11_copyRow [vA o1 11, vA o 11] M11 (fun M12 => OkV G n mX11_copyRow [vA o1 12, vA o 12] M12 (fun M13 => OkV G n mX11_copyRow [vA o1 13, vA o 13] M13 (fun M14 => OkV G n mX11_copyRow [vA o1 14, vA o 14] M14 (fun M15 => Q M15))))))))) : CW G K mX1_copyFrom (n + 1) 0 [some (vO o), some (vO o1)] [] M (qV Q) := by
  refine r_aload_n dX1_copyFrom_0 rfl ?_
  refine r_aload_n dX1_copyFrom_1 rfl ?_
  refine r_getI dX1_copyFrom_2 fX1_36 h0 tX1_0 ?_
  refine n_put dX1_copyFrom_5 pX1_36 h1 tX1_0 (fun M1 hM1 => ?_)
  have T := T M1 hM1
  refine r_aload_n dX1_copyFrom_8 rfl ?_
  refine r_aload_n dX1_copyFrom_9 rfl ?_
  refine r_getI dX1_copyFrom_10 fX1_40 h0 tX1_1 ?_
  refine n_put dX1_copyFrom_13 pX1_40 h1 tX1_1 (fun M2 hM2 => ?_)
  have T := T M2 hM2
  refine r_aload_n dX1_copyFrom_16 rfl ?_
  refine r_aload_n dX1_copyFrom_17 rfl ?_
  refine r_getI dX1_copyFrom_18 fX1_43 h0 tX1_2 ?_
  refine n_put dX1_copyFrom_21 pX1_43 h1 tX1_2 (fun M3 hM3 => ?_)
  have T := T M3 hM3
  refine r_aload_n dX1_copyFrom_24 rfl ?_
  refine r_aload_n dX1_copyFrom_25 rfl ?_
  refine r_getI dX1_copyFrom_26 fX1_46 h0 tX1_3 ?_
  refine n_put dX1_copyFrom_29 pX1_46 h1 tX1_3 (fun M4 hM4 => ?_)
  have T := T M4 hM4
  refine r_aload_n dX1_copyFrom_32 rfl ?_
  refine r_aload_n dX1_copyFrom_33 rfl ?_
  refine r_getI dX1_copyFrom_34 fX1_49 h0 tX1_4 ?_
  refine n_put dX1_copyFrom_37 pX1_49 h1 tX1_4 (fun M5 hM5 => ?_)
  have T := T M5 hM5
  refine r_aload_n dX1_copyFrom_40 rfl ?_
  refine r_aload_n dX1_copyFrom_41 rfl ?_
  refine r_getI dX1_copyFrom_42 fX1_52 h0 tX1_5 ?_
  refine n_put dX1_copyFrom_45 pX1_52 h1 tX1_5 (fun M6 hM6 => ?_)
  have T := T M6 hM6
  refine r_aload_n dX1_copyFrom_48 rfl ?_
  refine r_aload_n dX1_copyFrom_49 rfl ?_
  refine r_getI dX1_copyFrom_50 fX1_55 h0 tX1_6 ?_
  refine n_put dX1_copyFrom_53 pX1_55 h1 tX1_6 (fun M7 hM7 => ?_)
  have T := T M7 hM7
  refine r_aload_n dX1_copyFrom_56 rfl ?_
  refine r_getA dX1_copyFrom_57 fX1_9 h0 uX1_7 ?_
  refine r_aload_n dX1_copyFrom_60 rfl ?_
  refine r_getA dX1_copyFrom_61 fX1_9 h1 uX1_7 ?_
  refine r_callNV (md' := mX11_copyRow) (as := [vA o1 7, vA o 7]) dX1_copyFrom_64 nX1_58 iX11_copyRow rfl rfl (Nat.le_of_ble_eq_true rfl) T (fun M8 T => ?_)
  refine r_aload_n dX1_copyFrom_67 rfl ?_
  refine r_getA dX1_copyFrom_68 fX1_15 h0 uX1_8 ?_
  refine r_aload_n dX1_copyFrom_71 rfl ?_
  refine r_getA dX1_copyFrom_72 fX1_15 h1 uX1_8 ?_
  refine r_callNV (md' := mX11_copyRow) (as := [vA o1 8, vA o 8]) dX1_copyFrom_75 nX1_58 iX11_copyRow rfl rfl (Nat.le_of_ble_eq_true rfl) T (fun M9 T => ?_)
  refine r_aload_n dX1_copyFrom_78 rfl ?_
  refine r_getA dX1_copyFrom_79 fX1_18 h0 uX1_9 ?_
  refine r_aload_n dX1_copyFrom_82 rfl ?_
  refine r_getA dX1_copyFrom_83 fX1_18 h1 uX1_9 ?_
  refine r_callNV (md' := mX11_copyRow) (as := [vA o1 9, vA o 9]) dX1_copyFrom_86 nX1_58 iX11_copyRow rfl rfl (Nat.le_of_ble_eq_true rfl) T (fun M10 T => ?_)
  refine r_aload_n dX1_copyFrom_89 rfl ?_
  refine r_getA dX1_copyFrom_90 fX1_21 h0 uX1_10 ?_
  refine r_aload_n dX1_copyFrom_93 rfl ?_
  refine r_getA dX1_copyFrom_94 fX1_21 h1 uX1_10 ?_
  refine r_callNV (md' := mX11_copyRow) (as := [vA o1 10, vA o 10]) dX1_copyFrom_97 nX1_58 iX11_copyRow rfl rfl (Nat.le_of_ble_eq_true rfl) T (fun M11 T => ?_)
  refine r_aload_n dX1_copyFrom_100 rfl ?_
  refine r_getA dX1_copyFrom_101 fX1_24 h0 uX1_11 ?_
  refine r_aload_n dX1_copyFrom_104 rfl ?_
  refine r_getA dX1_copyFrom_105 fX1_24 h1 uX1_11 ?_
  refine r_callNV (md' := mX11_copyRow) (as := [vA o1 11, vA o 11]) dX1_copyFrom_108 nX1_58 iX11_copyRow rfl rfl (Nat.le_of_ble_eq_true rfl) T (fun M12 T => ?_)
  refine r_aload_n dX1_copyFrom_111 rfl ?_
  refine r_getA dX1_copyFrom_112 fX1_27 h0 uX1_12 ?_
  refine r_aload_n dX1_copyFrom_115 rfl ?_
  refine r_getA dX1_copyFrom_116 fX1_27 h1 uX1_12 ?_
  refine r_callNV (md' := mX11_copyRow) (as := [vA o1 12, vA o 12]) dX1_copyFrom_119 nX1_58 iX11_copyRow rfl rfl (Nat.le_of_ble_eq_true rfl) T (fun M13 T => ?_)
  refine r_aload_n dX1_copyFrom_122 rfl ?_
  refine r_getA dX1_copyFrom_123 fX1_30 h0 uX1_13 ?_
  refine r_aload_n dX1_copyFrom_126 rfl ?_
  refine r_getA dX1_copyFrom_127 fX1_30 h1 uX1_13 ?_
  refine r_callNV (md' := mX11_copyRow) (as := [vA o1 13, vA o 13]) dX1_copyFrom_130 nX1_58 iX11_copyRow rfl rfl (Nat.le_of_ble_eq_true rfl) T (fun M14 T => ?_)
  refine r_aload_n dX1_copyFrom_133 rfl ?_
  refine r_getA dX1_copyFrom_134 fX1_33 h0 uX1_14 ?_
  refine r_aload_n dX1_copyFrom_137 rfl ?_
  refine r_getA dX1_copyFrom_138 fX1_33 h1 uX1_14 ?_
  refine r_callNV (md' := mX11_copyRow) (as := [vA o1 14, vA o 14]) dX1_copyFrom_141 nX1_58 iX11_copyRow rfl rfl (Nat.le_of_ble_eq_true rfl) T (fun M15 T => ?_)
  exact r_return dX1_copyFrom_144 rfl ⟨rfl, T⟩
theorem eX1_copyFrom {G : Gx} {n : Nat} {M : Mem} {Q : Mem → Prop} {o : Nat} {o1 : Nat}  (h : ∀ K : Kx, CW G K mX1_copyFrom n 0 [some (vO o), some (vO o1)] [] M (qV Q)) : OkV G n mX1_copyFrom [vO o, vO o1] M Q := Ok_of (by decide) (Nat.le_of_ble_eq_true rfl) rfl h
-- DownOnly$House isRoom (I)Z
set_option maxRecDepth 20000 in
set_option maxHeartbeats 1000000 in
theorem bX1_isRoom_0 {G : Gx} {K : Kx} {n : Nat} {M : Mem} {Q : Int → Mem → Prop} {o : Nat} {x1 : Int} (h0 : oc o = 1) (T : (x1 < 0 → Q 0 M) ∧ (¬ (x1 < 0) → (M o 0 0 ≤ x1 → Q 0 M) ∧ (¬ (M o 0 0 ≤ x1) → (16 ≤ x1 → Q 0 M) ∧ (¬ (16 ≤ x1) → Q 1 M)))) : CW G K mX1_isRoom n 0 [some (vO o), some (vI x1)] [] M (qI Q) := by
  refine r_iload_n dX1_isRoom_0 rfl ?_
  refine r_if_lt (tgt := 22) dX1_isRoom_1 (by decide) (fun h_3 => ?_) (fun h_3 => ?_)
  · have T := T.1 h_3
    refine r_iconst dX1_isRoom_22 (by decide) ?_
    exact r_zreturn dX1_isRoom_23 rfl (by decide) ⟨_, rfl, T⟩
  · have T := T.2 h_3
    refine r_iload_n dX1_isRoom_4 rfl ?_
    refine r_aload_n dX1_isRoom_5 rfl ?_
    refine r_getI dX1_isRoom_6 fX1_36 h0 tX1_0 ?_
    refine r_icmp_ge (tgt := 22) dX1_isRoom_9 (by decide) (fun h_2 => ?_) (fun h_2 => ?_)
    · have T := T.1 h_2
      refine r_iconst dX1_isRoom_22 (by decide) ?_
      exact r_zreturn dX1_isRoom_23 rfl (by decide) ⟨_, rfl, T⟩
    · have T := T.2 h_2
      refine r_iload_n dX1_isRoom_12 rfl ?_
      refine r_bipush dX1_isRoom_13 (by decide) (by decide) ?_
      refine r_icmp_ge (tgt := 22) dX1_isRoom_15 (by decide) (fun h_1 => ?_) (fun h_1 => ?_)
      · have T := T.1 h_1
        refine r_iconst dX1_isRoom_22 (by decide) ?_
        exact r_zreturn dX1_isRoom_23 rfl (by decide) ⟨_, rfl, T⟩
      · have T := T.2 h_1
        refine r_iconst dX1_isRoom_18 (by decide) ?_
        refine r_goto (tgt := 23) dX1_isRoom_19 (by decide) ?_
        exact r_zreturn dX1_isRoom_23 rfl (by decide) ⟨_, rfl, T⟩
theorem eX1_isRoom {G : Gx} {n : Nat} {M : Mem} {Q : Int → Mem → Prop} {o : Nat} {x1 : Int} (h : ∀ K : Kx, CW G K mX1_isRoom n 0 [some (vO o), some (vI x1)] [] M (qI Q)) : OkI G n mX1_isRoom [vO o, vI x1] M Q := Ok_of (by decide) (Nat.le_of_ble_eq_true rfl) rfl h
-- DownOnly$House isWay (I)Z
set_option maxRecDepth 20000 in
set_option maxHeartbeats 1000000 in
theorem bX1_isWay_0 {G : Gx} {K : Kx} {n : Nat} {M : Mem} {Q : Int → Mem → Prop} {o : Nat} {x1 : Int} (h0 : oc o = 1) (T : (x1 < 0 → Q 0 M) ∧ (¬ (x1 < 0) → (M o 1 0 ≤ x1 → Q 0 M) ∧ (¬ (M o 1 0 ≤ x1) → (24 ≤ x1 → Q 0 M) ∧ (¬ (24 ≤ x1) → Q 1 M)))) : CW G K mX1_isWay n 0 [some (vO o), some (vI x1)] [] M (qI Q) := by
  refine r_iload_n dX1_isWay_0 rfl ?_
  refine r_if_lt (tgt := 22) dX1_isWay_1 (by decide) (fun h_3 => ?_) (fun h_3 => ?_)
  · have T := T.1 h_3
    refine r_iconst dX1_isWay_22 (by decide) ?_
    exact r_zreturn dX1_isWay_23 rfl (by decide) ⟨_, rfl, T⟩
  · have T := T.2 h_3
    refine r_iload_n dX1_isWay_4 rfl ?_
    refine r_aload_n dX1_isWay_5 rfl ?_
    refine r_getI dX1_isWay_6 fX1_40 h0 tX1_1 ?_
    refine r_icmp_ge (tgt := 22) dX1_isWay_9 (by decide) (fun h_2 => ?_) (fun h_2 => ?_)
    · have T := T.1 h_2
      refine r_iconst dX1_isWay_22 (by decide) ?_
      exact r_zreturn dX1_isWay_23 rfl (by decide) ⟨_, rfl, T⟩
    · have T := T.2 h_2
      refine r_iload_n dX1_isWay_12 rfl ?_
      refine r_bipush dX1_isWay_13 (by decide) (by decide) ?_
      refine r_icmp_ge (tgt := 22) dX1_isWay_15 (by decide) (fun h_1 => ?_) (fun h_1 => ?_)
      · have T := T.1 h_1
        refine r_iconst dX1_isWay_22 (by decide) ?_
        exact r_zreturn dX1_isWay_23 rfl (by decide) ⟨_, rfl, T⟩
      · have T := T.2 h_1
        refine r_iconst dX1_isWay_18 (by decide) ?_
        refine r_goto (tgt := 23) dX1_isWay_19 (by decide) ?_
        exact r_zreturn dX1_isWay_23 rfl (by decide) ⟨_, rfl, T⟩
theorem eX1_isWay {G : Gx} {n : Nat} {M : Mem} {Q : Int → Mem → Prop} {o : Nat} {x1 : Int} (h : ∀ K : Kx, CW G K mX1_isWay n 0 [some (vO o), some (vI x1)] [] M (qI Q)) : OkI G n mX1_isWay [vO o, vI x1] M Q := Ok_of (by decide) (Nat.le_of_ble_eq_true rfl) rfl h
-- DownOnly$House isPerson (I)Z
set_option maxRecDepth 20000 in
set_option maxHeartbeats 1000000 in
theorem bX1_isPerson_0 {G : Gx} {K : Kx} {n : Nat} {M : Mem} {Q : Int → Mem → Prop} {o : Nat} {x1 : Int} (h0 : oc o = 1) (T : (x1 < 0 → Q 0 M) ∧ (¬ (x1 < 0) → (M o 2 0 ≤ x1 → Q 0 M) ∧ (¬ (M o 2 0 ≤ x1) → (8 ≤ x1 → Q 0 M) ∧ (¬ (8 ≤ x1) → Q 1 M)))) : CW G K mX1_isPerson n 0 [some (vO o), some (vI x1)] [] M (qI Q) := by
  refine r_iload_n dX1_isPerson_0 rfl ?_
  refine r_if_lt (tgt := 22) dX1_isPerson_1 (by decide) (fun h_3 => ?_) (fun h_3 => ?_)
  · have T := T.1 h_3
    refine r_iconst dX1_isPerson_22 (by decide) ?_
    exact r_zreturn dX1_isPerson_23 rfl (by decide) ⟨_, rfl, T⟩
  · have T := T.2 h_3
    refine r_iload_n dX1_isPerson_4 rfl ?_
    refine r_aload_n dX1_isPerson_5 rfl ?_
    refine r_getI dX1_isPerson_6 fX1_43 h0 tX1_2 ?_
    refine r_icmp_ge (tgt := 22) dX1_isPerson_9 (by decide) (fun h_2 => ?_) (fun h_2 => ?_)
    · have T := T.1 h_2
      refine r_iconst dX1_isPerson_22 (by decide) ?_
      exact r_zreturn dX1_isPerson_23 rfl (by decide) ⟨_, rfl, T⟩
    · have T := T.2 h_2
      refine r_iload_n dX1_isPerson_12 rfl ?_
      refine r_bipush dX1_isPerson_13 (by decide) (by decide) ?_
      refine r_icmp_ge (tgt := 22) dX1_isPerson_15 (by decide) (fun h_1 => ?_) (fun h_1 => ?_)
      · have T := T.1 h_1
        refine r_iconst dX1_isPerson_22 (by decide) ?_
        exact r_zreturn dX1_isPerson_23 rfl (by decide) ⟨_, rfl, T⟩
      · have T := T.2 h_1
        refine r_iconst dX1_isPerson_18 (by decide) ?_
        refine r_goto (tgt := 23) dX1_isPerson_19 (by decide) ?_
        exact r_zreturn dX1_isPerson_23 rfl (by decide) ⟨_, rfl, T⟩
theorem eX1_isPerson {G : Gx} {n : Nat} {M : Mem} {Q : Int → Mem → Prop} {o : Nat} {x1 : Int} (h : ∀ K : Kx, CW G K mX1_isPerson n 0 [some (vO o), some (vI x1)] [] M (qI Q)) : OkI G n mX1_isPerson [vO o, vI x1] M Q := Ok_of (by decide) (Nat.le_of_ble_eq_true rfl) rfl h
-- DownOnly$House leadsTo (II)I
set_option maxRecDepth 20000 in
set_option maxHeartbeats 1000000 in
theorem bX1_leadsTo_0 {G : Gx} {K : Kx} {n : Nat} {M : Mem} {Q : Int → Mem → Prop} {o : Nat} {x1 : Int} {x2 : Int} (h0 : oc o = 1) (T : OkI G n mX1_isWay [vO o, vI x1] M (fun r_1 M1 => (¬ r_1 = 0 → (0 ≤ x1 ∧ x1 < 24) ∧ ((¬ M1 o 8 x1.toNat = x2 → (0 ≤ x1 ∧ x1 < 24) ∧ ((¬ M1 o 11 x1.toNat = 1 → Q (-1) M1) ∧ (M1 o 11 x1.toNat = 1 → (0 ≤ x1 ∧ x1 < 24) ∧ ((¬ M1 o 9 x1.toNat = x2 → Q (-1) M1) ∧ (M1 o 9 x1.toNat = x2 → (0 ≤ x1 ∧ x1 < 24) ∧ (Q (M1 o 8 x1.toNat) M1)))))) ∧ (M1 o 8 x1.toNat = x2 → (0 ≤ x1 ∧ x1 < 24) ∧ (Q (M1 o 9 x1.toNat) M1)))) ∧ (r_1 = 0 → Q (-1) M1))) : CW G K mX1_leadsTo (n + 1) 0 [some (vO o), some (vI x1), some (vI x2)] [] M (qI Q) := by
  refine r_aload_n dX1_leadsTo_0 rfl ?_
  refine r_iload_n dX1_leadsTo_1 rfl ?_
  refine r_callVI (md' := mX1_isWay) (as := [vI x1]) dX1_leadsTo_2 lX1_62 iX1_isWay h0 rfl rfl (Nat.le_of_ble_eq_true rfl) T (fun r_1 M1 T => ?_)
  refine r_if_ne (tgt := 10) dX1_leadsTo_5 (by decide) (fun h_4 => ?_) (fun h_4 => ?_)
  · have T := T.1 h_4
    refine r_aload_n dX1_leadsTo_10 rfl ?_
    refine r_getA dX1_leadsTo_11 fX1_15 h0 uX1_8 ?_
    refine r_iload_n dX1_leadsTo_14 rfl ?_
    refine s_iald dX1_leadsTo_15 h0 tX1_8 aX1_8 T.1 ?_
    have T := T.2
    refine r_iload_n dX1_leadsTo_16 rfl ?_
    refine r_icmp_ne (tgt := 27) dX1_leadsTo_17 (by decide) (fun h_3 => ?_) (fun h_3 => ?_)
    · have T := T.1 h_3
      refine r_aload_n dX1_leadsTo_27 rfl ?_
      refine r_getA dX1_leadsTo_28 fX1_24 h0 uX1_11 ?_
      refine r_iload_n dX1_leadsTo_31 rfl ?_
      refine s_iald dX1_leadsTo_32 h0 tX1_11 aX1_11 T.1 ?_
      have T := T.2
      refine r_iconst dX1_leadsTo_33 (by decide) ?_
      refine r_icmp_ne (tgt := 56) dX1_leadsTo_34 (by decide) (fun h_2 => ?_) (fun h_2 => ?_)
      · have T := T.1 h_2
        refine r_iconst dX1_leadsTo_56 (by decide) ?_
        exact r_ireturn dX1_leadsTo_57 rfl ⟨_, rfl, T⟩
      · have T := T.2 h_2
        refine r_aload_n dX1_leadsTo_37 rfl ?_
        refine r_getA dX1_leadsTo_38 fX1_18 h0 uX1_9 ?_
        refine r_iload_n dX1_leadsTo_41 rfl ?_
        refine s_iald dX1_leadsTo_42 h0 tX1_9 aX1_9 T.1 ?_
        have T := T.2
        refine r_iload_n dX1_leadsTo_43 rfl ?_
        refine r_icmp_ne (tgt := 56) dX1_leadsTo_44 (by decide) (fun h_1 => ?_) (fun h_1 => ?_)
        · have T := T.1 h_1
          refine r_iconst dX1_leadsTo_56 (by decide) ?_
          exact r_ireturn dX1_leadsTo_57 rfl ⟨_, rfl, T⟩
        · have T := T.2 h_1
          refine r_aload_n dX1_leadsTo_47 rfl ?_
          refine r_getA dX1_leadsTo_48 fX1_15 h0 uX1_8 ?_
          refine r_iload_n dX1_leadsTo_51 rfl ?_
          refine s_iald dX1_leadsTo_52 h0 tX1_8 aX1_8 T.1 ?_
          have T := T.2
          refine r_goto (tgt := 57) dX1_leadsTo_53 (by decide) ?_
          exact r_ireturn dX1_leadsTo_57 rfl ⟨_, rfl, T⟩
    · have T := T.2 h_3
      refine r_aload_n dX1_leadsTo_20 rfl ?_
      refine r_getA dX1_leadsTo_21 fX1_18 h0 uX1_9 ?_
      refine r_iload_n dX1_leadsTo_24 rfl ?_
      refine s_iald dX1_leadsTo_25 h0 tX1_9 aX1_9 T.1 ?_
      have T := T.2
      exact r_ireturn dX1_leadsTo_26 rfl ⟨_, rfl, T⟩
  · have T := T.2 h_4
    refine r_iconst dX1_leadsTo_8 (by decide) ?_
    exact r_ireturn dX1_leadsTo_9 rfl ⟨_, rfl, T⟩
theorem eX1_leadsTo {G : Gx} {n : Nat} {M : Mem} {Q : Int → Mem → Prop} {o : Nat} {x1 : Int} {x2 : Int} (h : ∀ K : Kx, CW G K mX1_leadsTo n 0 [some (vO o), some (vI x1), some (vI x2)] [] M (qI Q)) : OkI G n mX1_leadsTo [vO o, vI x1, vI x2] M Q := Ok_of (by decide) (Nat.le_of_ble_eq_true rfl) rfl h
-- DownOnly$House openFrom (II)I
set_option maxRecDepth 20000 in
set_option maxHeartbeats 1000000 in
theorem bX1_openFrom_0 {G : Gx} {K : Kx} {n : Nat} {M : Mem} {Q : Int → Mem → Prop} {o : Nat} {x1 : Int} {x2 : Int} (h0 : oc o = 1) (T : OkI G n mX1_isWay [vO o, vI x1] M (fun r_1 M1 => (¬ r_1 = 0 → (0 ≤ x1 ∧ x1 < 24) ∧ ((¬ M1 o 12 x1.toNat = (-1) → (0 ≤ x1 ∧ x1 < 24) ∧ ((0 ≤ x1 ∧ x1 < 24) ∧ (((if x2 < M1 o 12 x1.toNat then M1 o 12 x1.toNat else x2) ≤ M1 o 13 x1.toNat → Q (if x2 < M1 o 12 x1.toNat then M1 o 12 x1.toNat else x2) M1) ∧ (¬ ((if x2 < M1 o 12 x1.toNat then M1 o 12 x1.toNat else x2) ≤ M1 o 13 x1.toNat) → Q (-1) M1)))) ∧ (M1 o 12 x1.toNat = (-1) → Q x2 M1))) ∧ (r_1 = 0 → Q (-1) M1))) : CW G K mX1_openFrom (n + 1) 0 [some (vO o), some (vI x1), some (vI x2), none] [] M (qI Q) := by
  refine r_aload_n dX1_openFrom_0 rfl ?_
  refine r_iload_n dX1_openFrom_1 rfl ?_
  refine r_callVI (md' := mX1_isWay) (as := [vI x1]) dX1_openFrom_2 lX1_62 iX1_isWay h0 rfl rfl (Nat.le_of_ble_eq_true rfl) T (fun r_1 M1 T => ?_)
  refine r_if_ne (tgt := 10) dX1_openFrom_5 (by decide) (fun h_3 => ?_) (fun h_3 => ?_)
  · have T := T.1 h_3
    refine r_aload_n dX1_openFrom_10 rfl ?_
    refine r_getA dX1_openFrom_11 fX1_27 h0 uX1_12 ?_
    refine r_iload_n dX1_openFrom_14 rfl ?_
    refine s_iald dX1_openFrom_15 h0 tX1_12 aX1_12 T.1 ?_
    have T := T.2
    refine r_iconst dX1_openFrom_16 (by decide) ?_
    refine r_icmp_ne (tgt := 22) dX1_openFrom_17 (by decide) (fun h_2 => ?_) (fun h_2 => ?_)
    · have T := T.1 h_2
      refine r_iload_n dX1_openFrom_22 rfl ?_
      refine r_aload_n dX1_openFrom_23 rfl ?_
      refine r_getA dX1_openFrom_24 fX1_27 h0 uX1_12 ?_
      refine r_iload_n dX1_openFrom_27 rfl ?_
      refine s_iald dX1_openFrom_28 h0 tX1_12 aX1_12 T.1 ?_
      have T := T.2
      refine r_max dX1_openFrom_29 lX1_66 wmax2 wmath wmax4 (Nat.le_of_ble_eq_true rfl) ?_
      refine r_istore_n dX1_openFrom_32 (by decide) rfl ?_
      refine r_iload_n dX1_openFrom_33 rfl ?_
      refine r_aload_n dX1_openFrom_34 rfl ?_
      refine r_getA dX1_openFrom_35 fX1_30 h0 uX1_13 ?_
      refine r_iload_n dX1_openFrom_38 rfl ?_
      refine s_iald dX1_openFrom_39 h0 tX1_13 aX1_13 T.1 ?_
      have T := T.2
      refine r_icmp_le (tgt := 47) dX1_openFrom_40 (by decide) (fun h_1 => ?_) (fun h_1 => ?_)
      · have T := T.1 h_1
        refine r_iload_n dX1_openFrom_47 rfl ?_
        exact r_ireturn dX1_openFrom_48 rfl ⟨_, rfl, T⟩
      · have T := T.2 h_1
        refine r_iconst dX1_openFrom_43 (by decide) ?_
        refine r_goto (tgt := 48) dX1_openFrom_44 (by decide) ?_
        exact r_ireturn dX1_openFrom_48 rfl ⟨_, rfl, T⟩
    · have T := T.2 h_2
      refine r_iload_n dX1_openFrom_20 rfl ?_
      exact r_ireturn dX1_openFrom_21 rfl ⟨_, rfl, T⟩
  · have T := T.2 h_3
    refine r_iconst dX1_openFrom_8 (by decide) ?_
    exact r_ireturn dX1_openFrom_9 rfl ⟨_, rfl, T⟩
theorem eX1_openFrom {G : Gx} {n : Nat} {M : Mem} {Q : Int → Mem → Prop} {o : Nat} {x1 : Int} {x2 : Int} (h : ∀ K : Kx, CW G K mX1_openFrom n 0 [some (vO o), some (vI x1), some (vI x2), none] [] M (qI Q)) : OkI G n mX1_openFrom [vO o, vI x1, vI x2] M Q := Ok_of (by decide) (Nat.le_of_ble_eq_true rfl) rfl h
-- DownOnly$House hoistLeaves (I)I
set_option maxRecDepth 20000 in
set_option maxHeartbeats 1000000 in
theorem bX1_hoistLeaves_0 {G : Gx} {K : Kx} {n : Nat} {M : Mem} {Q : Int → Mem → Prop} {o : Nat} {x1 : Int} (h0 : oc o = 1) (T : (M o 6 0 ≤ 0 → Q (-1) M) ∧ (¬ (M o 6 0 ≤ 0) → (0 ≤ x1 → ((M o 6 0) ≠ 0) ∧ ((wr ((wr (Int.tdiv (wr (wr (x1 + (M o 6 0)) - 1)) (M o 6 0))) * (M o 6 0)) ≤ 1439 → Q (wr ((wr (Int.tdiv (wr (wr (x1 + (M o 6 0)) - 1)) (M o 6 0))) * (M o 6 0))) M) ∧ (¬ (wr ((wr (Int.tdiv (wr (wr (x1 + (M o 6 0)) - 1)) (M o 6 0))) * (M o 6 0)) ≤ 1439) → Q (-1) M))) ∧ (¬ (0 ≤ x1) → Q (-1) M))) : CW G K mX1_hoistLeaves n 0 [some (vO o), some (vI x1), none] [] M (qI Q) := by
  refine r_aload_n dX1_hoistLeaves_0 rfl ?_
  refine r_getI dX1_hoistLeaves_1 fX1_55 h0 tX1_6 ?_
  refine r_if_le (tgt := 11) dX1_hoistLeaves_4 (by decide) (fun h_3 => ?_) (fun h_3 => ?_)
  · have T := T.1 h_3
    refine r_iconst dX1_hoistLeaves_11 (by decide) ?_
    exact r_ireturn dX1_hoistLeaves_12 rfl ⟨_, rfl, T⟩
  · have T := T.2 h_3
    refine r_iload_n dX1_hoistLeaves_7 rfl ?_
    refine r_if_ge (tgt := 13) dX1_hoistLeaves_8 (by decide) (fun h_2 => ?_) (fun h_2 => ?_)
    · have T := T.1 h_2
      refine r_iload_n dX1_hoistLeaves_13 rfl ?_
      refine r_aload_n dX1_hoistLeaves_14 rfl ?_
      refine r_getI dX1_hoistLeaves_15 fX1_55 h0 tX1_6 ?_
      refine r_iadd dX1_hoistLeaves_18 ?_
      refine r_iconst dX1_hoistLeaves_19 (by decide) ?_
      refine r_isub dX1_hoistLeaves_20 ?_
      refine r_aload_n dX1_hoistLeaves_21 rfl ?_
      refine r_getI dX1_hoistLeaves_22 fX1_55 h0 tX1_6 ?_
      refine r_idiv dX1_hoistLeaves_25 T.1 ?_
      have T := T.2
      refine r_aload_n dX1_hoistLeaves_26 rfl ?_
      refine r_getI dX1_hoistLeaves_27 fX1_55 h0 tX1_6 ?_
      refine r_imul dX1_hoistLeaves_30 ?_
      refine r_istore_n dX1_hoistLeaves_31 (by decide) rfl ?_
      refine r_iload_n dX1_hoistLeaves_32 rfl ?_
      refine r_sipush dX1_hoistLeaves_33 (by decide) (by decide) ?_
      refine r_icmp_le (tgt := 43) dX1_hoistLeaves_36 (by decide) (fun h_1 => ?_) (fun h_1 => ?_)
      · have T := T.1 h_1
        refine r_iload_n dX1_hoistLeaves_43 rfl ?_
        exact r_ireturn dX1_hoistLeaves_44 rfl ⟨_, rfl, T⟩
      · have T := T.2 h_1
        refine r_iconst dX1_hoistLeaves_39 (by decide) ?_
        refine r_goto (tgt := 44) dX1_hoistLeaves_40 (by decide) ?_
        exact r_ireturn dX1_hoistLeaves_44 rfl ⟨_, rfl, T⟩
    · have T := T.2 h_2
      refine r_iconst dX1_hoistLeaves_11 (by decide) ?_
      exact r_ireturn dX1_hoistLeaves_12 rfl ⟨_, rfl, T⟩
theorem eX1_hoistLeaves {G : Gx} {n : Nat} {M : Mem} {Q : Int → Mem → Prop} {o : Nat} {x1 : Int} (h : ∀ K : Kx, CW G K mX1_hoistLeaves n 0 [some (vO o), some (vI x1), none] [] M (qI Q)) : OkI G n mX1_hoistLeaves [vO o, vI x1] M Q := Ok_of (by decide) (Nat.le_of_ble_eq_true rfl) rfl h
-- DownOnly$House reckonDowns (I[I[I)V
set_option maxRecDepth 20000 in
set_option maxHeartbeats 1000000 in
theorem bX1_reckonDowns_0 {G : Gx} {K : Kx} {n : Nat} {M : Mem} {Q : Mem → Prop} {o : Nat} {x1 : Int}  (T : CW G K mX1_reckonDowns (n + 1) 3 [some (vO o), some (vI x1), some (vA 1 12), some (vA 1 13), some (vI 0), none] [] M (qV Q)) : CW G K mX1_reckonDowns (n + 1) 0 [some (vO o), some (vI x1), some (vA 1 12), some (vA 1 13), none, none] [] M (qV Q) := by
  refine r_iconst dX1_reckonDowns_0 (by decide) ?_
  refine r_istore dX1_reckonDowns_1 (by decide) rfl ?_
  exact T
set_option maxRecDepth 20000 in
set_option maxHeartbeats 1000000 in
theorem bX1_reckonDowns_3 {G : Gx} {K : Kx} {n : Nat} {M : Mem} {Q : Mem → Prop} {o : Nat} {x1 : Int} {x4 : Int}  (T : (40 < x4 → Q M) ∧ (¬ (40 < x4) → CW G K mX1_reckonDowns (n + 1) 13 [some (vO o), some (vI x1), some (vA 1 12), some (vA 1 13), some (vI x4), some (vI 0)] [] M (qV Q))) : CW G K mX1_reckonDowns (n + 1) 3 [some (vO o), some (vI x1), some (vA 1 12), some (vA 1 13), some (vI x4), none] [] M (qV Q) := by
  refine r_iload dX1_reckonDowns_3 rfl ?_
  refine r_bipush dX1_reckonDowns_5 (by decide) (by decide) ?_
  refine r_icmp_gt (tgt := 62) dX1_reckonDowns_7 (by decide) (fun h_1 => ?_) (fun h_1 => ?_)
  · have T := T.1 h_1
    exact r_return dX1_reckonDowns_62 rfl ⟨rfl, T⟩
  · have T := T.2 h_1
    refine r_iconst dX1_reckonDowns_10 (by decide) ?_
    refine r_istore dX1_reckonDowns_11 (by decide) rfl ?_
    exact T
set_option maxRecDepth 20000 in
set_option maxHeartbeats 1000000 in
theorem bX1_reckonDowns_13 {G : Gx} {K : Kx} {n : Nat} {M : Mem} {Q : Mem → Prop} {o : Nat} {x1 : Int} {x4 : Int} {x5 : Int} (h0 : oc o = 1) (T : (M o 0 0 ≤ x5 → CW G K mX1_reckonDowns (n + 1) 3 [some (vO o), some (vI x1), some (vA 1 12), some (vA 1 13), some (vI (wr (x4 + 1))), none] [] M (qV Q)) ∧ (¬ (M o 0 0 ≤ x5) → (16 ≤ x5 → CW G K mX1_reckonDowns (n + 1) 3 [some (vO o), some (vI x1), some (vA 1 12), some (vA 1 13), some (vI (wr (x4 + 1))), none] [] M (qV Q)) ∧ (¬ (16 ≤ x5) → (0 ≤ x5 ∧ x5 < 16) ∧ ((¬ M o 7 x5.toNat = x4 → CW G K mX1_reckonDowns (n + 1) 13 [some (vO o), some (vI x1), some (vA 1 12), some (vA 1 13), some (vI x4), some (vI (wr (x5 + 1)))] [] M (qV Q)) ∧ (M o 7 x5.toNat = x4 → OkV G n mX1_reckonDownsFrom [vO o, vI x5, vI x1, vA 1 12, vA 1 13] M (fun M1 => CW G K mX1_reckonDowns (n + 1) 13 [some (vO o), some (vI x1), some (vA 1 12), some (vA 1 13), some (vI x4), some (vI (wr (x5 + 1)))] [] M1 (qV Q))))))) : CW G K mX1_reckonDowns (n + 1) 13 [some (vO o), some (vI x1), some (vA 1 12), some (vA 1 13), some (vI x4), some (vI x5)] [] M (qV Q) := by
  refine r_iload dX1_reckonDowns_13 rfl ?_
  refine r_aload_n dX1_reckonDowns_15 rfl ?_
  refine r_getI dX1_reckonDowns_16 fX1_36 h0 tX1_0 ?_
  refine r_icmp_ge (tgt := 56) dX1_reckonDowns_19 (by decide) (fun h_3 => ?_) (fun h_3 => ?_)
  · have T := T.1 h_3
    refine r_iinc dX1_reckonDowns_56 rfl (by decide) rfl ?_
    refine r_goto (tgt := 3) dX1_reckonDowns_59 (by decide) ?_
    exact CW_msk [true, true, true, true, true, false] rfl T
  · have T := T.2 h_3
    refine r_iload dX1_reckonDowns_22 rfl ?_
    refine r_bipush dX1_reckonDowns_24 (by decide) (by decide) ?_
    refine r_icmp_ge (tgt := 56) dX1_reckonDowns_26 (by decide) (fun h_2 => ?_) (fun h_2 => ?_)
    · have T := T.1 h_2
      refine r_iinc dX1_reckonDowns_56 rfl (by decide) rfl ?_
      refine r_goto (tgt := 3) dX1_reckonDowns_59 (by decide) ?_
      exact CW_msk [true, true, true, true, true, false] rfl T
    · have T := T.2 h_2
      refine r_aload_n dX1_reckonDowns_29 rfl ?_
      refine r_getA dX1_reckonDowns_30 fX1_9 h0 uX1_7 ?_
      refine r_iload dX1_reckonDowns_33 rfl ?_
      refine s_iald dX1_reckonDowns_35 h0 tX1_7 aX1_7 T.1 ?_
      have T := T.2
      refine r_iload dX1_reckonDowns_36 rfl ?_
      refine r_icmp_ne (tgt := 50) dX1_reckonDowns_38 (by decide) (fun h_1 => ?_) (fun h_1 => ?_)
      · have T := T.1 h_1
        refine r_iinc dX1_reckonDowns_50 rfl (by decide) rfl ?_
        refine r_goto (tgt := 13) dX1_reckonDowns_53 (by decide) ?_
        exact T
      · have T := T.2 h_1
        refine r_aload_n dX1_reckonDowns_41 rfl ?_
        refine r_iload dX1_reckonDowns_42 rfl ?_
        refine r_iload_n dX1_reckonDowns_44 rfl ?_
        refine r_aload_n dX1_reckonDowns_45 rfl ?_
        refine r_aload_n dX1_reckonDowns_46 rfl ?_
        refine r_callVV (md' := mX1_reckonDownsFrom) (as := [vI x5, vI x1, vA 1 12, vA 1 13]) dX1_reckonDowns_47 lX1_72 iX1_reckonDownsFrom h0 rfl rfl (Nat.le_of_ble_eq_true rfl) T (fun M1 T => ?_)
        refine r_iinc dX1_reckonDowns_50 rfl (by decide) rfl ?_
        refine r_goto (tgt := 13) dX1_reckonDowns_53 (by decide) ?_
        exact T
theorem eX1_reckonDowns {G : Gx} {n : Nat} {M : Mem} {Q : Mem → Prop} {o : Nat} {x1 : Int} (h : ∀ K : Kx, CW G K mX1_reckonDowns n 0 [some (vO o), some (vI x1), some (vA 1 12), some (vA 1 13), none, none] [] M (qV Q)) : OkV G n mX1_reckonDowns [vO o, vI x1, vA 1 12, vA 1 13] M Q := Ok_of (by decide) (Nat.le_of_ble_eq_true rfl) rfl h
-- DownOnly$House reckonDownsFrom (II[I[I)V
set_option maxRecDepth 20000 in
set_option maxHeartbeats 1000000 in
theorem bX1_reckonDownsFrom_0 {G : Gx} {K : Kx} {n : Nat} {M : Mem} {Q : Mem → Prop} {o : Nat} {x1 : Int} {x2 : Int}  (T : (x1 < 0 → Q M) ∧ (¬ (x1 < 0) → (16 ≤ x1 → Q M) ∧ (¬ (16 ≤ x1) → (x1 < 16 → (¬ x1 = x2 → CW G K mX1_reckonDownsFrom (n + 1) 30 [some (vO o), some (vI x1), some (vI x2), some (vA 1 12), some (vA 1 13), none, none] [vI 0, vI x1, vA 1 12] M (qV Q)) ∧ (x1 = x2 → CW G K mX1_reckonDownsFrom (n + 1) 30 [some (vO o), some (vI x1), some (vI x2), some (vA 1 12), some (vA 1 13), none, none] [vI 1, vI x1, vA 1 12] M (qV Q))) ∧ (¬ (x1 < 16) → Q M)))) : CW G K mX1_reckonDownsFrom (n + 1) 0 [some (vO o), some (vI x1), some (vI x2), some (vA 1 12), some (vA 1 13), none, none] [] M (qV Q) := by
  refine r_iload_n dX1_reckonDownsFrom_0 rfl ?_
  refine r_if_lt (tgt := 17) dX1_reckonDownsFrom_1 (by decide) (fun h_4 => ?_) (fun h_4 => ?_)
  · have T := T.1 h_4
    exact r_return dX1_reckonDownsFrom_17 rfl ⟨rfl, T⟩
  · have T := T.2 h_4
    refine r_iload_n dX1_reckonDownsFrom_4 rfl ?_
    refine r_aload_n dX1_reckonDownsFrom_5 rfl ?_
    refine s_alen dX1_reckonDownsFrom_6 rfl uX11_12 aX11_12 (by decide) ?_
    refine r_icmp_ge (tgt := 17) dX1_reckonDownsFrom_7 (by decide) (fun h_3 => ?_) (fun h_3 => ?_)
    · have T := T.1 h_3
      exact r_return dX1_reckonDownsFrom_17 rfl ⟨rfl, T⟩
    · have T := T.2 h_3
      refine r_iload_n dX1_reckonDownsFrom_10 rfl ?_
      refine r_aload dX1_reckonDownsFrom_11 rfl ?_
      refine s_alen dX1_reckonDownsFrom_13 rfl uX11_13 aX11_13 (by decide) ?_
      refine r_icmp_lt (tgt := 18) dX1_reckonDownsFrom_14 (by decide) (fun h_2 => ?_) (fun h_2 => ?_)
      · have T := T.1 h_2
        refine r_aload_n dX1_reckonDownsFrom_18 rfl ?_
        refine r_iload_n dX1_reckonDownsFrom_19 rfl ?_
        refine r_iload_n dX1_reckonDownsFrom_20 rfl ?_
        refine r_iload_n dX1_reckonDownsFrom_21 rfl ?_
        refine r_icmp_ne (tgt := 29) dX1_reckonDownsFrom_22 (by decide) (fun h_1 => ?_) (fun h_1 => ?_)
        · have T := T.1 h_1
          refine r_iconst dX1_reckonDownsFrom_29 (by decide) ?_
          exact T
        · have T := T.2 h_1
          refine r_iconst dX1_reckonDownsFrom_25 (by decide) ?_
          refine r_goto (tgt := 30) dX1_reckonDownsFrom_26 (by decide) ?_
          exact T
      · have T := T.2 h_2
        exact r_return dX1_reckonDownsFrom_17 rfl ⟨rfl, T⟩
set_option maxRecDepth 20000 in
set_option maxHeartbeats 1000000 in
theorem bX1_reckonDownsFrom_30 {G : Gx} {K : Kx} {n : Nat} {M : Mem} {Q : Mem → Prop} {o : Nat} {x1 : Int} {x2 : Int} {z0 : Int} {z1 : Int}  (T : (0 ≤ z1 ∧ z1 < 16) ∧ (∀ M1 : Mem, M1 = mset M 1 12 z1.toNat z0 → (¬ x1 = x2 → (0 ≤ x1 ∧ x1 < 16) ∧ (∀ M2 : Mem, M2 = mset M1 1 13 x1.toNat (-2) → CW G K mX1_reckonDownsFrom (n + 1) 49 [some (vO o), some (vI x1), none, some (vA 1 12), some (vA 1 13), some (vI 0), none] [] M2 (qV Q))) ∧ (x1 = x2 → (0 ≤ x1 ∧ x1 < 16) ∧ (∀ M3 : Mem, M3 = mset M1 1 13 x1.toNat 0 → CW G K mX1_reckonDownsFrom (n + 1) 49 [some (vO o), some (vI x1), none, some (vA 1 12), some (vA 1 13), some (vI 0), none] [] M3 (qV Q))))) : CW G K mX1_reckonDownsFrom (n + 1) 30 [some (vO o), some (vI x1), some (vI x2), some (vA 1 12), some (vA 1 13), none, none] [vI z0, vI z1, vA 1 12] M (qV Q) := by
  refine n_iast dX1_reckonDownsFrom_30 rfl tX11_12 aX11_12 T.1 (fun M1 hM1 => ?_)
  have T := T.2 M1 hM1
  refine r_aload dX1_reckonDownsFrom_31 rfl ?_
  refine r_iload_n dX1_reckonDownsFrom_33 rfl ?_
  refine r_iload_n dX1_reckonDownsFrom_34 rfl ?_
  refine r_iload_n dX1_reckonDownsFrom_35 rfl ?_
  refine r_icmp_ne (tgt := 43) dX1_reckonDownsFrom_36 (by decide) (fun h_1 => ?_) (fun h_1 => ?_)
  · have T := T.1 h_1
    refine r_bipush dX1_reckonDownsFrom_43 (by decide) (by decide) ?_
    refine n_iast dX1_reckonDownsFrom_45 rfl tX11_13 aX11_13 T.1 (fun M2 hM2 => ?_)
    have T := T.2 M2 hM2
    refine r_iconst dX1_reckonDownsFrom_46 (by decide) ?_
    refine r_istore dX1_reckonDownsFrom_47 (by decide) rfl ?_
    exact CW_msk [true, true, false, true, true, true, false] rfl T
  · have T := T.2 h_1
    refine r_iconst dX1_reckonDownsFrom_39 (by decide) ?_
    refine r_goto (tgt := 45) dX1_reckonDownsFrom_40 (by decide) ?_
    refine n_iast dX1_reckonDownsFrom_45 rfl tX11_13 aX11_13 T.1 (fun M3 hM3 => ?_)
    have T := T.2 M3 hM3
    refine r_iconst dX1_reckonDownsFrom_46 (by decide) ?_
    refine r_istore dX1_reckonDownsFrom_47 (by decide) rfl ?_
    exact CW_msk [true, true, false, true, true, true, false] rfl T
set_option maxRecDepth 20000 in
set_option maxHeartbeats 1000000 in
theorem bX1_reckonDownsFrom_49 {G : Gx} {K : Kx} {n : Nat} {M : Mem} {Q : Mem → Prop} {o : Nat} {x1 : Int} {x5 : Int} (h0 : oc o = 1) (T : (M o 1 0 ≤ x5 → Q M) ∧ (¬ (M o 1 0 ≤ x5) → OkI G n mX1_isFlightFrom [vO o, vI x5, vI x1] M (fun r_1 M1 => (r_1 = 0 → CW G K mX1_reckonDownsFrom (n + 1) 112 [some (vO o), some (vI x1), none, some (vA 1 12), some (vA 1 13), some (vI x5), none] [vI 0] M1 (qV Q)) ∧ (¬ (r_1 = 0) → (0 ≤ x5 ∧ x5 < 24) ∧ (OkI G n mX1_isRoom [vO o, vI (M1 o 9 x5.toNat)] M1 (fun r_2 M2 => (r_2 = 0 → CW G K mX1_reckonDownsFrom (n + 1) 112 [some (vO o), some (vI x1), none, some (vA 1 12), some (vA 1 13), some (vI x5), none] [vI 0] M2 (qV Q)) ∧ (¬ (r_2 = 0) → (0 ≤ x5 ∧ x5 < 24) ∧ ((16 ≤ M2 o 9 x5.toNat → CW G K mX1_reckonDownsFrom (n + 1) 112 [some (vO o), some (vI x1), none, some (vA 1 12), some (vA 1 13), some (vI x5), none] [vI 0] M2 (qV Q)) ∧ (¬ (16 ≤ M2 o 9 x5.toNat) → (0 ≤ x5 ∧ x5 < 24) ∧ ((16 ≤ M2 o 9 x5.toNat → CW G K mX1_reckonDownsFrom (n + 1) 112 [some (vO o), some (vI x1), none, some (vA 1 12), some (vA 1 13), some (vI x5), none] [vI 0] M2 (qV Q)) ∧ (¬ (16 ≤ M2 o 9 x5.toNat) → CW G K mX1_reckonDownsFrom (n + 1) 112 [some (vO o), some (vI x1), none, some (vA 1 12), some (vA 1 13), some (vI x5), none] [vI 1] M2 (qV Q)))))))))))) : CW G K mX1_reckonDownsFrom (n + 1) 49 [some (vO o), some (vI x1), none, some (vA 1 12), some (vA 1 13), some (vI x5), none] [] M (qV Q) := by
  refine r_iload dX1_reckonDownsFrom_49 rfl ?_
  refine r_aload_n dX1_reckonDownsFrom_51 rfl ?_
  refine r_getI dX1_reckonDownsFrom_52 fX1_40 h0 tX1_1 ?_
  refine r_icmp_ge (tgt := 181) dX1_reckonDownsFrom_55 (by decide) (fun h_5 => ?_) (fun h_5 => ?_)
  · have T := T.1 h_5
    exact r_return dX1_reckonDownsFrom_181 rfl ⟨rfl, T⟩
  · have T := T.2 h_5
    refine r_aload_n dX1_reckonDownsFrom_58 rfl ?_
    refine r_iload dX1_reckonDownsFrom_59 rfl ?_
    refine r_iload_n dX1_reckonDownsFrom_61 rfl ?_
    refine r_callVI (md' := mX1_isFlightFrom) (as := [vI x5, vI x1]) dX1_reckonDownsFrom_62 lX1_76 iX1_isFlightFrom h0 rfl rfl (Nat.le_of_ble_eq_true rfl) T (fun r_1 M1 T => ?_)
    refine r_if_eq (tgt := 111) dX1_reckonDownsFrom_65 (by decide) (fun h_4 => ?_) (fun h_4 => ?_)
    · have T := T.1 h_4
      refine r_iconst dX1_reckonDownsFrom_111 (by decide) ?_
      exact T
    · have T := T.2 h_4
      refine r_aload_n dX1_reckonDownsFrom_68 rfl ?_
      refine r_aload_n dX1_reckonDownsFrom_69 rfl ?_
      refine r_getA dX1_reckonDownsFrom_70 fX1_18 h0 uX1_9 ?_
      refine r_iload dX1_reckonDownsFrom_73 rfl ?_
      refine s_iald dX1_reckonDownsFrom_75 h0 tX1_9 aX1_9 T.1 ?_
      have T := T.2
      refine r_callVI (md' := mX1_isRoom) (as := [vI (M1 o 9 x5.toNat)]) dX1_reckonDownsFrom_76 lX1_80 iX1_isRoom h0 rfl rfl (Nat.le_of_ble_eq_true rfl) T (fun r_2 M2 T => ?_)
      refine r_if_eq (tgt := 111) dX1_reckonDownsFrom_79 (by decide) (fun h_3 => ?_) (fun h_3 => ?_)
      · have T := T.1 h_3
        refine r_iconst dX1_reckonDownsFrom_111 (by decide) ?_
        exact T
      · have T := T.2 h_3
        refine r_aload_n dX1_reckonDownsFrom_82 rfl ?_
        refine r_getA dX1_reckonDownsFrom_83 fX1_18 h0 uX1_9 ?_
        refine r_iload dX1_reckonDownsFrom_86 rfl ?_
        refine s_iald dX1_reckonDownsFrom_88 h0 tX1_9 aX1_9 T.1 ?_
        have T := T.2
        refine r_aload_n dX1_reckonDownsFrom_89 rfl ?_
        refine s_alen dX1_reckonDownsFrom_90 rfl uX11_12 aX11_12 (by decide) ?_
        refine r_icmp_ge (tgt := 111) dX1_reckonDownsFrom_91 (by decide) (fun h_2 => ?_) (fun h_2 => ?_)
        · have T := T.1 h_2
          refine r_iconst dX1_reckonDownsFrom_111 (by decide) ?_
          exact T
        · have T := T.2 h_2
          refine r_aload_n dX1_reckonDownsFrom_94 rfl ?_
          refine r_getA dX1_reckonDownsFrom_95 fX1_18 h0 uX1_9 ?_
          refine r_iload dX1_reckonDownsFrom_98 rfl ?_
          refine s_iald dX1_reckonDownsFrom_100 h0 tX1_9 aX1_9 T.1 ?_
          have T := T.2
          refine r_aload dX1_reckonDownsFrom_101 rfl ?_
          refine s_alen dX1_reckonDownsFrom_103 rfl uX11_13 aX11_13 (by decide) ?_
          refine r_icmp_ge (tgt := 111) dX1_reckonDownsFrom_104 (by decide) (fun h_1 => ?_) (fun h_1 => ?_)
          · have T := T.1 h_1
            refine r_iconst dX1_reckonDownsFrom_111 (by decide) ?_
            exact T
          · have T := T.2 h_1
            refine r_iconst dX1_reckonDownsFrom_107 (by decide) ?_
            refine r_goto (tgt := 112) dX1_reckonDownsFrom_108 (by decide) ?_
            exact T
set_option maxRecDepth 20000 in
set_option maxHeartbeats 1000000 in
theorem bX1_reckonDownsFrom_112 {G : Gx} {K : Kx} {n : Nat} {M : Mem} {Q : Mem → Prop} {o : Nat} {x1 : Int} {x5 : Int} {z0 : Int} (h0 : oc o = 1) (T : (z0 = 0 → CW G K mX1_reckonDownsFrom (n + 1) 49 [some (vO o), some (vI x1), none, some (vA 1 12), some (vA 1 13), some (vI (wr (x5 + 1))), none] [] M (qV Q)) ∧ (¬ (z0 = 0) → (0 ≤ x5 ∧ x5 < 24) ∧ ((0 ≤ M o 9 x5.toNat ∧ M o 9 x5.toNat < 16) ∧ ((M 1 12 (M o 9 x5.toNat).toNat ≤ 0 → CW G K mX1_reckonDownsFrom (n + 1) 49 [some (vO o), some (vI x1), none, some (vA 1 12), some (vA 1 13), some (vI (wr (x5 + 1))), none] [] M (qV Q)) ∧ (¬ (M 1 12 (M o 9 x5.toNat).toNat ≤ 0) → (0 ≤ x1 ∧ x1 < 16) ∧ ((0 ≤ x5 ∧ x5 < 24) ∧ ((0 ≤ M o 9 x5.toNat ∧ M o 9 x5.toNat < 16) ∧ ((0 ≤ x1 ∧ x1 < 16) ∧ (∀ M1 : Mem, M1 = mset M 1 12 x1.toNat (if wr (M 1 12 x1.toNat + (M 1 12 (M o 9 x5.toNat).toNat)) < 1000000 then wr (M 1 12 x1.toNat + (M 1 12 (M o 9 x5.toNat).toNat)) else 1000000) → (0 ≤ x1 ∧ x1 < 16) ∧ ((0 ≤ x5 ∧ x5 < 24) ∧ ((0 ≤ M1 o 9 x5.toNat ∧ M1 o 9 x5.toNat < 16) ∧ ((0 ≤ x1 ∧ x1 < 16) ∧ (∀ M2 : Mem, M2 = mset M1 1 13 x1.toNat (if M1 1 13 x1.toNat < wr (M1 1 13 (M1 o 9 x5.toNat).toNat + 1) then wr (M1 1 13 (M1 o 9 x5.toNat).toNat + 1) else M1 1 13 x1.toNat) → CW G K mX1_reckonDownsFrom (n + 1) 49 [some (vO o), some (vI x1), none, some (vA 1 12), some (vA 1 13), some (vI (wr (x5 + 1))), none] [] M2 (qV Q)))))))))))))) : CW G K mX1_reckonDownsFrom (n + 1) 112 [some (vO o), some (vI x1), none, some (vA 1 12), some (vA 1 13), some (vI x5), none] [vI z0] M (qV Q) := by
  refine r_istore dX1_reckonDownsFrom_112 (by decide) rfl ?_
  refine r_iload dX1_reckonDownsFrom_114 rfl ?_
  refine r_if_eq (tgt := 175) dX1_reckonDownsFrom_116 (by decide) (fun h_2 => ?_) (fun h_2 => ?_)
  · have T := T.1 h_2
    refine r_iinc dX1_reckonDownsFrom_175 rfl (by decide) rfl ?_
    refine r_goto (tgt := 49) dX1_reckonDownsFrom_178 (by decide) ?_
    exact CW_msk [true, true, false, true, true, true, false] rfl T
  · have T := T.2 h_2
    refine r_aload_n dX1_reckonDownsFrom_119 rfl ?_
    refine r_aload_n dX1_reckonDownsFrom_120 rfl ?_
    refine r_getA dX1_reckonDownsFrom_121 fX1_18 h0 uX1_9 ?_
    refine r_iload dX1_reckonDownsFrom_124 rfl ?_
    refine s_iald dX1_reckonDownsFrom_126 h0 tX1_9 aX1_9 T.1 ?_
    have T := T.2
    refine s_iald dX1_reckonDownsFrom_127 rfl tX11_12 aX11_12 T.1 ?_
    have T := T.2
    refine r_if_le (tgt := 175) dX1_reckonDownsFrom_128 (by decide) (fun h_1 => ?_) (fun h_1 => ?_)
    · have T := T.1 h_1
      refine r_iinc dX1_reckonDownsFrom_175 rfl (by decide) rfl ?_
      refine r_goto (tgt := 49) dX1_reckonDownsFrom_178 (by decide) ?_
      exact CW_msk [true, true, false, true, true, true, false] rfl T
    · have T := T.2 h_1
      refine r_aload_n dX1_reckonDownsFrom_131 rfl ?_
      refine r_iload_n dX1_reckonDownsFrom_132 rfl ?_
      refine r_ldc (z := 1000000) dX1_reckonDownsFrom_133 kX1_83 (by decide) (by decide) ?_
      refine r_aload_n dX1_reckonDownsFrom_135 rfl ?_
      refine r_iload_n dX1_reckonDownsFrom_136 rfl ?_
      refine s_iald dX1_reckonDownsFrom_137 rfl tX11_12 aX11_12 T.1 ?_
      have T := T.2
      refine r_aload_n dX1_reckonDownsFrom_138 rfl ?_
      refine r_aload_n dX1_reckonDownsFrom_139 rfl ?_
      refine r_getA dX1_reckonDownsFrom_140 fX1_18 h0 uX1_9 ?_
      refine r_iload dX1_reckonDownsFrom_143 rfl ?_
      refine s_iald dX1_reckonDownsFrom_145 h0 tX1_9 aX1_9 T.1 ?_
      have T := T.2
      refine s_iald dX1_reckonDownsFrom_146 rfl tX11_12 aX11_12 T.1 ?_
      have T := T.2
      refine r_iadd dX1_reckonDownsFrom_147 ?_
      refine r_min dX1_reckonDownsFrom_148 lX1_84 wmin2 wmath wmin4 (Nat.le_of_ble_eq_true rfl) ?_
      refine n_iast dX1_reckonDownsFrom_151 rfl tX11_12 aX11_12 T.1 (fun M1 hM1 => ?_)
      have T := T.2 M1 hM1
      refine r_aload dX1_reckonDownsFrom_152 rfl ?_
      refine r_iload_n dX1_reckonDownsFrom_154 rfl ?_
      refine r_aload dX1_reckonDownsFrom_155 rfl ?_
      refine r_iload_n dX1_reckonDownsFrom_157 rfl ?_
      refine s_iald dX1_reckonDownsFrom_158 rfl tX11_13 aX11_13 T.1 ?_
      have T := T.2
      refine r_aload dX1_reckonDownsFrom_159 rfl ?_
      refine r_aload_n dX1_reckonDownsFrom_161 rfl ?_
      refine r_getA dX1_reckonDownsFrom_162 fX1_18 h0 uX1_9 ?_
      refine r_iload dX1_reckonDownsFrom_165 rfl ?_
      refine s_iald dX1_reckonDownsFrom_167 h0 tX1_9 aX1_9 T.1 ?_
      have T := T.2
      refine s_iald dX1_reckonDownsFrom_168 rfl tX11_13 aX11_13 T.1 ?_
      have T := T.2
      refine r_iconst dX1_reckonDownsFrom_169 (by decide) ?_
      refine r_iadd dX1_reckonDownsFrom_170 ?_
      refine r_max dX1_reckonDownsFrom_171 lX1_66 wmax2 wmath wmax4 (Nat.le_of_ble_eq_true rfl) ?_
      refine n_iast dX1_reckonDownsFrom_174 rfl tX11_13 aX11_13 T.1 (fun M2 hM2 => ?_)
      have T := T.2 M2 hM2
      refine r_iinc dX1_reckonDownsFrom_175 rfl (by decide) rfl ?_
      refine r_goto (tgt := 49) dX1_reckonDownsFrom_178 (by decide) ?_
      exact CW_msk [true, true, false, true, true, true, false] rfl T
theorem eX1_reckonDownsFrom {G : Gx} {n : Nat} {M : Mem} {Q : Mem → Prop} {o : Nat} {x1 : Int} {x2 : Int} (h : ∀ K : Kx, CW G K mX1_reckonDownsFrom n 0 [some (vO o), some (vI x1), some (vI x2), some (vA 1 12), some (vA 1 13), none, none] [] M (qV Q)) : OkV G n mX1_reckonDownsFrom [vO o, vI x1, vI x2, vA 1 12, vA 1 13] M Q := Ok_of (by decide) (Nat.le_of_ble_eq_true rfl) rfl h
-- DownOnly$House firstOfLongest (I[I)I
set_option maxRecDepth 20000 in
set_option maxHeartbeats 1000000 in
theorem bX1_firstOfLongest_0 {G : Gx} {K : Kx} {n : Nat} {M : Mem} {Q : Int → Mem → Prop} {o : Nat} {x1 : Int}  (T : (x1 < 0 → Q (-2) M) ∧ (¬ (x1 < 0) → (x1 < 16 → CW G K mX1_firstOfLongest (n + 1) 15 [some (vO o), some (vI x1), some (vA 1 13), some (vI 0), none] [] M (qI Q)) ∧ (¬ (x1 < 16) → Q (-2) M))) : CW G K mX1_firstOfLongest (n + 1) 0 [some (vO o), some (vI x1), some (vA 1 13), none, none] [] M (qI Q) := by
  refine r_iload_n dX1_firstOfLongest_0 rfl ?_
  refine r_if_lt (tgt := 10) dX1_firstOfLongest_1 (by decide) (fun h_2 => ?_) (fun h_2 => ?_)
  · have T := T.1 h_2
    refine r_bipush dX1_firstOfLongest_10 (by decide) (by decide) ?_
    exact r_ireturn dX1_firstOfLongest_12 rfl ⟨_, rfl, T⟩
  · have T := T.2 h_2
    refine r_iload_n dX1_firstOfLongest_4 rfl ?_
    refine r_aload_n dX1_firstOfLongest_5 rfl ?_
    refine s_alen dX1_firstOfLongest_6 rfl uX11_13 aX11_13 (by decide) ?_
    refine r_icmp_lt (tgt := 13) dX1_firstOfLongest_7 (by decide) (fun h_1 => ?_) (fun h_1 => ?_)
    · have T := T.1 h_1
      refine r_iconst dX1_firstOfLongest_13 (by decide) ?_
      refine r_istore_n dX1_firstOfLongest_14 (by decide) rfl ?_
      exact T
    · have T := T.2 h_1
      refine r_bipush dX1_firstOfLongest_10 (by decide) (by decide) ?_
      exact r_ireturn dX1_firstOfLongest_12 rfl ⟨_, rfl, T⟩
set_option maxRecDepth 20000 in
set_option maxHeartbeats 1000000 in
theorem bX1_firstOfLongest_15 {G : Gx} {K : Kx} {n : Nat} {M : Mem} {Q : Int → Mem → Prop} {o : Nat} {x1 : Int} {x3 : Int} (h0 : oc o = 1) (T : (M o 1 0 ≤ x3 → Q (-2) M) ∧ (¬ (M o 1 0 ≤ x3) → OkI G n mX1_isFlightFrom [vO o, vI x3, vI x1] M (fun r_1 M1 => (r_1 = 0 → CW G K mX1_firstOfLongest (n + 1) 61 [some (vO o), some (vI x1), some (vA 1 13), some (vI x3), none] [vI 0] M1 (qI Q)) ∧ (¬ (r_1 = 0) → (0 ≤ x3 ∧ x3 < 24) ∧ (OkI G n mX1_isRoom [vO o, vI (M1 o 9 x3.toNat)] M1 (fun r_2 M2 => (r_2 = 0 → CW G K mX1_firstOfLongest (n + 1) 61 [some (vO o), some (vI x1), some (vA 1 13), some (vI x3), none] [vI 0] M2 (qI Q)) ∧ (¬ (r_2 = 0) → (0 ≤ x3 ∧ x3 < 24) ∧ ((16 ≤ M2 o 9 x3.toNat → CW G K mX1_firstOfLongest (n + 1) 61 [some (vO o), some (vI x1), some (vA 1 13), some (vI x3), none] [vI 0] M2 (qI Q)) ∧ (¬ (16 ≤ M2 o 9 x3.toNat) → CW G K mX1_firstOfLongest (n + 1) 61 [some (vO o), some (vI x1), some (vA 1 13), some (vI x3), none] [vI 1] M2 (qI Q)))))))))) : CW G K mX1_firstOfLongest (n + 1) 15 [some (vO o), some (vI x1), some (vA 1 13), some (vI x3), none] [] M (qI Q) := by
  refine r_iload_n dX1_firstOfLongest_15 rfl ?_
  refine r_aload_n dX1_firstOfLongest_16 rfl ?_
  refine r_getI dX1_firstOfLongest_17 fX1_40 h0 tX1_1 ?_
  refine r_icmp_ge (tgt := 103) dX1_firstOfLongest_20 (by decide) (fun h_4 => ?_) (fun h_4 => ?_)
  · have T := T.1 h_4
    refine r_bipush dX1_firstOfLongest_103 (by decide) (by decide) ?_
    exact r_ireturn dX1_firstOfLongest_105 rfl ⟨_, rfl, T⟩
  · have T := T.2 h_4
    refine r_aload_n dX1_firstOfLongest_23 rfl ?_
    refine r_iload_n dX1_firstOfLongest_24 rfl ?_
    refine r_iload_n dX1_firstOfLongest_25 rfl ?_
    refine r_callVI (md' := mX1_isFlightFrom) (as := [vI x3, vI x1]) dX1_firstOfLongest_26 lX1_76 iX1_isFlightFrom h0 rfl rfl (Nat.le_of_ble_eq_true rfl) T (fun r_1 M1 T => ?_)
    refine r_if_eq (tgt := 60) dX1_firstOfLongest_29 (by decide) (fun h_3 => ?_) (fun h_3 => ?_)
    · have T := T.1 h_3
      refine r_iconst dX1_firstOfLongest_60 (by decide) ?_
      exact T
    · have T := T.2 h_3
      refine r_aload_n dX1_firstOfLongest_32 rfl ?_
      refine r_aload_n dX1_firstOfLongest_33 rfl ?_
      refine r_getA dX1_firstOfLongest_34 fX1_18 h0 uX1_9 ?_
      refine r_iload_n dX1_firstOfLongest_37 rfl ?_
      refine s_iald dX1_firstOfLongest_38 h0 tX1_9 aX1_9 T.1 ?_
      have T := T.2
      refine r_callVI (md' := mX1_isRoom) (as := [vI (M1 o 9 x3.toNat)]) dX1_firstOfLongest_39 lX1_80 iX1_isRoom h0 rfl rfl (Nat.le_of_ble_eq_true rfl) T (fun r_2 M2 T => ?_)
      refine r_if_eq (tgt := 60) dX1_firstOfLongest_42 (by decide) (fun h_2 => ?_) (fun h_2 => ?_)
      · have T := T.1 h_2
        refine r_iconst dX1_firstOfLongest_60 (by decide) ?_
        exact T
      · have T := T.2 h_2
        refine r_aload_n dX1_firstOfLongest_45 rfl ?_
        refine r_getA dX1_firstOfLongest_46 fX1_18 h0 uX1_9 ?_
        refine r_iload_n dX1_firstOfLongest_49 rfl ?_
        refine s_iald dX1_firstOfLongest_50 h0 tX1_9 aX1_9 T.1 ?_
        have T := T.2
        refine r_aload_n dX1_firstOfLongest_51 rfl ?_
        refine s_alen dX1_firstOfLongest_52 rfl uX11_13 aX11_13 (by decide) ?_
        refine r_icmp_ge (tgt := 60) dX1_firstOfLongest_53 (by decide) (fun h_1 => ?_) (fun h_1 => ?_)
        · have T := T.1 h_1
          refine r_iconst dX1_firstOfLongest_60 (by decide) ?_
          exact T
        · have T := T.2 h_1
          refine r_iconst dX1_firstOfLongest_56 (by decide) ?_
          refine r_goto (tgt := 61) dX1_firstOfLongest_57 (by decide) ?_
          exact T
set_option maxRecDepth 20000 in
set_option maxHeartbeats 1000000 in
theorem bX1_firstOfLongest_61 {G : Gx} {K : Kx} {n : Nat} {M : Mem} {Q : Int → Mem → Prop} {o : Nat} {x1 : Int} {x3 : Int} {z0 : Int} (h0 : oc o = 1) (T : (z0 = 0 → CW G K mX1_firstOfLongest (n + 1) 15 [some (vO o), some (vI x1), some (vA 1 13), some (vI (wr (x3 + 1))), none] [] M (qI Q)) ∧ (¬ (z0 = 0) → (0 ≤ x3 ∧ x3 < 24) ∧ ((0 ≤ M o 9 x3.toNat ∧ M o 9 x3.toNat < 16) ∧ ((M 1 13 (M o 9 x3.toNat).toNat < 0 → CW G K mX1_firstOfLongest (n + 1) 15 [some (vO o), some (vI x1), some (vA 1 13), some (vI (wr (x3 + 1))), none] [] M (qI Q)) ∧ (¬ (M 1 13 (M o 9 x3.toNat).toNat < 0) → (0 ≤ x3 ∧ x3 < 24) ∧ ((0 ≤ M o 9 x3.toNat ∧ M o 9 x3.toNat < 16) ∧ ((0 ≤ x1 ∧ x1 < 16) ∧ ((¬ wr (M 1 13 (M o 9 x3.toNat).toNat + 1) = M 1 13 x1.toNat → CW G K mX1_firstOfLongest (n + 1) 15 [some (vO o), some (vI x1), some (vA 1 13), some (vI (wr (x3 + 1))), none] [] M (qI Q)) ∧ (wr (M 1 13 (M o 9 x3.toNat).toNat + 1) = M 1 13 x1.toNat → Q x3 M))))))))) : CW G K mX1_firstOfLongest (n + 1) 61 [some (vO o), some (vI x1), some (vA 1 13), some (vI x3), none] [vI z0] M (qI Q) := by
  refine r_istore dX1_firstOfLongest_61 (by decide) rfl ?_
  refine r_iload dX1_firstOfLongest_63 rfl ?_
  refine r_if_eq (tgt := 97) dX1_firstOfLongest_65 (by decide) (fun h_3 => ?_) (fun h_3 => ?_)
  · have T := T.1 h_3
    refine r_iinc dX1_firstOfLongest_97 rfl (by decide) rfl ?_
    refine r_goto (tgt := 15) dX1_firstOfLongest_100 (by decide) ?_
    exact CW_msk [true, true, true, true, false] rfl T
  · have T := T.2 h_3
    refine r_aload_n dX1_firstOfLongest_68 rfl ?_
    refine r_aload_n dX1_firstOfLongest_69 rfl ?_
    refine r_getA dX1_firstOfLongest_70 fX1_18 h0 uX1_9 ?_
    refine r_iload_n dX1_firstOfLongest_73 rfl ?_
    refine s_iald dX1_firstOfLongest_74 h0 tX1_9 aX1_9 T.1 ?_
    have T := T.2
    refine s_iald dX1_firstOfLongest_75 rfl tX11_13 aX11_13 T.1 ?_
    have T := T.2
    refine r_if_lt (tgt := 97) dX1_firstOfLongest_76 (by decide) (fun h_2 => ?_) (fun h_2 => ?_)
    · have T := T.1 h_2
      refine r_iinc dX1_firstOfLongest_97 rfl (by decide) rfl ?_
      refine r_goto (tgt := 15) dX1_firstOfLongest_100 (by decide) ?_
      exact CW_msk [true, true, true, true, false] rfl T
    · have T := T.2 h_2
      refine r_aload_n dX1_firstOfLongest_79 rfl ?_
      refine r_aload_n dX1_firstOfLongest_80 rfl ?_
      refine r_getA dX1_firstOfLongest_81 fX1_18 h0 uX1_9 ?_
      refine r_iload_n dX1_firstOfLongest_84 rfl ?_
      refine s_iald dX1_firstOfLongest_85 h0 tX1_9 aX1_9 T.1 ?_
      have T := T.2
      refine s_iald dX1_firstOfLongest_86 rfl tX11_13 aX11_13 T.1 ?_
      have T := T.2
      refine r_iconst dX1_firstOfLongest_87 (by decide) ?_
      refine r_iadd dX1_firstOfLongest_88 ?_
      refine r_aload_n dX1_firstOfLongest_89 rfl ?_
      refine r_iload_n dX1_firstOfLongest_90 rfl ?_
      refine s_iald dX1_firstOfLongest_91 rfl tX11_13 aX11_13 T.1 ?_
      have T := T.2
      refine r_icmp_ne (tgt := 97) dX1_firstOfLongest_92 (by decide) (fun h_1 => ?_) (fun h_1 => ?_)
      · have T := T.1 h_1
        refine r_iinc dX1_firstOfLongest_97 rfl (by decide) rfl ?_
        refine r_goto (tgt := 15) dX1_firstOfLongest_100 (by decide) ?_
        exact CW_msk [true, true, true, true, false] rfl T
      · have T := T.2 h_1
        refine r_iload_n dX1_firstOfLongest_95 rfl ?_
        exact r_ireturn dX1_firstOfLongest_96 rfl ⟨_, rfl, T⟩
theorem eX1_firstOfLongest {G : Gx} {n : Nat} {M : Mem} {Q : Int → Mem → Prop} {o : Nat} {x1 : Int} (h : ∀ K : Kx, CW G K mX1_firstOfLongest n 0 [some (vO o), some (vI x1), some (vA 1 13), none, none] [] M (qI Q)) : OkI G n mX1_firstOfLongest [vO o, vI x1, vA 1 13] M Q := Ok_of (by decide) (Nat.le_of_ble_eq_true rfl) rfl h
-- DownOnly$House isFlightFrom (II)Z
set_option maxRecDepth 20000 in
set_option maxHeartbeats 1000000 in
theorem bX1_isFlightFrom_0 {G : Gx} {K : Kx} {n : Nat} {M : Mem} {Q : Int → Mem → Prop} {o : Nat} {x1 : Int} {x2 : Int} (h0 : oc o = 1) (T : OkI G n mX1_isWay [vO o, vI x1] M (fun r_1 M1 => (r_1 = 0 → Q 0 M1) ∧ (¬ (r_1 = 0) → (0 ≤ x1 ∧ x1 < 24) ∧ ((¬ M1 o 11 x1.toNat = 0 → Q 0 M1) ∧ (M1 o 11 x1.toNat = 0 → (0 ≤ x1 ∧ x1 < 24) ∧ ((¬ M1 o 8 x1.toNat = x2 → Q 0 M1) ∧ (M1 o 8 x1.toNat = x2 → Q 1 M1))))))) : CW G K mX1_isFlightFrom (n + 1) 0 [some (vO o), some (vI x1), some (vI x2)] [] M (qI Q) := by
  refine r_aload_n dX1_isFlightFrom_0 rfl ?_
  refine r_iload_n dX1_isFlightFrom_1 rfl ?_
  refine r_callVI (md' := mX1_isWay) (as := [vI x1]) dX1_isFlightFrom_2 lX1_62 iX1_isWay h0 rfl rfl (Nat.le_of_ble_eq_true rfl) T (fun r_1 M1 T => ?_)
  refine r_if_eq (tgt := 31) dX1_isFlightFrom_5 (by decide) (fun h_3 => ?_) (fun h_3 => ?_)
  · have T := T.1 h_3
    refine r_iconst dX1_isFlightFrom_31 (by decide) ?_
    exact r_zreturn dX1_isFlightFrom_32 rfl (by decide) ⟨_, rfl, T⟩
  · have T := T.2 h_3
    refine r_aload_n dX1_isFlightFrom_8 rfl ?_
    refine r_getA dX1_isFlightFrom_9 fX1_24 h0 uX1_11 ?_
    refine r_iload_n dX1_isFlightFrom_12 rfl ?_
    refine s_iald dX1_isFlightFrom_13 h0 tX1_11 aX1_11 T.1 ?_
    have T := T.2
    refine r_if_ne (tgt := 31) dX1_isFlightFrom_14 (by decide) (fun h_2 => ?_) (fun h_2 => ?_)
    · have T := T.1 h_2
      refine r_iconst dX1_isFlightFrom_31 (by decide) ?_
      exact r_zreturn dX1_isFlightFrom_32 rfl (by decide) ⟨_, rfl, T⟩
    · have T := T.2 h_2
      refine r_aload_n dX1_isFlightFrom_17 rfl ?_
      refine r_getA dX1_isFlightFrom_18 fX1_15 h0 uX1_8 ?_
      refine r_iload_n dX1_isFlightFrom_21 rfl ?_
      refine s_iald dX1_isFlightFrom_22 h0 tX1_8 aX1_8 T.1 ?_
      have T := T.2
      refine r_iload_n dX1_isFlightFrom_23 rfl ?_
      refine r_icmp_ne (tgt := 31) dX1_isFlightFrom_24 (by decide) (fun h_1 => ?_) (fun h_1 => ?_)
      · have T := T.1 h_1
        refine r_iconst dX1_isFlightFrom_31 (by decide) ?_
        exact r_zreturn dX1_isFlightFrom_32 rfl (by decide) ⟨_, rfl, T⟩
      · have T := T.2 h_1
        refine r_iconst dX1_isFlightFrom_27 (by decide) ?_
        refine r_goto (tgt := 32) dX1_isFlightFrom_28 (by decide) ?_
        exact r_zreturn dX1_isFlightFrom_32 rfl (by decide) ⟨_, rfl, T⟩
theorem eX1_isFlightFrom {G : Gx} {n : Nat} {M : Mem} {Q : Int → Mem → Prop} {o : Nat} {x1 : Int} {x2 : Int} (h : ∀ K : Kx, CW G K mX1_isFlightFrom n 0 [some (vO o), some (vI x1), some (vI x2)] [] M (qI Q)) : OkI G n mX1_isFlightFrom [vO o, vI x1, vI x2] M Q := Ok_of (by decide) (Nat.le_of_ble_eq_true rfl) rfl h
-- DownOnly$House twos (I[I)I
set_option maxRecDepth 20000 in
set_option maxHeartbeats 1000000 in
theorem bX1_twos_0 {G : Gx} {K : Kx} {n : Nat} {M : Mem} {Q : Int → Mem → Prop} {o : Nat} {x1 : Int}  (T : CW G K mX1_twos (n + 1) 2 [some (vO o), some (vI x1), some (vA 1 14), some (vI 0), none, none] [] M (qI Q)) : CW G K mX1_twos (n + 1) 0 [some (vO o), some (vI x1), some (vA 1 14), none, none, none] [] M (qI Q) := by
  refine r_iconst dX1_twos_0 (by decide) ?_
  refine r_istore_n dX1_twos_1 (by decide) rfl ?_
  exact T
set_option maxRecDepth 20000 in
set_option maxHeartbeats 1000000 in
theorem bX1_twos_2 {G : Gx} {K : Kx} {n : Nat} {M : Mem} {Q : Int → Mem → Prop} {o : Nat} {x1 : Int} {x3 : Int} (h0 : oc o = 1) (T : (M o 0 0 ≤ x3 → CW G K mX1_twos (n + 1) 33 [some (vO o), some (vI x1), some (vA 1 14), some (vI 1), some (vI 0), none] [] M (qI Q)) ∧ (¬ (M o 0 0 ≤ x3) → (16 ≤ x3 → CW G K mX1_twos (n + 1) 33 [some (vO o), some (vI x1), some (vA 1 14), some (vI 1), some (vI 0), none] [] M (qI Q)) ∧ (¬ (16 ≤ x3) → (0 ≤ x3 ∧ x3 < 16) ∧ (∀ M1 : Mem, M1 = mset M 1 14 x3.toNat (bShl 1 x3) → CW G K mX1_twos (n + 1) 2 [some (vO o), some (vI x1), some (vA 1 14), some (vI (wr (x3 + 1))), none, none] [] M1 (qI Q))))) : CW G K mX1_twos (n + 1) 2 [some (vO o), some (vI x1), some (vA 1 14), some (vI x3), none, none] [] M (qI Q) := by
  refine r_iload_n dX1_twos_2 rfl ?_
  refine r_aload_n dX1_twos_3 rfl ?_
  refine r_getI dX1_twos_4 fX1_36 h0 tX1_0 ?_
  refine r_icmp_ge (tgt := 28) dX1_twos_7 (by decide) (fun h_2 => ?_) (fun h_2 => ?_)
  · have T := T.1 h_2
    refine r_iconst dX1_twos_28 (by decide) ?_
    refine r_istore_n dX1_twos_29 (by decide) rfl ?_
    refine r_iconst dX1_twos_30 (by decide) ?_
    refine r_istore dX1_twos_31 (by decide) rfl ?_
    exact T
  · have T := T.2 h_2
    refine r_iload_n dX1_twos_10 rfl ?_
    refine r_aload_n dX1_twos_11 rfl ?_
    refine s_alen dX1_twos_12 rfl uX11_14 aX11_14 (by decide) ?_
    refine r_icmp_ge (tgt := 28) dX1_twos_13 (by decide) (fun h_1 => ?_) (fun h_1 => ?_)
    · have T := T.1 h_1
      refine r_iconst dX1_twos_28 (by decide) ?_
      refine r_istore_n dX1_twos_29 (by decide) rfl ?_
      refine r_iconst dX1_twos_30 (by decide) ?_
      refine r_istore dX1_twos_31 (by decide) rfl ?_
      exact T
    · have T := T.2 h_1
      refine r_aload_n dX1_twos_16 rfl ?_
      refine r_iload_n dX1_twos_17 rfl ?_
      refine r_iconst dX1_twos_18 (by decide) ?_
      refine r_iload_n dX1_twos_19 rfl ?_
      refine r_ishl dX1_twos_20 ?_
      refine n_iast dX1_twos_21 rfl tX11_14 aX11_14 T.1 (fun M1 hM1 => ?_)
      have T := T.2 M1 hM1
      refine r_iinc dX1_twos_22 rfl (by decide) rfl ?_
      refine r_goto (tgt := 2) dX1_twos_25 (by decide) ?_
      exact T
set_option maxRecDepth 20000 in
set_option maxHeartbeats 1000000 in
theorem bX1_twos_33 {G : Gx} {K : Kx} {n : Nat} {M : Mem} {Q : Int → Mem → Prop} {o : Nat} {x1 : Int} {x3 : Int} {x4 : Int}  (T : (16 < x4 → CW G K mX1_twos (n + 1) 142 [some (vO o), none, some (vA 1 14), none, some (vI 0), some (vI 0)] [] M (qI Q)) ∧ (¬ (16 < x4) → (x3 = 0 → CW G K mX1_twos (n + 1) 142 [some (vO o), none, some (vA 1 14), none, some (vI 0), some (vI 0)] [] M (qI Q)) ∧ (¬ (x3 = 0) → CW G K mX1_twos (n + 1) 49 [some (vO o), some (vI x1), some (vA 1 14), some (vI 0), some (vI x4), some (vI 0)] [] M (qI Q)))) : CW G K mX1_twos (n + 1) 33 [some (vO o), some (vI x1), some (vA 1 14), some (vI x3), some (vI x4), none] [] M (qI Q) := by
  refine r_iload dX1_twos_33 rfl ?_
  refine r_bipush dX1_twos_35 (by decide) (by decide) ?_
  refine r_icmp_gt (tgt := 136) dX1_twos_37 (by decide) (fun h_2 => ?_) (fun h_2 => ?_)
  · have T := T.1 h_2
    refine r_iconst dX1_twos_136 (by decide) ?_
    refine r_istore dX1_twos_137 (by decide) rfl ?_
    refine r_iconst dX1_twos_139 (by decide) ?_
    refine r_istore dX1_twos_140 (by decide) rfl ?_
    exact CW_msk [true, false, true, false, true, true] rfl T
  · have T := T.2 h_2
    refine r_iload_n dX1_twos_40 rfl ?_
    refine r_if_eq (tgt := 136) dX1_twos_41 (by decide) (fun h_1 => ?_) (fun h_1 => ?_)
    · have T := T.1 h_1
      refine r_iconst dX1_twos_136 (by decide) ?_
      refine r_istore dX1_twos_137 (by decide) rfl ?_
      refine r_iconst dX1_twos_139 (by decide) ?_
      refine r_istore dX1_twos_140 (by decide) rfl ?_
      exact CW_msk [true, false, true, false, true, true] rfl T
    · have T := T.2 h_1
      refine r_iconst dX1_twos_44 (by decide) ?_
      refine r_istore_n dX1_twos_45 (by decide) rfl ?_
      refine r_iconst dX1_twos_46 (by decide) ?_
      refine r_istore dX1_twos_47 (by decide) rfl ?_
      exact T
set_option maxRecDepth 20000 in
set_option maxHeartbeats 1000000 in
theorem bX1_twos_142 {G : Gx} {K : Kx} {n : Nat} {M : Mem} {Q : Int → Mem → Prop} {o : Nat} {x4 : Int} {x5 : Int} (h0 : oc o = 1) (T : (M o 0 0 ≤ x5 → Q x4 M) ∧ (¬ (M o 0 0 ≤ x5) → (16 ≤ x5 → Q x4 M) ∧ (¬ (16 ≤ x5) → (0 ≤ x5 ∧ x5 < 16) ∧ (OkI G n mJ6_bitCount_0f7a4 [vI (M 1 14 x5.toNat)] M (fun r_1 M1 => CW G K mX1_twos (n + 1) 142 [some (vO o), none, some (vA 1 14), none, some (vI (wr (x4 + (wr (r_1 - 1))))), some (vI (wr (x5 + 1)))] [] M1 (qI Q)))))) : CW G K mX1_twos (n + 1) 142 [some (vO o), none, some (vA 1 14), none, some (vI x4), some (vI x5)] [] M (qI Q) := by
  refine r_iload dX1_twos_142 rfl ?_
  refine r_aload_n dX1_twos_144 rfl ?_
  refine r_getI dX1_twos_145 fX1_36 h0 tX1_0 ?_
  refine r_icmp_ge (tgt := 178) dX1_twos_148 (by decide) (fun h_2 => ?_) (fun h_2 => ?_)
  · have T := T.1 h_2
    refine r_iload dX1_twos_178 rfl ?_
    exact r_ireturn dX1_twos_180 rfl ⟨_, rfl, T⟩
  · have T := T.2 h_2
    refine r_iload dX1_twos_151 rfl ?_
    refine r_aload_n dX1_twos_153 rfl ?_
    refine s_alen dX1_twos_154 rfl uX11_14 aX11_14 (by decide) ?_
    refine r_icmp_ge (tgt := 178) dX1_twos_155 (by decide) (fun h_1 => ?_) (fun h_1 => ?_)
    · have T := T.1 h_1
      refine r_iload dX1_twos_178 rfl ?_
      exact r_ireturn dX1_twos_180 rfl ⟨_, rfl, T⟩
    · have T := T.2 h_1
      refine r_iload dX1_twos_158 rfl ?_
      refine r_aload_n dX1_twos_160 rfl ?_
      refine r_iload dX1_twos_161 rfl ?_
      refine s_iald dX1_twos_163 rfl tX11_14 aX11_14 T.1 ?_
      have T := T.2
      refine r_callSI (md' := mJ6_bitCount_0f7a4) (as := [vI (M 1 14 x5.toNat)]) dX1_twos_164 lX1_91 iJ6_bitCount_0f7a4 rfl rfl (Nat.le_of_ble_eq_true rfl) T (fun r_1 M1 T => ?_)
      refine r_iconst dX1_twos_167 (by decide) ?_
      refine r_isub dX1_twos_168 ?_
      refine r_iadd dX1_twos_169 ?_
      refine r_istore dX1_twos_170 (by decide) rfl ?_
      refine r_iinc dX1_twos_172 rfl (by decide) rfl ?_
      refine r_goto (tgt := 142) dX1_twos_175 (by decide) ?_
      exact T
set_option maxRecDepth 20000 in
set_option maxHeartbeats 1000000 in
theorem bX1_twos_49 {G : Gx} {K : Kx} {n : Nat} {M : Mem} {Q : Int → Mem → Prop} {o : Nat} {x1 : Int} {x3 : Int} {x4 : Int} {x5 : Int} (h0 : oc o = 1) (T : (M o 1 0 ≤ x5 → CW G K mX1_twos (n + 1) 33 [some (vO o), some (vI x1), some (vA 1 14), some (vI x3), some (vI (wr (x4 + 1))), none] [] M (qI Q)) ∧ (¬ (M o 1 0 ≤ x5) → (24 ≤ x5 → CW G K mX1_twos (n + 1) 33 [some (vO o), some (vI x1), some (vA 1 14), some (vI x3), some (vI (wr (x4 + 1))), none] [] M (qI Q)) ∧ (¬ (24 ≤ x5) → (0 ≤ x5 ∧ x5 < 24) ∧ ((0 ≤ x5 ∧ x5 < 24) ∧ (OkI G n mX1_widen [vI (M o 8 x5.toNat), vI (M o 9 x5.toNat), vA 1 14] M (fun r_1 M1 => (0 ≤ x5 ∧ x5 < 24) ∧ ((M1 o 11 x5.toNat = 1 → CW G K mX1_twos (n + 1) 103 [some (vO o), some (vI x1), some (vA 1 14), some (vI (bOr x3 r_1)), some (vI x4), some (vI x5)] [] M1 (qI Q)) ∧ (¬ (M1 o 11 x5.toNat = 1) → (¬ x5 = x1 → CW G K mX1_twos (n + 1) 49 [some (vO o), some (vI x1), some (vA 1 14), some (vI (bOr x3 r_1)), some (vI x4), some (vI (wr (x5 + 1)))] [] M1 (qI Q)) ∧ (x5 = x1 → CW G K mX1_twos (n + 1) 103 [some (vO o), some (vI x1), some (vA 1 14), some (vI (bOr x3 r_1)), some (vI x4), some (vI x5)] [] M1 (qI Q)))))))))) : CW G K mX1_twos (n + 1) 49 [some (vO o), some (vI x1), some (vA 1 14), some (vI x3), some (vI x4), some (vI x5)] [] M (qI Q) := by
  refine r_iload dX1_twos_49 rfl ?_
  refine r_aload_n dX1_twos_51 rfl ?_
  refine r_getI dX1_twos_52 fX1_40 h0 tX1_1 ?_
  refine r_icmp_ge (tgt := 130) dX1_twos_55 (by decide) (fun h_4 => ?_) (fun h_4 => ?_)
  · have T := T.1 h_4
    refine r_iinc dX1_twos_130 rfl (by decide) rfl ?_
    refine r_goto (tgt := 33) dX1_twos_133 (by decide) ?_
    exact CW_msk [true, true, true, true, true, false] rfl T
  · have T := T.2 h_4
    refine r_iload dX1_twos_58 rfl ?_
    refine r_bipush dX1_twos_60 (by decide) (by decide) ?_
    refine r_icmp_ge (tgt := 130) dX1_twos_62 (by decide) (fun h_3 => ?_) (fun h_3 => ?_)
    · have T := T.1 h_3
      refine r_iinc dX1_twos_130 rfl (by decide) rfl ?_
      refine r_goto (tgt := 33) dX1_twos_133 (by decide) ?_
      exact CW_msk [true, true, true, true, true, false] rfl T
    · have T := T.2 h_3
      refine r_iload_n dX1_twos_65 rfl ?_
      refine r_aload_n dX1_twos_66 rfl ?_
      refine r_getA dX1_twos_67 fX1_15 h0 uX1_8 ?_
      refine r_iload dX1_twos_70 rfl ?_
      refine s_iald dX1_twos_72 h0 tX1_8 aX1_8 T.1 ?_
      have T := T.2
      refine r_aload_n dX1_twos_73 rfl ?_
      refine r_getA dX1_twos_74 fX1_18 h0 uX1_9 ?_
      refine r_iload dX1_twos_77 rfl ?_
      refine s_iald dX1_twos_79 h0 tX1_9 aX1_9 T.1 ?_
      have T := T.2
      refine r_aload_n dX1_twos_80 rfl ?_
      refine r_callSI (md' := mX1_widen) (as := [vI (M o 8 x5.toNat), vI (M o 9 x5.toNat), vA 1 14]) dX1_twos_81 lX1_87 iX1_widen rfl rfl (Nat.le_of_ble_eq_true rfl) T (fun r_1 M1 T => ?_)
      refine r_ior dX1_twos_84 ?_
      refine r_istore_n dX1_twos_85 (by decide) rfl ?_
      refine r_aload_n dX1_twos_86 rfl ?_
      refine r_getA dX1_twos_87 fX1_24 h0 uX1_11 ?_
      refine r_iload dX1_twos_90 rfl ?_
      refine s_iald dX1_twos_92 h0 tX1_11 aX1_11 T.1 ?_
      have T := T.2
      refine r_iconst dX1_twos_93 (by decide) ?_
      refine r_icmp_eq (tgt := 103) dX1_twos_94 (by decide) (fun h_2 => ?_) (fun h_2 => ?_)
      · have T := T.1 h_2
        exact T
      · have T := T.2 h_2
        refine r_iload dX1_twos_97 rfl ?_
        refine r_iload_n dX1_twos_99 rfl ?_
        refine r_icmp_ne (tgt := 124) dX1_twos_100 (by decide) (fun h_1 => ?_) (fun h_1 => ?_)
        · have T := T.1 h_1
          refine r_iinc dX1_twos_124 rfl (by decide) rfl ?_
          refine r_goto (tgt := 49) dX1_twos_127 (by decide) ?_
          exact T
        · have T := T.2 h_1
          exact T
set_option maxRecDepth 20000 in
set_option maxHeartbeats 1000000 in
theorem bX1_twos_103 {G : Gx} {K : Kx} {n : Nat} {M : Mem} {Q : Int → Mem → Prop} {o : Nat} {x1 : Int} {x3 : Int} {x4 : Int} {x5 : Int} (h0 : oc o = 1) (T : (0 ≤ x5 ∧ x5 < 24) ∧ ((0 ≤ x5 ∧ x5 < 24) ∧ (OkI G n mX1_widen [vI (M o 9 x5.toNat), vI (M o 8 x5.toNat), vA 1 14] M (fun r_1 M1 => CW G K mX1_twos (n + 1) 49 [some (vO o), some (vI x1), some (vA 1 14), some (vI (bOr x3 r_1)), some (vI x4), some (vI (wr (x5 + 1)))] [] M1 (qI Q))))) : CW G K mX1_twos (n + 1) 103 [some (vO o), some (vI x1), some (vA 1 14), some (vI x3), some (vI x4), some (vI x5)] [] M (qI Q) := by
  refine r_iload_n dX1_twos_103 rfl ?_
  refine r_aload_n dX1_twos_104 rfl ?_
  refine r_getA dX1_twos_105 fX1_18 h0 uX1_9 ?_
  refine r_iload dX1_twos_108 rfl ?_
  refine s_iald dX1_twos_110 h0 tX1_9 aX1_9 T.1 ?_
  have T := T.2
  refine r_aload_n dX1_twos_111 rfl ?_
  refine r_getA dX1_twos_112 fX1_15 h0 uX1_8 ?_
  refine r_iload dX1_twos_115 rfl ?_
  refine s_iald dX1_twos_117 h0 tX1_8 aX1_8 T.1 ?_
  have T := T.2
  refine r_aload_n dX1_twos_118 rfl ?_
  refine r_callSI (md' := mX1_widen) (as := [vI (M o 9 x5.toNat), vI (M o 8 x5.toNat), vA 1 14]) dX1_twos_119 lX1_87 iX1_widen rfl rfl (Nat.le_of_ble_eq_true rfl) T (fun r_1 M1 T => ?_)
  refine r_ior dX1_twos_122 ?_
  refine r_istore_n dX1_twos_123 (by decide) rfl ?_
  refine r_iinc dX1_twos_124 rfl (by decide) rfl ?_
  refine r_goto (tgt := 49) dX1_twos_127 (by decide) ?_
  exact T
theorem eX1_twos {G : Gx} {n : Nat} {M : Mem} {Q : Int → Mem → Prop} {o : Nat} {x1 : Int} (h : ∀ K : Kx, CW G K mX1_twos n 0 [some (vO o), some (vI x1), some (vA 1 14), none, none, none] [] M (qI Q)) : OkI G n mX1_twos [vO o, vI x1, vA 1 14] M Q := Ok_of (by decide) (Nat.le_of_ble_eq_true rfl) rfl h
