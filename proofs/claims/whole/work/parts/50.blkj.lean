-- java/util/Arrays rangeCheck (III)V
set_option maxRecDepth 20000 in
set_option maxHeartbeats 1000000 in
theorem bJ7_rangeCheck_23922_0 {G : Gx} {K : Kx} {n : Nat} {M : Mem} {Q : Mem → Prop}  {x0 : Int} {x1 : Int} {x2 : Int}  (T : (x1 ≤ x2 → (0 ≤ x1 → (x2 ≤ x0 → Q M) ∧ (¬ (x2 ≤ x0) → False)) ∧ (¬ (0 ≤ x1) → False)) ∧ (¬ (x1 ≤ x2) → False)) : CW G K mJ7_rangeCheck_23922 (n + 1) 0 [some (vI x0), some (vI x1), some (vI x2)] [] M (qV Q) := by
  refine r_iload_n dJ7_rangeCheck_23922_0 rfl ?_
  refine r_iload_n dJ7_rangeCheck_23922_1 rfl ?_
  refine r_icmp_le (tgt := 46) dJ7_rangeCheck_23922_2 (by decide) (fun h_3 => ?_) (fun h_3 => ?_)
  · have T := T.1 h_3
    refine r_iload_n dJ7_rangeCheck_23922_46 rfl ?_
    refine r_if_ge (tgt := 59) dJ7_rangeCheck_23922_47 (by decide) (fun h_2 => ?_) (fun h_2 => ?_)
    · have T := T.1 h_2
      refine r_iload_n dJ7_rangeCheck_23922_59 rfl ?_
      refine r_iload_n dJ7_rangeCheck_23922_60 rfl ?_
      refine r_icmp_le (tgt := 73) dJ7_rangeCheck_23922_61 (by decide) (fun h_1 => ?_) (fun h_1 => ?_)
      · have T := T.1 h_1
        exact r_return dJ7_rangeCheck_23922_73 rfl ⟨rfl, T⟩
      · have T := T.2 h_1
        exact T.elim
    · have T := T.2 h_2
      exact T.elim
  · have T := T.2 h_3
    exact T.elim
theorem eJ7_rangeCheck_23922 {G : Gx} {n : Nat} {M : Mem} {Q : Mem → Prop}  {x0 : Int} {x1 : Int} {x2 : Int} (h : ∀ K : Kx, CW G K mJ7_rangeCheck_23922 n 0 [some (vI x0), some (vI x1), some (vI x2)] [] M (qV Q)) : OkV G n mJ7_rangeCheck_23922 [vI x0, vI x1, vI x2] M Q := Ok_of (by decide) (Nat.le_of_ble_eq_true rfl) rfl h
-- java/util/Arrays fill ([IIII)V
set_option maxRecDepth 20000 in
set_option maxHeartbeats 1000000 in
theorem bJ7_fill_fda19_0 {G : Gx} {K : Kx} {n : Nat} {M : Mem} {Q : Mem → Prop} {oA : Nat} {kA : Nat} {NA : Int} {x1 : Int} {x2 : Int} {x3 : Int} (hkA : fK (oc oA) kA = 1) (hNA : ((aL (oc oA) kA : Nat) : Int) = NA) (hzA : 0 ≤ NA ∧ NA ≤ 2147483647) (T : OkV G n mJ7_rangeCheck_23922 [vI NA, vI x1, vI x2] M (fun M1 => CW G K mJ7_fill_fda19 (n + 1) 10 [some (vA oA kA), none, some (vI x2), some (vI x3), some (vI x1)] [] M1 (qV Q))) : CW G K mJ7_fill_fda19 (n + 1) 0 [some (vA oA kA), some (vI x1), some (vI x2), some (vI x3), none] [] M (qV Q) := by
  refine r_aload_n dJ7_fill_fda19_0 rfl ?_
  refine s_alen dJ7_fill_fda19_1 rfl (show isA (fK (oc oA) kA) = true by rw [hkA]; rfl) hNA hzA ?_
  refine r_iload_n dJ7_fill_fda19_2 rfl ?_
  refine r_iload_n dJ7_fill_fda19_3 rfl ?_
  refine r_callSV (md' := mJ7_rangeCheck_23922) (as := [vI NA, vI x1, vI x2]) dJ7_fill_fda19_4 lJ7_13 iJ7_rangeCheck_23922 rfl rfl (Nat.le_of_ble_eq_true rfl) T (fun M1 T => ?_)
  refine r_iload_n dJ7_fill_fda19_7 rfl ?_
  refine r_istore dJ7_fill_fda19_8 (by decide) rfl ?_
  exact CW_msk [true, false, true, true, true] rfl T
set_option maxRecDepth 20000 in
set_option maxHeartbeats 1000000 in
theorem bJ7_fill_fda19_10 {G : Gx} {K : Kx} {n : Nat} {M : Mem} {Q : Mem → Prop} {oA : Nat} {kA : Nat} {NA : Int} {x2 : Int} {x3 : Int} {x4 : Int} (hkA : fK (oc oA) kA = 1) (hNA : ((aL (oc oA) kA : Nat) : Int) = NA) (hzA : 0 ≤ NA ∧ NA ≤ 2147483647) (T : (x2 ≤ x4 → Q M) ∧ (¬ (x2 ≤ x4) → (0 ≤ x4 ∧ x4 < NA) ∧ (∀ M1 : Mem, M1 = mset M oA kA x4.toNat x3 → CW G K mJ7_fill_fda19 (n + 1) 10 [some (vA oA kA), none, some (vI x2), some (vI x3), some (vI (wr (x4 + 1)))] [] M1 (qV Q)))) : CW G K mJ7_fill_fda19 (n + 1) 10 [some (vA oA kA), none, some (vI x2), some (vI x3), some (vI x4)] [] M (qV Q) := by
  refine r_iload dJ7_fill_fda19_10 rfl ?_
  refine r_iload_n dJ7_fill_fda19_12 rfl ?_
  refine r_icmp_ge (tgt := 27) dJ7_fill_fda19_13 (by decide) (fun h_1 => ?_) (fun h_1 => ?_)
  · have T := T.1 h_1
    exact r_return dJ7_fill_fda19_27 rfl ⟨rfl, T⟩
  · have T := T.2 h_1
    refine r_aload_n dJ7_fill_fda19_16 rfl ?_
    refine r_iload dJ7_fill_fda19_17 rfl ?_
    refine r_iload_n dJ7_fill_fda19_19 rfl ?_
    refine n_iast dJ7_fill_fda19_20 rfl hkA hNA T.1 (fun M1 hM1 => ?_)
    have T := T.2 M1 hM1
    refine r_iinc dJ7_fill_fda19_21 rfl (by decide) rfl ?_
    refine r_goto (tgt := 10) dJ7_fill_fda19_24 (by decide) ?_
    exact T
theorem eJ7_fill_fda19 {G : Gx} {n : Nat} {M : Mem} {Q : Mem → Prop} {kA : Nat} {oA : Nat} {x1 : Int} {x2 : Int} {x3 : Int} (h : ∀ K : Kx, CW G K mJ7_fill_fda19 n 0 [some (vA oA kA), some (vI x1), some (vI x2), some (vI x3), none] [] M (qV Q)) : OkV G n mJ7_fill_fda19 [vA oA kA, vI x1, vI x2, vI x3] M Q := Ok_of (by decide) (Nat.le_of_ble_eq_true rfl) rfl h
