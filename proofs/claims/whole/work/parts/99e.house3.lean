section HM3
variable {G : Gx} {K : Kx} {Z : Zx} {n : Nat} {M : Mem} {F : State → Prop}
theorem h_rest (hZ : ∀ q, gA G q → Z.2.1 q) (hZ' : ∀ q, q < (ks K).heap.size → Z.2.1 q → gA G q) (hR : RmZ n Z)
    (T : OkI G n mX2_readAll [vO 14] M (fun r M1 => ∀ M2 : Mem, M2 = mset M1 2 1 0 0 → (¬ r = 0 → OkV G n mX8_moveInto [vO 3, vO 7] M2 (fun M3 => CX G K mX11_house Z 65 [some (vO 1), some (vO 14), some (vI r)] [vI (M3 4 0 0)] M3 F)) ∧ (r = 0 → CX G K mX11_house Z 43 [some (vO 1), some (vO 14), some (vI r)] [vI (wr ((-2) - M2 2 7 0))] M2 F))) : CX G K mX11_house Z 15 [some (vO 1), none, none] [vO 14] M F := by
  refine xr_astore_n dX11_house_15 (by decide) rfl ?_
  refine xr_aload_n (x := some (14, 99)) dX11_house_16 rfl ?_
  refine xr_callV (md' := mX2_readAll) (as := []) hZ hZ' hR dX11_house_17 lX11_96 iX2_readAll rfl rfl rfl (Nat.le_of_ble_eq_true rfl) T (fun r_1 M1 T => ?_)
  obtain ⟨r, rfl, T⟩ := T
  refine xr_istore_n dX11_house_20 (by decide) rfl ?_
  refine xr_aload_n (x := some (1, 99)) dX11_house_21 rfl ?_
  refine xr_getO (o' := 2) dX11_house_22 fX11_10 rfl tX11_0 rfl ?_
  refine xr_iconst dX11_house_25 (by decide) ?_
  refine xr_put hZ dX11_house_26 pX11_83 rfl tX9_1 ?_
  have T := T _ rfl
  generalize mset M1 2 1 0 0 = M2 at T ⊢
  refine xr_iload_n (x := r) dX11_house_29 rfl ?_
  refine xr_if_ne (tgt := 44) dX11_house_30 (by decide) (fun h => ?_) (fun h => ?_)
  · refine xr_aload_n (x := some (1, 99)) dX11_house_44 rfl ?_
    refine xr_getO (o' := 3) dX11_house_45 fX11_32 rfl tX11_4 rfl ?_
    refine xr_aload_n (x := some (1, 99)) dX11_house_48 rfl ?_
    refine xr_getO (o' := 7) dX11_house_49 fX11_19 rfl tX11_1 rfl ?_
    refine xr_callV (md' := mX8_moveInto) (as := [vO 7]) hZ hZ' hR dX11_house_52 lX11_103 iX8_moveInto rfl rfl rfl (Nat.le_of_ble_eq_true rfl) (T.1 h) (fun r_1 M3 T => ?_)
    obtain ⟨rfl, T⟩ := T
    refine xr_aload_n (x := some (1, 99)) dX11_house_55 rfl ?_
    refine xr_getO (o' := 3) dX11_house_56 fX11_32 rfl tX11_4 rfl ?_
    refine xr_getO (o' := 4) dX11_house_59 fX11_107 rfl tX8_0 rfl ?_
    refine xr_getI dX11_house_62 fX11_110 rfl tX1_0 ?_
    exact T
  · refine xr_bipush dX11_house_33 (by decide) (by decide) ?_
    refine xr_aload_n (x := some (1, 99)) dX11_house_35 rfl ?_
    refine xr_getO (o' := 2) dX11_house_36 fX11_10 rfl tX11_0 rfl ?_
    refine xr_getI dX11_house_39 fX11_100 rfl tX9_7 ?_
    refine xr_isub dX11_house_42 ?_
    exact T.2 h
end HM3
