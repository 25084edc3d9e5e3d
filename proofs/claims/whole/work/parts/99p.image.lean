/-! ===== the class's image: a State is made once ===== -/
section IMG
variable {G : Gx} {M : Mem} {n : Nat} {s : Int → Int}
def ImN (G : Gx) (M : Mem) (k : Nat) (G1 : Gx) (M1 : Mem) : Prop := Gr G G1 ∧ ((M1 = M ∧ G1 = G ∧ M 1 5 k ≠ 0) ∨ (M 1 5 k = 0 ∧ gL G1 = gL G ++ [27 + 4 * k, 28 + 4 * k, 29 + 4 * k, 30 + 4 * k] ∧ M1 = mset (MN M [27 + 4 * k, 28 + 4 * k, 29 + 4 * k, 30 + 4 * k]) 1 5 k 1))
theorem ImN_eq {G1 : Gx} {M1 : Mem} {k : Nat} (h : ImN G M k G1 M1) {o : Nat} (h1 : o ≠ 1) (h2 : o < 27) : M1 o = M o := by
  rcases h.2 with ⟨rfl, -⟩ | ⟨-, -, rfl⟩
  · rfl
  · funext j i
    rw [mset_ne (by omega), MN_out (by simp; omega)]
theorem ms_im {k : Nat} (hk : k < 4) (a : Nat) (ws : va_W) (h : SX8 G a ws) : ∃ (π : Nat × Nat → Nat) (is : List Nat), (∀ c, c ∉ LC [27 + 4 * k, 28 + 4 * k, 29 + 4 * k, 30 + 4 * k] → π c = gp G c) ∧ π (27 + 4 * k, 99) = a ∧ va_nd is = true ∧ is.map (fun i => ws[i]?) = ((LC [27 + 4 * k, 28 + 4 * k, 29 + 4 * k, 30 + 4 * k]).map (fun c => ((π c, ce (gx G π (gL G ++ [27 + 4 * k, 28 + 4 * k, 29 + 4 * k, 30 + 4 * k])) (MN M [27 + 4 * k, 28 + 4 * k, 29 + 4 * k, 30 + 4 * k]) c) : Nat × va_E))).map some := by
  rcases (show k = 0 ∨ k = 1 ∨ k = 2 ∨ k = 3 by omega) with rfl | rfl | rfl | rfl
  · exact ms_27 a ws h
  · exact ms_31 a ws h
  · exact ms_35 a ws h
  · exact ms_39 a ws h
theorem c11_image {x : Int} {Q : Gx → Int → Mem → Prop} (hE : NoR G M) (h1 : 1 ∈ gL G) (h27 : ∀ k, k < 4 → M 1 5 k = 0 → ∀ o ∈ [27 + 4 * k, 28 + 4 * k, 29 + 4 * k, 30 + 4 * k], o ∉ gL G) (S : SAll (M 4) (M 5) (M 6) s)
    (no : ¬ (0 ≤ x ∧ x ≤ 3) → Q G (-1) M)
    (yes : ∀ k : Nat, x = (k : Int) → k < 4 → ∀ (G1 : Gx) (M1 M' : Mem), ImN G M k G1 M1 → (∀ a, a ≠ 28 + 4 * k → a ≠ 29 + 4 * k → a ≠ 30 + 4 * k → M' a = M1 a) → SAll (M' (28 + 4 * k)) (M' (29 + 4 * k)) (M' (30 + 4 * k)) s → Q G1 (M' 5 0 0) M') :
    OkN G (n + 4) mX11_image [vO 1, vI x] M 27 368 Q := by
  refine OkN_of (md := mX11_image) (by decide) (Nat.le_of_ble_eq_true rfl) rfl (fun Kx sz hsz => ?_)
  have hA : AZ G Kx (Az G sz) := Az_AZ hsz
  have from37 : ∀ (k : Nat) (G1 : Gx) (M1 : Mem) (cs sl : Nat), x = (k : Int) → k < 4 → ImN G M k G1 M1 → AZ G1 Kx (Az G sz) → cs ≤ 27 → sl ≤ 368 → CX G1 Kx mX11_image ({ frames := n + 4, cells := 27, slots := 368, locals := 120 * (n + 4) }, Az G sz, cs, sl) 37 [some (vO 1), some (vI x), some (vO (27 + 4 * k))] [] M1 (MQ (kb Kx) (QmN G sz Q) (ka Kx) (ks Kx) 27 368 (Az G sz)) := by
    intro k G1 M1 cs sl hx hk hN hA1 hcs hsl
    obtain ⟨o8, o1, o0, o3⟩ := oc_img hk
    have e28 : 27 + 4 * k + 1 = 28 + 4 * k := by omega
    have e29 : 27 + 4 * k + 2 = 29 + 4 * k := by omega
    have e30 : 27 + 4 * k + 3 = 30 + 4 * k := by omega
    refine xr_aload_n (x := some (27 + 4 * k, 99)) dX11_image_37 rfl ?_
    refine xr_aload_n (x := some (1, 99)) dX11_image_38 rfl ?_
    refine xr_getO (o' := 3) dX11_image_39 fX11_32 rfl tX11_4 rfl ?_
    refine xr_callV (n := n + 3) (md' := mX8_copyFrom) (o := 27 + 4 * k) (as := [vO 3]) hA1.1 hA1.2.2 ⟨by show n + 3 + 1 ≤ n + 4; omega, by show 119 + 120 * (n + 3) ≤ 120 * (n + 4); omega, hcs, hsl⟩ dX11_image_42 lX11_374 iX8_copyFrom o8 rfl rfl (Nat.le_of_ble_eq_true rfl) (c8_copyFrom (d := 27 + 4 * k) (e := 3) (s := s) (Q := fun M' => (∀ a, a ≠ 28 + 4 * k → a ≠ 29 + 4 * k → a ≠ 30 + 4 * k → M' a = M1 a) ∧ SAll (M' (28 + 4 * k)) (M' (29 + 4 * k)) (M' (30 + 4 * k)) s) o8 rfl (by rw [e28]; exact o1) (by rw [e29]; exact o0) (by rw [e30]; exact o3) rfl rfl rfl (by omega) (by rw [ImN_eq hN (by decide) (by decide), ImN_eq hN (by decide) (by decide), ImN_eq hN (by decide) (by decide)]; exact S) (fun M' m1 m2 => by rw [e28, e29, e30] at m1 m2; exact ⟨m1, m2⟩)) (fun r_1 M' T => ?_)
    obtain ⟨rfl, m1, m2⟩ := T
    refine xr_aload_n (x := some (1, 99)) dX11_image_45 rfl ?_
    refine xr_getO (o' := 3) dX11_image_46 fX11_32 rfl tX11_4 rfl ?_
    refine xr_getO (o' := 5) dX11_image_49 fX11_130 rfl tX8_1 rfl ?_
    refine xr_getI dX11_image_52 fX11_179 rfl tX0_0 ?_
    exact xr_retN dX11_image_55 rfl hN.1 hA1 hcs hsl (yes k hx hk G1 M1 M' hN m1 m2)
  have bad : ¬ (0 ≤ x ∧ x ≤ 3) → CX G Kx mX11_image ({ frames := n + 4, cells := 27, slots := 368, locals := 120 * (n + 4) }, Az G sz, 0, 0) 9 [some (vO 1), some (vI x), none] [] M (MQ (kb Kx) (QmN G sz Q) (ka Kx) (ks Kx) 27 368 (Az G sz)) := fun z => by
    refine xr_iconst dX11_image_9 (by decide) ?_
    exact xr_retN dX11_image_10 rfl Gr.rf hA (by omega) (by omega) (no z)
  refine xr_iload_n (x := x) dX11_image_0 rfl ?_
  refine xr_if_lt (tgt := 9) dX11_image_1 (by decide) (fun h => bad (by omega)) (fun h => ?_)
  refine xr_iload_n (x := x) dX11_image_4 rfl ?_
  refine xr_iconst dX11_image_5 (by decide) ?_
  refine xr_icmp_lt (tgt := 11) dX11_image_6 (by decide) (fun h' => ?_) (fun h' => bad (by omega))
  obtain ⟨k, hx⟩ : ∃ k : Nat, x = (k : Int) := ⟨x.toNat, by omega⟩
  have hk : k < 4 := by omega
  refine xr_aload_n (x := some (1, 99)) dX11_image_11 rfl ?_
  refine xr_getA dX11_image_12 fX11_36 rfl rfl ?_
  refine xr_iload_n (x := x) dX11_image_15 rfl ?_
  refine xs_aald (N := 4) dX11_image_16 rfl (Or.inr tX11_5) rfl ⟨by omega, by omega⟩ ?_
  have hxk : x.toNat = k := by omega
  rw [hxk]
  by_cases h0 : M 1 5 k = 0
  · rw [if_pos h0]
    refine xr_astore_n dX11_image_17 (by decide) rfl ?_
    refine xr_aload_n (x := none) dX11_image_18 rfl ?_
    refine xr_ifnonnull (tgt := 37) dX11_image_19 (by decide) (fun c e => by cases e) (fun _ => ?_)
    have n27 := h27 k hk h0
    have b27 : ∀ o ∈ [27 + 4 * k, 28 + 4 * k, 29 + 4 * k, 30 + 4 * k], o < 1000 := fun o ho => by simp at ho; omega
    refine xw_new0 (L1 := [27 + 4 * k, 28 + 4 * k, 29 + 4 * k, 30 + 4 * k]) (o1 := 27 + 4 * k) (mc := 26) (ms := 365) hA hE dX11_image_22 dX11_image_25 dX11_image_26 hX11_29_31 (fun q z => nX8 (G := G) (a := q) (sz := z)) ⟨rfl, rfl, by show 2 + 1 ≤ n + 4; omega, by show 24 + 300 ≤ 120 * (n + 4); omega⟩ (Nat.le_of_ble_eq_true rfl) (by show 0 + 1 + 26 ≤ 27; omega) (by show 0 + 3 + 365 ≤ 368; omega) n27 b27 List.mem_cons_self (fun o ho j h7 => ?_) (fun q ws' h => ms_im hk q ws' h) (fun π hoff hA1 => ?_)
    · have all : ∀ k, k < 4 → ∀ o ∈ [27 + 4 * k, 28 + 4 * k, 29 + 4 * k, 30 + 4 * k], ∀ j, j < 48 → fK (oc o) j = 7 → lk o j ∈ [27 + 4 * k, 28 + 4 * k, 29 + 4 * k, 30 + 4 * k] := by decide +kernel
      exact List.mem_append_right _ (all k hk o ho j (fK_7 h7) h7)
    · obtain ⟨o8, o1, o0, o3⟩ := oc_img hk
      refine xr_astore_n dX11_image_29 (by decide) rfl ?_
      refine xr_aload_n (x := some (1, 99)) dX11_image_30 rfl ?_
      refine xr_getA dX11_image_31 fX11_36 rfl rfl ?_
      refine xr_iload_n (x := x) dX11_image_34 rfl ?_
      refine xr_aload_n (x := some (27 + 4 * k, 99)) dX11_image_35 rfl ?_
      refine xr_aast (t0 := 5) (ci := 8) (r := (RX8, TX8, 3)) hA1.1 dX11_image_36 (Or.inr tX11_5) ⟨by omega, by show x < ((4 : Nat) : Int); omega⟩ (by rw [hxk]; rfl) o8 rfl rfl ?_
      rw [hxk]
      exact from37 k _ _ _ _ hx hk ⟨Gr.mk hoff n27 b27, Or.inr ⟨h0, rfl, rfl⟩⟩ hA1 (by omega) (by show 0 + 3 + 365 ≤ 368; omega)
  · rw [if_neg h0]
    refine xr_astore_n dX11_image_17 (by decide) rfl ?_
    refine xr_aload_n (x := some (27 + 4 * k, 99)) dX11_image_18 rfl ?_
    refine xr_ifnonnull (tgt := 37) dX11_image_19 (by decide) (fun c e => ?_) (fun e => by cases e)
    exact from37 k G M 0 0 hx hk ⟨Gr.rf, Or.inl ⟨rfl, rfl, h0⟩⟩ hA (by omega) (by omega)
end IMG
