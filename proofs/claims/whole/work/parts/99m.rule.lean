/-! ===== the class's rule: a Rule and its reader are made ===== -/
section RUL
variable {G G1 : Gx} {K : Kx} {R : Room} {A : Nat → Prop} {Z : Zx} {n cs sl mc ms sz pc : Nat} {lo : List (Option V)} {M : Mem} {F : State → Prop} {x : Int}
theorem fK_7 {c k : Nat} (h : fK c k = 7) : k < 48 := by
  by_cases hc : c < 13
  · have all : ∀ c, c < 13 → (fKL.getD c []).length ≤ 48 := by decide +kernel
    have := all c hc
    by_cases hk : k < 48
    · exact hk
    · unfold fK at h
      rw [List.getD_eq_getElem?_getD (l := fKL.getD c []), List.getElem?_eq_none (by omega)] at h
      exact absurd h (by decide)
  · unfold fK at h
    rw [List.getD_eq_getElem?_getD (l := fKL), List.getElem?_eq_none (by show 13 ≤ c; omega)] at h
    exact absurd h (by show ¬ ([] : List Nat).getD k 0 = 7; simp)
/-- what a constructor of a reader leaves -/
theorem ms_rd {k : Nat} (hk : k ≤ 5) (a : Nat) (ws : va_W) (h : SX7 G a (gp G (2, 99)) (gp G (15 + k, 99)) ws) : ∃ (π : Nat × Nat → Nat) (is : List Nat), (∀ c, c ∉ LC [21 + k] → π c = gp G c) ∧ π (21 + k, 99) = a ∧ va_nd is = true ∧ is.map (fun i => ws[i]?) = ((LC [21 + k]).map (fun c => ((π c, ce (gx G π (gL G ++ [21 + k])) (MN M [21 + k]) c) : Nat × va_E))).map some := by
  have h : ws = [(a, .inr (7, [.ref (gp G (2, 99)), .ref (gp G (15 + k, 99)), .int 0, .int 0]))] := h
  subst h
  have hL : LC [21 + k] = [(21 + k, 99)] := by
    rcases (show k = 0 ∨ k = 1 ∨ k = 2 ∨ k = 3 ∨ k = 4 ∨ k = 5 by omega) with rfl | rfl | rfl | rfl | rfl | rfl <;> rfl
  refine ⟨fun c => if c = (21 + k, 99) then a else gp G c, [0], fun c hc => ?_, if_pos rfl, by decide, ?_⟩
  · rw [hL] at hc
    exact if_neg (fun e => hc (by rw [e]; exact List.mem_cons_self))
  · generalize hπ : (fun c : Nat × Nat => if c = (21 + k, 99) then a else gp G c) = π
    have e0 : π (21 + k, 99) = a := by rw [← hπ]; exact if_pos rfl
    have e1 : π (2, 99) = gp G (2, 99) := by
      rw [← hπ]
      exact if_neg (fun e => by have := congrArg Prod.fst e; have h : (2 : Nat) = 21 + k := this; omega)
    have e2 : π (15 + k, 99) = gp G (15 + k, 99) := by
      rw [← hπ]
      exact if_neg (fun e => by have := congrArg Prod.fst e; have h : 15 + k = 21 + k := this; omega)
    have z : MN M [21 + k] (21 + k) 2 0 = 0 := MN_in List.mem_cons_self
    have z3 : MN M [21 + k] (21 + k) 3 0 = 0 := MN_in List.mem_cons_self
    have key : (LC [21 + k]).map (fun c => ((π c, ce (gx G π (gL G ++ [21 + k])) (MN M [21 + k]) c) : Nat × va_E)) = [(π (21 + k, 99), .inr (7, [.ref (π (2, 99)), .ref (π (15 + k, 99)), .int (Int32.ofInt (MN M [21 + k] (21 + k) 2 0)), .int (Int32.ofInt (MN M [21 + k] (21 + k) 3 0))]))] := by
      rcases (show k = 0 ∨ k = 1 ∨ k = 2 ∨ k = 3 ∨ k = 4 ∨ k = 5 by omega) with rfl | rfl | rfl | rfl | rfl | rfl
      · exact sh_21
      · exact sh_22
      · exact sh_23
      · exact sh_24
      · exact sh_25
      · exact sh_26
    rw [key, z, z3, e0, e1, e2]
    rfl
theorem r_window {k : Nat} (hk : k ≤ 5) (hk3 : M 1 3 0 = (k : Int)) (hk2 : M 1 2 k ≠ 0) (hA : AZ G K A) (hE : NoR G M) (h1 : 1 ∈ gL G) (h2 : 2 ∈ gL G) (h15 : 15 + k ∈ gL G) (h21 : 21 + k ∉ gL G) (hR : 2 ≤ R.frames ∧ 150 ≤ R.locals ∧ cs + 1 ≤ R.cells ∧ sl + 4 ≤ R.slots)
    (kk : ∀ π : Nat × Nat → Nat, (∀ c, c ∉ LC [21 + k] → π c = gp G c) → AZ (gx G π (gL G ++ [21 + k])) K A → CX (gx G π (gL G ++ [21 + k])) K mX11_rule (R, A, cs + 1, sl + 4) 66 [some (vO 1), none, none] [vO (21 + k)] (MN M [21 + k]) F) : CX G K mX11_rule (R, A, cs, sl) 46 [some (vO 1), none, none] [] M F := by
  intro C hM hs hl H locs ls hP hS hL
  have hts := C.2.2.2.2.1
  have hKU := C.2.2.2.2.2.2.2.1
  have hG := C.2.2.2.2.2.2.2.2
  refine va_new (ci := 7) (fs := [.null, .null, .int 0, .int 0]) (C := RX7) (T := TX7) (N := 4) C.1 C.2.1 hts gX7 tyX7 tyX7_ok C.2.2.2.1 (hts _ wR_cl) (hts _ wR_in) (hts _ wR_ini) hKU.1 hP (ws_DZ hA.1 hG) hS hA.2.1 rfl (fun j hj => by rcases (show j = 0 ∨ j = 1 ∨ j = 2 ∨ j = 3 by omega) with rfl|rfl|rfl|rfl <;> rfl) hR.2.2.1 hR.2.2.2 dX11_rule_46 (fun q H1 hP1 hD1 hS1 => ?_)
  have hlast : (wsOf G M ++ [((q, .inr (7, [.null, .null, .int 0, .int 0])) : Nat × va_E)])[(wsOf G M).length]? = some (q, .inr (7, [.null, .null, .int 0, .int 0])) := by rw [List.getElem?_append_right (Nat.le_refl _), Nat.sub_self]; rfl
  obtain ⟨q1, hq1, hw1⟩ := ws_mem (M := M) (lc_obj h1)
  have hw1' : (wsOf G M ++ [((q, .inr (7, [.null, .null, .int 0, .int 0])) : Nat × va_E)])[q1]? = some (gp G (1, 99), .inr (11, fl (gp G) M 1)) := by
    rw [List.getElem?_append_left (List.getElem?_eq_some_iff.mp hw1).1, hw1, ce_obj]; rfl
  have hv12 : okV G (vA 1 2) := Or.inl (lc_arr h1 (by decide) rfl)
  obtain ⟨q2, hq2, hw2⟩ := w_arr (M := M) hv12 rfl
  rw [av_ref (by decide)] at hw2
  have hw2' : (wsOf G M ++ [((q, .inr (7, [.null, .null, .int 0, .int 0])) : Nat × va_E)])[q2]? = some (gp G (1, 2), .inl (gy G 5, 6, .inr (.inr (.inr (.inr (fun i => if M 1 2 i = 0 then none else some (gp G (el 2 i, 99)))))))) := by
    rw [List.getElem?_append_left (List.getElem?_eq_some_iff.mp hw2).1, hw2]; rfl
  have hi : inI (M 1 3 0) := by rw [hk3]; constructor <;> omega
  refine lv_dup C.1 C.2.1 dX11_rule_49 rfl ?_
  refine lv_aload_n C.1 C.2.1 dX11_rule_50 rfl (hL.2.2 0 (vO 1) rfl) ?_
  refine g_get (v := vO 2) C dX11_rule_51 fX11_10 rfl hw1' hP1 rfl ?_
  refine lv_aload_n C.1 C.2.1 dX11_rule_54 rfl (hL.2.2 0 (vO 1) rfl) ?_
  refine g_get (v := vA 1 2) C dX11_rule_55 fX11_25 rfl hw1' hP1 rfl ?_
  refine lv_aload_n C.1 C.2.1 dX11_rule_58 rfl (hL.2.2 0 (vO 1) rfl) ?_
  refine g_get (v := vI (M 1 3 0)) C dX11_rule_59 fX11_113 rfl hw1' hP1 rfl ?_
  refine va_aldq C.1 C.2.1 hKU.1 hP1 q2 4 hw2' rfl ((i32_vp hi).mpr (by rw [hk3]; omega)) dX11_rule_62 ?_
  have ev : va_rf ((fun i => if M 1 2 i = 0 then none else some (gp G (el 2 i, 99))) (Int32.ofInt (M 1 3 0)).toNatClampNeg) = .ref (gp G (15 + k, 99)) := by
    rw [i32_nat hi, hk3, Int.toNat_natCast]
    dsimp only
    rw [if_neg hk2]
    rfl
  rw [ev]
  have hcw : CallB R (ks K) (ka K) RX11 119 yX7_init cX7_init 3 none (.code yX7_init cX7_init 3 none :: gw) { frames := 1, cells := 0, slots := 0, locals := 120 } 0 0 2 := callB_of 2 hts (gw_good wR_co) rfl rfl rfl (hts _ wR_ini) (hts _ wR_ml) ⟨by decide, by decide, by decide +kernel⟩ ⟨hR.1, by have := hR.2.1; show 8 + (3 + 11) + 120 ≤ _; omega⟩
  have hpre : PreS (ks K) H1 (Pn G q 7 H1.size [.null, .null, .int 0, .int 0] [.ref (gp G (2, 99)), .ref (gp G (15 + k, 99))]) [.ref q, .ref (gp G (2, 99)), .ref (gp G (15 + k, 99))] := ⟨Pn_blind, fun U hU hW => ⟨rfl, by rw [hU], by
    rw [hU]
    intro k x hk
    have h1 := (List.getElem?_eq_some_iff.mp hk).1
    simp at h1
    subst h1
    cases hk
    exact hP1 _ _ hlast, va_K.moved hW.alike hKU.1, Nw_warm hW hKU.2.1⟩⟩
  have hrun := va_runI (e := ke K) (below := kb K) (meth := kt K) (locs := locs) (cells := cs + 1) (slots := sl + 4) (As := [.ref (gp G (2, 99)), .ref (gp G (15 + k, 99))]) (rest := [.ref q]) (g := F0 (km K) 63 ls [.ref (gp G (15 + k, 99)), .ref (gp G (2, 99)), .ref q, .ref q]) ⟨C.1, C.2.1, C.2.2.1, C.2.2.2.1, hts⟩ (nX7 (G := G) (a := q) (sz := H1.size) (x1 := gp G (2, 99)) (x2 := gp G (15 + k, 99))) ⟨hcw, rfl, hts _ wR_im⟩ hpre rfl rfl hL.1 rfl (lv_room (Nat.le_of_ble_eq_true rfl)) dX11_rule_63 ⟨hR.2.2.1, hR.2.2.2⟩
  refine grow_core (st := []) (L1 := [21 + k]) (o1 := 21 + k) hrun C hM (fun v hv => by cases hv) hl hL hA hE hP1 hD1 hS1 (fun o ho => by rw [List.mem_singleton.mp ho]; exact h21) (fun o ho => by rw [List.mem_singleton.mp ho]; omega) List.mem_cons_self (fun o ho j h7 => ?_) (fun ws' h => ms_rd hk q ws' h) kk
  rw [List.mem_singleton.mp ho] at h7 ⊢
  have hj := fK_7 h7
  have all : ∀ k, k < 6 → ∀ j, j < 48 → fK (oc (21 + k)) j = 7 → lk (21 + k) j = 2 ∨ lk (21 + k) j = 15 + k := by decide +kernel
  rcases all k (by omega) j hj h7 with e | e
  · rw [e]; exact List.mem_append_left _ h2
  · rw [e]; exact List.mem_append_left _ h15
end RUL
