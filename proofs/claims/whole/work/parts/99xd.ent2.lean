/-! ===== new, dup, <init> of a class that the law makes ===== -/
section WNP
variable {G : Gx} {K : Kx} {md md' : MD} {R R' : Room} {A : Nat → Prop} {cs sl mc ms pc : Nat} {lo : List (Option V)} {st : List V} {M : Mem} {F : State → Prop} {fs' : List Value}
theorem xw_newP {i0 i1 ci' o1 : Nat} {Cn : String} {T : u_T} {tf : Nat → FieldType} {Pc : Nat → Nat → Array Value → State → Prop} {S' : Nat → va_W → Prop} {L1 : List Nat} (hA : AZ G K A) (hE : NoR G M) (d0 : decode md.2.1 pc = .ok (.new i0, 3)) (d1 : decode md.2.1 (pc + 3) = .ok (.dup, 1)) (d2 : decode md.2.1 (pc + 4) = .ok (.invokespecial i1, 3))
    (f1 : vwCl[ci']? = some (Cn, T, fs'.length)) (f2 : ∀ w ∈ u_ws Cn T fs'.length, w ∈ gw) (f3 : ∀ j, j < fs'.length → parseFieldDescriptor (T j).2.2.1 = some (tf j)) (f4 : Cond.classLink md.1.cls i0 Cn ∈ gw) (f5 : Cond.instantiable Cn fs'.length ∈ gw) (f6 : Cond.initialized Cn ∈ gw) (f7 : ∀ j, j < fs'.length → defaultValue (tf j) = vp_V fs' j) (f8 : Cond.methodLink md.1.cls i1 md'.1 ∈ gw) (f9 : Cond.instanceMethod md'.1 ∈ gw) (f10 : Cond.initialized md'.1.cls ∈ gw) (f11 : Cond.code md'.1 md'.2.1 md'.2.2.1 md'.2.2.2 ∈ gw) (f12 : md'.1.cls ≠ "java/lang/invoke/MethodHandle" ∧ md'.1.cls ≠ "java/lang/invoke/VarHandle") (f13 : (parseMethodDescriptor md'.1.desc).map (fun d => d.parameters.length) = some 0) (f14 : md'.1.name = "<init>") (f15 : md'.2.2.2 = none) (f16 : md'.2.2.1 ≤ 5)
    (hMet : ∀ q sz, Met (gl G) md'.1 (.code md'.1 md'.2.1 md'.2.2.1 md'.2.2.2 :: gw) R' (Pc q sz) (Qn G q sz (S' q)) mc ms (Aa q sz)) (hpre : ∀ (q : Nat) (H1 : Heap), va_P (gD G) vwCl [((q, .inr (ci', fs')) : Nat × va_E)] H1 → KU G (ks K) → PreS (ks K) H1 (Pc q H1.size) [.ref q])
    (hR : R'.cells = mc ∧ R'.slots = ms ∧ R'.frames + 1 ≤ R.frames ∧ 24 + R'.locals ≤ R.locals) (hw : (st.map vcat).sum ≤ 7) (hc : cs + 1 + mc ≤ R.cells) (hsl : sl + fs'.length + ms ≤ R.slots)
    (hn : ∀ o ∈ L1, o ∉ gL G) (hb : ∀ o ∈ L1, o < 1000) (ho : o1 ∈ L1) (h7 : ∀ o ∈ L1, ∀ k, fK (oc o) k = 7 → lk o k ∈ gL G ++ L1)
    (hs : ∀ q ws', S' q ws' → ∃ (π : Nat × Nat → Nat) (is : List Nat), (∀ c, c ∉ LC L1 → π c = gp G c) ∧ π (o1, 99) = q ∧ va_nd is = true ∧ is.map (fun i => ws'[i]?) = ((LC L1).map (fun c => ((π c, ce (gx G π (gL G ++ L1)) (MN M L1) c) : Nat × va_E))).map some)
    (kk : ∀ π : Nat × Nat → Nat, (∀ c, c ∉ LC L1 → π c = gp G c) → AZ (gx G π (gL G ++ L1)) K A → CX (gx G π (gL G ++ L1)) K md (R, A, cs + 1 + mc, sl + fs'.length + ms) (pc + 7) lo (vO o1 :: st) (MN M L1) F) : CX G K md (R, A, cs, sl) pc lo st M F := by
  intro C hM hst hl H locs ls hP hS hL
  have hts := C.2.2.2.2.1
  have hKU := C.2.2.2.2.2.2.2.1
  have hG := C.2.2.2.2.2.2.2.2
  refine va_new (ci := ci') (fs := fs') C.1 C.2.1 hts f2 tf f3 C.2.2.2.1 (hts _ f4) (hts _ f5) (hts _ f6) hKU.1 hP (ws_DZ hA.1 hG) hS hA.2.1 f1 f7 (by show cs + 1 ≤ R.cells; omega) (by show sl + fs'.length ≤ R.slots; omega) d0 (fun q H1 hP1 hD1 hS1 => ?_)
  refine lv_dup C.1 C.2.1 d1 rfl ?_
  have hcw : CallB R (ks K) (ka K) md.1.cls i1 md'.1 md'.2.1 md'.2.2.1 none (.code md'.1 md'.2.1 md'.2.2.1 md'.2.2.2 :: gw) R' mc ms 0 :=
    f15 ▸ callB_of 0 hts (gw_good f11) rfl hR.1 hR.2.1 (hts _ f10) (hts _ f8) ⟨f12.1, f12.2, f13⟩ ⟨hR.2.2.1, by omega⟩
  have hpr := hpre q H1 (fun k x hk => by
    have h1 := (List.getElem?_eq_some_iff.mp hk).1
    simp at h1
    subst h1
    cases hk
    exact hP1 (wsOf G M).length (q, .inr (ci', fs')) (by rw [List.getElem?_append_right (Nat.le_refl _), Nat.sub_self]; rfl)) hKU
  have hrun := va_runI (e := ke K) (below := kb K) (meth := kt K) (locs := locs) (cells := cs + 1) (slots := sl + fs'.length) (As := []) (rest := .ref q :: st.map (cv (gp G))) (g := F0 (km K) (pc + 4) ls (.ref q :: .ref q :: st.map (cv (gp G)))) ⟨C.1, C.2.1, C.2.2.1, C.2.2.2.1, hts⟩ (hMet q H1.size) ⟨hcw, f14, hts _ f9⟩ hpr rfl rfl hL.1 rfl (lv_room (by rw [List.map_cons, List.sum_cons, sum_cat]; have e2 : (Value.ref q).category = 1 := rfl; omega)) d2 ⟨hc, hsl⟩
  exact grow_core hrun C hM hst hl hL hA hE hP1 hD1 hS1 hn hb ho h7 (hs q) kk
theorem pre_11 {q : Nat} {H1 : Heap} (hO : va_AO RX6 (ks K) ∧ va_AO RX8 (ks K)) (hP : va_P (gD G) vwCl [((q, .inr (11, eF_11)) : Nat × va_E)] H1) (hKU : KU G (ks K)) : PreS (ks K) H1 (Pne G q 11 H1.size eF_11 [] (fun U => va_AO RX6 U ∧ va_AO RX8 U)) [.ref q] :=
  ⟨fun _ U _ _ z => ⟨z.1, z.2.1, z.2.2.1, va_K.moved (u := U) (Vm.Alike.refl U.vm) z.2.2.2.1, Nw_call z.2.2.2.2.1, va_AO.moved (u := U) (Vm.Alike.refl U.vm) z.2.2.2.2.2.1, va_AO.moved (u := U) (Vm.Alike.refl U.vm) z.2.2.2.2.2.2⟩, fun U hU hW => ⟨rfl, by rw [hU], by rw [hU]; exact hP, va_K.moved hW.alike hKU.1, Nw_warm hW hKU.2.1, va_AO.moved hW.alike hO.1, va_AO.moved hW.alike hO.2⟩⟩
theorem pre_12 {q : Nat} {H1 : Heap} (hP : va_P (gD G) vwCl [((q, .inr (12, eF_12)) : Nat × va_E)] H1) (hKU : KU G (ks K)) : PreS (ks K) H1 (Pn G q 12 H1.size eF_12 []) [.ref q] :=
  ⟨Pn_blind, fun U hU hW => ⟨rfl, by rw [hU], by rw [hU]; exact hP, va_K.moved hW.alike hKU.1, Nw_warm hW hKU.2.1⟩⟩
end WNP
