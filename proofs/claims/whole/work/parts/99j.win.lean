/-! ===== new, dup, <init> without arguments: the world grows ===== -/
section WIN
variable {G : Gx} {K : Kx} {md md' : MD} {R R' : Room} {A : Nat → Prop} {cs sl mc ms pc : Nat} {lo : List (Option V)} {st : List V} {M : Mem} {F : State → Prop} {fs' : List Value}
theorem xw_new0 {i0 i1 ci' o1 : Nat} {host : String} {S' : Nat → va_W → Prop} {L1 : List Nat} (hA : AZ G K A) (hE : NoR G M) (d0 : decode md.2.1 pc = .ok (.new i0, 3)) (d1 : decode md.2.1 (pc + 3) = .ok (.dup, 1)) (d2 : decode md.2.1 (pc + 4) = .ok (.invokespecial i1, 3)) (f : Nn md.1.cls i0 i1 ci' md' host fs' 0)
    (hMet : ∀ q sz, Met (gl G) md'.1 (.code md'.1 md'.2.1 md'.2.2.1 md'.2.2.2 :: gw) R' (Pn G q ci' sz fs' []) (Qn G q sz (S' q)) mc ms (Aa q sz)) (hR : R'.cells = mc ∧ R'.slots = ms ∧ R'.frames + 1 ≤ R.frames ∧ 24 + R'.locals ≤ R.locals) (hw : (st.map vcat).sum ≤ 7) (hc : cs + 1 + mc ≤ R.cells) (hsl : sl + fs'.length + ms ≤ R.slots)
    (hn : ∀ o ∈ L1, o ∉ gL G) (hb : ∀ o ∈ L1, o < 1000) (ho : o1 ∈ L1) (h7 : ∀ o ∈ L1, ∀ k, fK (oc o) k = 7 → lk o k ∈ gL G ++ L1)
    (hs : ∀ q ws', S' q ws' → ∃ (π : Nat × Nat → Nat) (is : List Nat), (∀ c, c ∉ LC L1 → π c = gp G c) ∧ π (o1, 99) = q ∧ va_nd is = true ∧ is.map (fun i => ws'[i]?) = ((LC L1).map (fun c => ((π c, ce (gx G π (gL G ++ L1)) (MN M L1) c) : Nat × va_E))).map some)
    (kk : ∀ π : Nat × Nat → Nat, (∀ c, c ∉ LC L1 → π c = gp G c) → AZ (gx G π (gL G ++ L1)) K A → CX (gx G π (gL G ++ L1)) K md (R, A, cs + 1 + mc, sl + fs'.length + ms) (pc + 7) lo (vO o1 :: st) (MN M L1) F) : CX G K md (R, A, cs, sl) pc lo st M F := by
  intro C hM hst hl H locs ls hP hS hL
  have hts := C.2.2.2.2.1
  have hKU := C.2.2.2.2.2.2.2.1
  have hG := C.2.2.2.2.2.2.2.2
  obtain ⟨Cn, T, tf, f1, f2, f3, f4, f5, f6, f7, f8, f9, f10, f11, f12, f13, f14, f15, f16⟩ := f
  refine va_new (ci := ci') (fs := fs') C.1 C.2.1 hts f2 tf f3 C.2.2.2.1 (hts _ f4) (hts _ f5) (hts _ f6) hKU.1 hP (ws_DZ hA.1 hG) hS hA.2.1 f1 f7 (by show cs + 1 ≤ R.cells; omega) (by show sl + fs'.length ≤ R.slots; omega) d0 (fun q H1 hP1 hD1 hS1 => ?_)
  refine lv_dup C.1 C.2.1 d1 rfl ?_
  have hcw : va_CN R (ks K) (ka K) md.1.cls i1 md'.1 host md'.2.1 md'.2.2.1 none (.code md'.1 md'.2.1 md'.2.2.1 md'.2.2.2 :: gw) R' mc ms 0 :=
    f15 ▸ va_cnB 0 hts (gw_good f11) rfl hR.1 hR.2.1 (hKU.2.1 _ f8) (hts _ f10) ⟨f12.1, f12.2, f13⟩ ⟨hR.2.2.1, by omega⟩
  have hpre : PreS (ks K) H1 (Pn G q ci' H1.size fs' []) [.ref q] := ⟨Pn_blind, fun U hU hW => ⟨rfl, by rw [hU], by
    rw [hU]
    intro k x hk
    have h1 := (List.getElem?_eq_some_iff.mp hk).1
    simp at h1
    subst h1
    cases hk
    exact hP1 (wsOf G M).length (q, .inr (ci', fs')) (by rw [List.getElem?_append_right (Nat.le_refl _), Nat.sub_self]; rfl), va_K.moved hW.alike hKU.1, Nw_warm hW hKU.2.1⟩⟩
  have hrun := va_runIN (e := ke K) (below := kb K) (meth := kt K) (locs := locs) (cells := cs + 1) (slots := sl + fs'.length) (As := []) (rest := .ref q :: st.map (cv (gp G))) (g := F0 (km K) (pc + 4) ls (.ref q :: .ref q :: st.map (cv (gp G)))) ⟨C.1, C.2.1, C.2.2.1, C.2.2.2.1, hts⟩ (hMet q H1.size) ⟨hcw, f14, hts _ f9⟩ hpre rfl rfl hL.1 rfl (lv_room (by rw [List.map_cons, List.sum_cons, sum_cat]; have e2 : (Value.ref q).category = 1 := rfl; omega)) d2 ⟨hc, hsl⟩
  exact grow_core hrun C hM hst hl hL hA hE hP1 hD1 hS1 hn hb ho h7 (hs q) kk
/-- a reference put into its place in an array of references -/
theorem xr_aast {Z : Zx} {o k o' ci : Nat} {i : Int} {r : vw_C} {t0 : Nat} (hZ : ∀ q, gA G q → Z.2.1 q) (d : decode md.2.1 pc = .ok (.aastore, 1)) (hk : fK (oc o) k = 5 ∨ fK (oc o) k = 6) (h : 0 ≤ i ∧ i < (aL (oc o) k : Nat)) (he : el k i.toNat = o') (ho' : oc o' = ci) (hr : vwCl[ci]? = some r) (ht : (tysOf (gy G))[t0]? = some (gy G (fK (oc o) k), .object r.1)) (kk : CX G K md Z (pc + 1) lo st (mset M o k i.toNat 1) F) : CX G K md Z pc lo (vO o' :: vI i :: vA o k :: st) M F := by
  intro C hM hs hl H locs ls hP hS hL
  have hs0 := okS_cons.mp hs
  have hs1 := okS_cons.mp hs0.2
  have hs2 := okS_cons.mp hs1.2
  have hi : inI i := hs1.1
  have hka : isA (fK (oc o) k) = true := by rcases hk with h | h <;> rw [h] <;> rfl
  have hm := live_of hs0.1 ho' hr
  obtain ⟨q', -, hw'⟩ := ws_mem (M := M) hm
  rw [ce_obj, ho'] at hw'
  obtain ⟨q, hq, hw⟩ := w_arr (M := M) hs2.1 hka
  have hk99 := (arr_of hs2.1 hka).2
  rw [av_ref (by omega)] at hw
  have hG := C.2.2.2.2.2.2.2.2
  refine va_astq C.1 C.2.1 C.2.2.2.2.2.2.2.1.1 hP (ws_DZ hZ hG) hS q t0 q' ci hw ht hw' hr ((i32_vp hi).mpr h) d (fun H1 locs1 g1 g2 g3 => ?_)
  have e : va_up (fun j => if M o k j = 0 then none else some (gp G (el k j, 99))) (Int32.ofInt i).toNatClampNeg (some (gp G (o', 99))) = fun j => if mset M o k i.toNat 1 o k j = 0 then none else some (gp G (el k j, 99)) := by
    rw [i32_nat hi]
    funext j
    by_cases hj : j = i.toNat
    · subst hj
      rw [va_up_self, mset_self, if_neg (by decide), he]
    · rw [va_up_ne _ _ hj, mset_ne (fun z => hj z.2.2)]
  rw [e, ← av_ref (M := mset M o k i.toNat 1) (by omega), ← ce_arr (M := mset M o k i.toNat 1) hk99, ws_set (M' := mset M o k i.toNat 1) (ws_DZ hZ hG) hq (fun c' hm' hc' => ce_arr_other hc' hka)] at g1
  refine kk C (okM_set hM ?_) hs2.2 hl H1 locs1 ls g1 g3 hL
  unfold okC
  rw [if_neg (by omega), if_neg (by omega), if_neg (by omega), if_pos hk]
  intro _ _ _
  rw [he]
  exact lc_live hm
/-- the planner put into its field -/
theorem xr_putN {Z : Zx} (hZ : ∀ q, gA G q → Z.2.1 q) (d : decode md.2.1 pc = .ok (.putfield 243, 3)) (hmd : md.1.cls = RX11) (kk : CX G K md Z (pc + 3) lo st (mset M 1 10 0 1) F) : CX G K md Z pc lo (vO 12 :: vO 1 :: st) M F := by
  intro C hM hs hl H locs ls hP hS hL
  have hs1 := okS_cons.mp hs
  have hs2 := okS_cons.mp hs1.2
  have hm12 := live_of (ci := 4) (x := (RX4, TX4, 5)) hs1.1 rfl rfl
  have hm := live_of (ci := 11) (x := (RX11, TX11, 17)) hs2.1 rfl rfl
  obtain ⟨q, hq, hw⟩ := ws_mem (M := M) hm
  rw [ce_obj] at hw
  have hw : (wsOf G M)[q]? = some (gp G (1, 99), .inr (11, fl (gp G) M 1)) := hw
  have hG := C.2.2.2.2.2.2.2.2
  have hlen : (fl (gp G) M 1).length = 17 := by unfold fl; rw [List.length_map, List.length_range]; rfl
  refine va_put (own := RX11) C.1 C.2.1 C.2.2.2.2.1 gX11 tyX11 tyX11_ok nmX11 (hmd ▸ C.2.2.2.1) C.2.2.2.2.2.2.2.1.1 hP (ws_DZ hZ hG) hS q hw (C := RX11) (T := TX11) (N := 17) rfl 10 (by decide) (C.2.2.2.2.1 (Cond.fieldLink RX11 243 (TX11 10).1 (TX11 10).2.1 (TX11 10).2.2.1) (gt2 (i := 114) (by decide +kernel) rfl)) (fun _ h => h) rfl (v := .ref (gp G (12, 99))) (ty := .object RX4) (by decide +kernel) rfl rfl (by rw [hlen]; decide) d (fun H1 locs1 g1 g2 g3 => ?_)
  have e : ce G (mset M 1 10 0 1) (1, 99) = .inr (11, (fl (gp G) M 1).set 10 (.ref (gp G (12, 99)))) := by
    rw [ce_obj]
    show Sum.inr (11, _) = _
    rfl
  rw [← e, ws_set (M' := mset M 1 10 0 1) (ws_DZ hZ hG) hq (fun c' hm' hc' => ce_obj_other hm' hc' rfl)] at g1
  refine kk C (okM_set hM ?_) hs2.2 hl H1 locs1 ls g1 g3 hL
  show _ → _ → 12 ∈ gL G
  intro _ _
  exact lc_live hm12
end WIN
