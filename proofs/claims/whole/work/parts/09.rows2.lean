section RM
variable {G : Gx} {K : Kx} {md : MD} {n pc : Nat} {lo : List (Option V)} {st : List V} {M : Mem} {Q : Option V → Mem → Prop}
theorem KU_moved {s U : State} {locs : List Loc} (h : KU G s) (hW : s.WarmedH U.vm) (hS : va_S (gA G) s.heap U.heap locs) : KU G U := by
  refine ⟨va_K.moved hW.alike h.1, fun w hw => ?_, fun q hq => vk_R.warm hW (h.2.2.1 q hq), (h.2.2.2.1.moved hW.alike).kept hS.2.1, (h.2.2.2.2.1.moved hW.alike).kept hS.2.1, h.2.2.2.2.2.imp (fun z => (z.moved hW.alike).kept hS.2.1) (fun z => (z.moved hW.alike).kept hS.2.1)⟩
  have h1 := h.2.1 w hw
  have h2 := (List.mem_filter.mp hw).2
  cases w <;> first | (simp [isNest] at h2; done) | exact va_Nw.warmM hW h1
theorem KU_call {U : State} {g : JFrame} {mk : MethodId} {a : Array Value} (h : KU G U) : KU G (U.calling g mk a) := by
  refine ⟨va_K.moved (u := U) (U := U.calling g mk a) (Vm.Alike.refl U.vm) h.1, fun w hw => ?_, fun q hq => vk_R.same rfl (h.2.2.1 q hq), vk_S.moved (u := U) (U := U.calling g mk a) (Vm.Alike.refl U.vm) h.2.2.2.1, va_Z.moved (u := U) (U := U.calling g mk a) (Vm.Alike.refl U.vm) h.2.2.2.2.1, h.2.2.2.2.2.imp (fun z => va_Z.moved (u := U) (U := U.calling g mk a) (Vm.Alike.refl U.vm) z) (fun z => va_Z.moved (u := U) (U := U.calling g mk a) (Vm.Alike.refl U.vm) z)⟩
  have h1 := h.2.1 w hw
  have h2 := (List.mem_filter.mp hw).2
  cases w <;> first | (simp [isNest] at h2; done) | exact va_Nw.same rfl rfl h1
theorem oc_big {o : Nat} (h : 1000 ≤ o) : oc o = 99 := by
  unfold oc
  rw [List.getD_eq_getElem?_getD, List.getElem?_eq_none (by show 43 ≤ o; omega)]
  rfl
theorem live_of {o ci : Nat} {x : vw_C} (h : okV G (vO o)) (ho : oc o = ci) (hc : vwCl[ci]? = some x) : (o, 99) ∈ LC (gL G) := by
  rcases h with h | h
  · exact h
  · rw [oc_big h] at ho
    subst ho
    cases hc
theorem ce_obj {o : Nat} : ce G M (o, 99) = .inr (oc o, fl (gp G) M o) := by unfold ce; rw [if_pos rfl]
theorem ce_arr {o k : Nat} (h : k ≠ 99) : ce G M (o, k) = .inl (gy G (fK (oc o) k), aL (oc o) k, av (gp G) M o k) := by unfold ce; rw [if_neg h]
theorem fl_get {o k : Nat} (h : k < nf (oc o)) : (fl (gp G) M o)[k]? = some (fv (gp G) M o k) := by
  unfold fl; rw [List.getElem?_map, List.getElem?_range h]; rfl
theorem w_get {ci k o idx : Nat} {v : V} (d : decode md.2.1 pc = .ok (.getfield idx, 3)) (f : Fl md.1.cls idx ci k) (ho : oc o = ci) (hv : fv (gp G) M o k = cv (gp G) v) (hov : okM G M → o ∈ gL G → k < nf (oc o) → GOK G → okV G v) (kk : CW G K md n (pc + 3) lo (v :: st) M Q) : CW G K md n pc lo (vO o :: st) M Q := by
  intro C hM hs hl H locs ls hP hS hL
  obtain ⟨Cn, T, N, h1, h2, h3, h4, h5⟩ := f
  have h6 := okS_cons.mp hs
  have hm := live_of h6.1 ho h1
  obtain ⟨q, hq, hw⟩ := ws_mem (M := M) hm
  rw [ce_obj, ho] at hw
  have h3' : k < nf (oc o) := by rw [ho, ← h2]; exact h3
  refine va_get C.1 C.2.1 C.2.2.2.2.1 h4 C.2.2.2.1 C.2.2.2.2.2.2.2.1.1 hP q hw h1 k h3 (C.2.2.2.2.1 _ h5) (fun _ h => h) (v := cv (gp G) v) (by rw [fl_get h3', hv]) d ?_
  exact kk C hM (okS_cons.mpr ⟨hov hM (lc_live hm) h3' C.2.2.2.2.2.2.2.2, h6.2⟩) hl H locs ls hP hS hL
theorem r_getI {ci k o idx : Nat} (d : decode md.2.1 pc = .ok (.getfield idx, 3)) (f : Fl md.1.cls idx ci k) (ho : oc o = ci) (hk : fK ci k = 0) (kk : CW G K md n (pc + 3) lo (vI (M o k 0) :: st) M Q) : CW G K md n pc lo (vO o :: st) M Q := by
  subst ho
  refine w_get d f rfl (by unfold fv; rw [if_pos hk]; rfl) (fun hM _ _ _ => ?_) kk
  have := hM o k 0
  unfold okC at this
  simp only [hk] at this
  exact this
theorem r_getA {ci k o idx : Nat} (d : decode md.2.1 pc = .ok (.getfield idx, 3)) (f : Fl md.1.cls idx ci k) (ho : oc o = ci) (hk : isA (fK ci k) = true) (kk : CW G K md n (pc + 3) lo (vA o k :: st) M Q) : CW G K md n pc lo (vO o :: st) M Q := by
  subst ho
  refine w_get (v := vA o k) d f rfl ?_ (fun _ h1 h2 _ => Or.inl (lc_arr h1 h2 hk)) kk
  unfold isA at hk
  simp only [Bool.and_eq_true, decide_eq_true_eq] at hk
  unfold fv
  rw [if_neg (by omega), if_neg (by omega), if_neg (by omega)]; rfl
theorem r_getO {ci k o o' idx : Nat} (d : decode md.2.1 pc = .ok (.getfield idx, 3)) (f : Fl md.1.cls idx ci k) (ho : oc o = ci) (hk : fK ci k = 7) (he : lk o k = o') (kk : CW G K md n (pc + 3) lo (vO o' :: st) M Q) : CW G K md n pc lo (vO o :: st) M Q := by
  subst ho; subst he
  refine w_get (v := vO (lk o k)) d f rfl ?_ (fun _ h1 _ h3 => Or.inl (lc_obj (h3.2 o h1 k hk))) kk
  unfold fv
  rw [if_neg (by omega), if_pos hk]; rfl
theorem r_getN {ci k o o' idx : Nat} (d : decode md.2.1 pc = .ok (.getfield idx, 3)) (f : Fl md.1.cls idx ci k) (ho : oc o = ci) (hk : fK ci k = 8) (he : lk o k = o') (kk : CW G K md n (pc + 3) lo (vR (if M o k 0 = 0 then none else some (o', 99)) :: st) M Q) : CW G K md n pc lo (vO o :: st) M Q := by
  subst ho; subst he
  refine w_get d f rfl ?_ (fun hM h1 _ _ => ?_) kk
  · unfold fv
    rw [if_neg (by omega), if_neg (by omega), if_pos hk]
    split <;> rfl
  · have := hM o k 0
    unfold okC at this
    simp only [hk] at this
    by_cases h0 : M o k 0 = 0
    · rw [if_pos h0]; trivial
    · rw [if_neg h0]; exact Or.inl (lc_obj (this h0 h1))
/-! writes -/
theorem ce_arr_other {o k i : Nat} {x : Int} {c : Nat × Nat} (hc : c ≠ (o, k)) (h0 : isA (fK (oc o) k) = true) : ce G (mset M o k i x) c = ce G M c := by
  obtain ⟨o', k'⟩ := c
  have key : ¬ (o' = o ∧ k' = k) := fun h => hc (by rw [h.1, h.2])
  unfold isA at h0
  simp only [Bool.and_eq_true, decide_eq_true_eq] at h0
  by_cases h99 : k' = 99
  · subst h99
    rw [ce_obj, ce_obj]
    have hfl : fl (gp G) (mset M o k i x) o' = fl (gp G) M o' := by
      unfold fl
      apply List.map_congr_left
      intro j hj
      unfold fv
      by_cases e : o' = o ∧ j = k
      · obtain ⟨rfl, rfl⟩ := e
        rw [if_neg (by omega), if_neg (by omega), if_neg (by omega), if_neg (by omega), if_neg (by omega), if_neg (by omega)]
      · rw [mset_ne (by intro h; exact e ⟨h.1, h.2.1⟩)]
    rw [hfl]
  · rw [ce_arr h99, ce_arr h99]
    have : ∀ j, mset M o k i x o' k' j = M o' k' j := fun j => mset_ne (fun h => key ⟨h.1, h.2.1⟩)
    unfold av
    simp only [this]
theorem ce_obj_other {o k i : Nat} {x : Int} {c : Nat × Nat} (hm : c ∈ LC (gL G)) (hc : c ≠ (o, 99)) (h0 : isA (fK (oc o) k) = false) : ce G (mset M o k i x) c = ce G M c := by
  obtain ⟨o', k'⟩ := c
  by_cases h99 : k' = 99
  · subst h99
    have ho : o' ≠ o := fun h => hc (by rw [h])
    rw [ce_obj, ce_obj]
    have hfl : fl (gp G) (mset M o k i x) o' = fl (gp G) M o' := by
      unfold fl
      apply List.map_congr_left
      intro j hj
      unfold fv
      rw [mset_ne (by intro h; exact ho h.1)]
    rw [hfl]
  · have hk := (lc_kind hm h99).2
    rw [ce_arr h99, ce_arr h99]
    have key : ¬ (o' = o ∧ k' = k) := fun h => by
      rw [h.1, h.2] at hk; simp only at hk; rw [h0] at hk; cases hk
    have : ∀ j, mset M o k i x o' k' j = M o' k' j := fun j => mset_ne (fun h => key ⟨h.1, h.2.1⟩)
    unfold av
    simp only [this]
theorem okM_set {o k i : Nat} {x : Int} (hM : okM G M) (h : okC G (mset M o k i x) o k i) : okM G (mset M o k i x) := by
  intro o' k' i'
  by_cases e : o' = o ∧ k' = k ∧ i' = i
  · obtain ⟨rfl, rfl, rfl⟩ := e; exact h
  · have h1 := hM o' k' i'
    unfold okC at h1 ⊢
    rw [mset_ne e]
    exact h1
theorem ws_DG (h : GOK G) : va_D (gA G) (wsOf G M) := ws_D h.1
theorem r_put {ci k o idx : Nat} {x : Int} (d : decode md.2.1 pc = .ok (.putfield idx, 3)) (f : Fp md.1.cls idx ci k) (ho : oc o = ci) (hk : fK ci k = 0) (kk : CW G K md n (pc + 3) lo st (mset M o k 0 x) Q) : CW G K md n pc lo (vI x :: vO o :: st) M Q := by
  intro C hM hs hl H locs ls hP hS hL
  obtain ⟨Cn, T, N, ty, h1, h2, h3, h4, h5, h6, h7, h8, h9⟩ := f
  have hs1 := okS_cons.mp hs
  have hs2 := okS_cons.mp hs1.2
  have hx : inI x := hs1.1
  have hm := live_of hs2.1 ho h1
  obtain ⟨q, hq, hw⟩ := ws_mem (M := M) hm
  rw [ce_obj, ho] at hw
  have h3' : k < nf (oc o) := by rw [ho, ← h2]; exact h3
  have hG := C.2.2.2.2.2.2.2.2
  refine va_put C.1 C.2.1 C.2.2.2.2.1 h4 ty h6 h7 C.2.2.2.1 C.2.2.2.2.2.2.2.1.1 hP (ws_DG hG) hS q hw h1 k h3 (C.2.2.2.2.1 _ h5) (fun _ h => h) h8 (v := .int (Int32.ofInt x)) h9 rfl rfl (by unfold fl; rw [List.length_map, List.length_range]; exact h3') d (fun H1 locs1 g1 g2 g3 => ?_)
  have hkn : k ≠ 99 := by have := nf_99 (oc o); omega
  have e : ce G (mset M o k 0 x) (o, 99) = .inr (ci, (fl (gp G) M o).set k (.int (Int32.ofInt x))) := by
    rw [ce_obj, ho]
    congr 2
    apply List.ext_getElem?
    intro j
    by_cases hj : j = k
    · subst hj
      rw [List.getElem?_set_self (by unfold fl; rw [List.length_map, List.length_range]; exact h3'), fl_get h3']
      unfold fv
      rw [ho, if_pos hk, mset_self]
    · rw [List.getElem?_set_ne (Ne.symm hj)]
      by_cases hjn : j < nf (oc o)
      · rw [fl_get hjn, fl_get hjn]
        unfold fv
        rw [mset_ne (by intro h; exact hj h.2.1)]
      · rw [List.getElem?_eq_none (by unfold fl; rw [List.length_map, List.length_range]; omega), List.getElem?_eq_none (by unfold fl; rw [List.length_map, List.length_range]; omega)]
  rw [← e, ws_set (M' := mset M o k 0 x) (ws_DG hG) hq (fun c' hm' hc' => ce_obj_other hm' hc' (by rw [ho, hk]; rfl))] at g1
  exact kk C (okM_set hM (by unfold okC; rw [ho, hk, mset_self]; exact hx)) hs2.2 hl H1 locs1 ls g1 g3 hL
/-! arrays -/
theorem arr_of {o k : Nat} (h : okV G (vA o k)) (hk : isA (fK (oc o) k) = true) : (o, k) ∈ LC (gL G) ∧ k ≠ 99 := by
  have hk99 : k < nf (oc o) ∨ nf (oc o) ≤ k := Nat.lt_or_ge _ _
  have hn := nf_99 (oc o)
  have h99 : k ≠ 99 := by
    intro e
    subst e
    unfold isA fK at hk
    unfold nf at hn
    rw [List.getD_eq_getElem?_getD (l := fKL.getD (oc o) []), List.getElem?_eq_none (by omega)] at hk
    cases hk
  rcases h with h | h
  · exact ⟨h, h99⟩
  · exfalso
    rw [show oc o = 99 from oc_big h] at hk
    cases hk
theorem av_int {o k : Nat} (h : fK (oc o) k ≤ 3) : av (gp G) M o k = .inl (fun i => Int32.ofInt (M o k i)) := by
  unfold av; rw [if_neg (by omega), if_neg (by omega)]
theorem av_long {o k : Nat} (h : fK (oc o) k = 4) : av (gp G) M o k = .inr (.inl (fun i => Int64.ofInt (M o k i))) := by
  unfold av; rw [if_pos h]
theorem av_ref {o k : Nat} (h : 5 ≤ fK (oc o) k) : av (gp G) M o k = .inr (.inr (.inr (.inr (fun i => if M o k i = 0 then none else some (gp G (el k i, 99)))))) := by
  unfold av; rw [if_neg (by omega), if_pos h]
theorem w_arr {o k : Nat} (h : okV G (vA o k)) (hk : isA (fK (oc o) k) = true) : ∃ q : Nat, (LC (gL G))[q]? = some (o, k) ∧ (wsOf G M)[q]? = some (gp G (o, k), .inl (gy G (fK (oc o) k), aL (oc o) k, av (gp G) M o k)) := by
  obtain ⟨h1, h2⟩ := arr_of h hk
  obtain ⟨q, a, b⟩ := ws_mem (M := M) h1
  exact ⟨q, a, by rw [b, ce_arr h2]⟩
theorem r_alen {o k : Nat} {z : Int} (d : decode md.2.1 pc = .ok (.arraylength, 1)) (hk : isA (fK (oc o) k) = true) (he : aL (oc o) k = z.toNat) (hz : 0 ≤ z ∧ z ≤ 2147483647) (kk : CW G K md n (pc + 1) lo (vI z :: st) M Q) : CW G K md n pc lo (vA o k :: st) M Q := by
  intro C hM hs hl H locs ls hP hS hL
  have hs1 := okS_cons.mp hs
  obtain ⟨q, hq, hw⟩ := w_arr (M := M) hs1.1 hk
  have hz' : Int32.ofNat (aL (oc o) k) = Int32.ofInt z := by
    rw [he]
    apply Int32.toInt_inj.mp
    rw [i32_id ⟨by omega, hz.2⟩]
    have := nI_toInt (n := z.toNat) (by omega)
    unfold nI at this
    rw [this]; omega
  have hk' := hk
  unfold isA at hk'
  simp only [Bool.and_eq_true, decide_eq_true_eq] at hk'
  have ht : ∃ ty, (tysOf (gy G))[fK (oc o) k - 1]? = some (gy G (fK (oc o) k), ty) := by
    generalize fK (oc o) k = t at hk'
    have : t = 1 ∨ t = 2 ∨ t = 3 ∨ t = 4 ∨ t = 5 ∨ t = 6 := by omega
    rcases this with rfl | rfl | rfl | rfl | rfl | rfl <;> exact ⟨_, rfl⟩
  obtain ⟨ty, ht⟩ := ht
  exact va_alen C.1 C.2.1 C.2.2.2.2.2.2.2.1.1 hP q _ hw ht hz' d (kk C hM (okS_cons.mpr ⟨⟨by omega, hz.2⟩, hs1.2⟩) hl H locs ls hP hS hL)
theorem r_iald {o k : Nat} {i : Int} (d : decode md.2.1 pc = .ok (.iaload, 1)) (hk : fK (oc o) k = 1) (h : 0 ≤ i ∧ i < (aL (oc o) k : Nat)) (kk : CW G K md n (pc + 1) lo (vI (M o k i.toNat) :: st) M Q) : CW G K md n pc lo (vI i :: vA o k :: st) M Q := by
  intro C hM hs hl H locs ls hP hS hL
  have hs1 := okS_cons.mp hs
  have hs2 := okS_cons.mp hs1.2
  have hi : inI i := hs1.1
  obtain ⟨q, hq, hw⟩ := w_arr (M := M) hs2.1 (by rw [hk]; rfl)
  rw [av_int (by omega), hk] at hw
  refine va_iald C.1 C.2.1 C.2.2.2.2.2.2.2.1.1 hP q 0 hw rfl ((i32_vp hi).mpr h) d ?_
  rw [i32_nat hi]
  refine kk C hM (okS_cons.mpr ⟨?_, hs2.2⟩) hl H locs ls hP hS hL
  have := hM o k i.toNat
  unfold okC at this
  simp only [hk] at this
  exact this
theorem r_bald {o k : Nat} {i : Int} (d : decode md.2.1 pc = .ok (.baload, 1)) (hk : fK (oc o) k = 2 ∨ fK (oc o) k = 3) (h : 0 ≤ i ∧ i < (aL (oc o) k : Nat)) (kk : CW G K md n (pc + 1) lo (vI (M o k i.toNat) :: st) M Q) : CW G K md n pc lo (vI i :: vA o k :: st) M Q := by
  intro C hM hs hl H locs ls hP hS hL
  have hs1 := okS_cons.mp hs
  have hs2 := okS_cons.mp hs1.2
  have hi : inI i := hs1.1
  obtain ⟨q, hq, hw⟩ := w_arr (M := M) hs2.1 (by rcases hk with h | h <;> rw [h] <;> rfl)
  have hr : inI (M o k i.toNat) := by
    have := hM o k i.toNat
    unfold okC at this
    rcases hk with h | h <;> simp only [h] at this <;> (unfold inI; simp at this; omega)
  have kk' := kk C hM (okS_cons.mpr ⟨hr, hs2.2⟩) hl H locs ls hP hS hL
  rw [av_int (by omega)] at hw
  rcases hk with hk | hk
  · rw [hk] at hw
    refine va_bald C.1 C.2.1 C.2.2.2.2.2.2.2.1.1 hP q 1 hw rfl ((i32_vp hi).mpr h) d ?_
    rw [i32_nat hi]; exact kk'
  · rw [hk] at hw
    refine va_zald C.1 C.2.1 C.2.2.2.2.2.2.2.1.1 hP q 2 hw rfl ((i32_vp hi).mpr h) d ?_
    rw [i32_nat hi]; exact kk'
theorem r_lald {o k : Nat} {i : Int} (d : decode md.2.1 pc = .ok (.laload, 1)) (hk : fK (oc o) k = 4) (h : 0 ≤ i ∧ i < (aL (oc o) k : Nat)) (kk : CW G K md n (pc + 1) lo (vL (M o k i.toNat) :: st) M Q) : CW G K md n pc lo (vI i :: vA o k :: st) M Q := by
  intro C hM hs hl H locs ls hP hS hL
  have hs1 := okS_cons.mp hs
  have hs2 := okS_cons.mp hs1.2
  have hi : inI i := hs1.1
  obtain ⟨q, hq, hw⟩ := w_arr (M := M) hs2.1 (by rw [hk]; rfl)
  rw [av_long hk, hk] at hw
  refine va_lald C.1 C.2.1 C.2.2.2.2.2.2.2.1.1 hP q 3 hw rfl ((i32_vp hi).mpr h) d ?_
  rw [i32_nat hi]
  refine kk C hM (okS_cons.mpr ⟨?_, hs2.2⟩) hl H locs ls hP hS hL
  have := hM o k i.toNat
  unfold okC at this
  simp only [hk] at this
  exact this
theorem r_aald {o k : Nat} {i : Int} (d : decode md.2.1 pc = .ok (.aaload, 1)) (hk : fK (oc o) k = 5 ∨ fK (oc o) k = 6) (h : 0 ≤ i ∧ i < (aL (oc o) k : Nat)) (kk : CW G K md n (pc + 1) lo (vR (if M o k i.toNat = 0 then none else some (el k i.toNat, 99)) :: st) M Q) : CW G K md n pc lo (vI i :: vA o k :: st) M Q := by
  intro C hM hs hl H locs ls hP hS hL
  have hs1 := okS_cons.mp hs
  have hs2 := okS_cons.mp hs1.2
  have hi : inI i := hs1.1
  have hka : isA (fK (oc o) k) = true := by rcases hk with h | h <;> rw [h] <;> rfl
  obtain ⟨q, hq, hw⟩ := w_arr (M := M) hs2.1 hka
  have hlive := lc_live (arr_of hs2.1 hka).1
  have hok : okV G (vR (if M o k i.toNat = 0 then none else some (el k i.toNat, 99))) := by
    have := hM o k i.toNat
    unfold okC at this
    by_cases h0 : M o k i.toNat = 0
    · rw [if_pos h0]; trivial
    · rw [if_neg h0]
      rw [if_neg (by omega), if_neg (by omega), if_neg (by omega), if_pos hk] at this
      exact Or.inl (lc_obj (this h0 hlive (by omega)))
  have kk' := kk C hM (okS_cons.mpr ⟨hok, hs2.2⟩) hl H locs ls hP hS hL
  rw [av_ref (by omega)] at hw
  have e : va_rf ((fun j => if M o k j = 0 then none else some (gp G (el k j, 99))) (Int32.ofInt i).toNatClampNeg) = cv (gp G) (vR (if M o k i.toNat = 0 then none else some (el k i.toNat, 99))) := by
    rw [i32_nat hi]
    dsimp only
    split <;> rfl
  rcases hk with hk | hk
  · rw [hk] at hw
    refine va_aldq C.1 C.2.1 C.2.2.2.2.2.2.2.1.1 hP q 4 hw rfl ((i32_vp hi).mpr h) d ?_
    rw [e]; exact kk'
  · rw [hk] at hw
    refine va_aldq C.1 C.2.1 C.2.2.2.2.2.2.2.1.1 hP q 5 hw rfl ((i32_vp hi).mpr h) d ?_
    rw [e]; exact kk'
theorem upd_set {o k i : Nat} {x : Int} : upd (fun j => Int32.ofInt (M o k j)) i (Int32.ofInt x) = fun j => Int32.ofInt (mset M o k i x o k j) := by
  funext j
  unfold upd mset
  by_cases h : j = i
  · simp [h]
  · simp [h]
theorem updL_set {o k i : Nat} {x : Int} : vp_updL (fun j => Int64.ofInt (M o k j)) i (Int64.ofInt x) = fun j => Int64.ofInt (mset M o k i x o k j) := by
  funext j
  unfold vp_updL mset
  by_cases h : j = i
  · simp [h]
  · simp [h]
theorem r_iast {o k : Nat} {i x : Int} (d : decode md.2.1 pc = .ok (.iastore, 1)) (hk : fK (oc o) k = 1) (h : 0 ≤ i ∧ i < (aL (oc o) k : Nat)) (kk : CW G K md n (pc + 1) lo st (mset M o k i.toNat x) Q) : CW G K md n pc lo (vI x :: vI i :: vA o k :: st) M Q := by
  intro C hM hs hl H locs ls hP hS hL
  have hs0 := okS_cons.mp hs
  have hs1 := okS_cons.mp hs0.2
  have hs2 := okS_cons.mp hs1.2
  have hi : inI i := hs1.1
  have hx : inI x := hs0.1
  have hka : isA (fK (oc o) k) = true := by rw [hk]; rfl
  obtain ⟨q, hq, hw⟩ := w_arr (M := M) hs2.1 hka
  have hk99 := (arr_of hs2.1 hka).2
  rw [av_int (by omega), hk] at hw
  have hG := C.2.2.2.2.2.2.2.2
  refine va_iast C.1 C.2.1 C.2.2.2.2.2.2.2.1.1 hP (ws_DG hG) hS q 0 hw rfl ((i32_vp hi).mpr h) d (fun H1 locs1 g1 g2 g3 => ?_)
  rw [i32_nat hi, upd_set, ← av_int (M := mset M o k i.toNat x) (by omega), show gy G 1 = gy G (fK (oc o) k) by rw [hk], ← ce_arr (M := mset M o k i.toNat x) hk99, ws_set (M' := mset M o k i.toNat x) (ws_DG hG) hq (fun c' hm' hc' => ce_arr_other hc' hka)] at g1
  exact kk C (okM_set hM (by unfold okC; simp only [hk, mset_self]; exact hx)) hs2.2 hl H1 locs1 ls g1 g3 hL
theorem r_last {o k : Nat} {i x : Int} (d : decode md.2.1 pc = .ok (.lastore, 1)) (hk : fK (oc o) k = 4) (h : 0 ≤ i ∧ i < (aL (oc o) k : Nat)) (kk : CW G K md n (pc + 1) lo st (mset M o k i.toNat x) Q) : CW G K md n pc lo (vL x :: vI i :: vA o k :: st) M Q := by
  intro C hM hs hl H locs ls hP hS hL
  have hs0 := okS_cons.mp hs
  have hs1 := okS_cons.mp hs0.2
  have hs2 := okS_cons.mp hs1.2
  have hi : inI i := hs1.1
  have hx : inL x := hs0.1
  have hka : isA (fK (oc o) k) = true := by rw [hk]; rfl
  obtain ⟨q, hq, hw⟩ := w_arr (M := M) hs2.1 hka
  have hk99 := (arr_of hs2.1 hka).2
  rw [av_long hk, hk] at hw
  have hG := C.2.2.2.2.2.2.2.2
  refine va_last C.1 C.2.1 C.2.2.2.2.2.2.2.1.1 hP (ws_DG hG) hS q 3 hw rfl ((i32_vp hi).mpr h) d (fun H1 locs1 g1 g2 g3 => ?_)
  rw [i32_nat hi, updL_set, ← av_long (M := mset M o k i.toNat x) hk, show gy G 4 = gy G (fK (oc o) k) by rw [hk], ← ce_arr (M := mset M o k i.toNat x) hk99, ws_set (M' := mset M o k i.toNat x) (ws_DG hG) hq (fun c' hm' hc' => ce_arr_other hc' hka)] at g1
  exact kk C (okM_set hM (by unfold okC; simp only [hk, mset_self]; exact hx)) hs2.2 hl H1 locs1 ls g1 g3 hL
theorem toB_in (x : Int) : -128 ≤ toB x ∧ toB x ≤ 127 := by
  unfold toB
  have h1 := Int8.toInt_lt ((Int32.ofInt x).toInt8)
  have h2 := Int8.le_toInt ((Int32.ofInt x).toInt8)
  rw [Int8.toInt_toInt32]
  omega
theorem r_bast {o k : Nat} {i x : Int} (d : decode md.2.1 pc = .ok (.bastore, 1)) (hk : fK (oc o) k = 2) (h : 0 ≤ i ∧ i < (aL (oc o) k : Nat)) (kk : CW G K md n (pc + 1) lo st (mset M o k i.toNat (toB x)) Q) : CW G K md n pc lo (vI x :: vI i :: vA o k :: st) M Q := by
  intro C hM hs hl H locs ls hP hS hL
  have hs0 := okS_cons.mp hs
  have hs1 := okS_cons.mp hs0.2
  have hs2 := okS_cons.mp hs1.2
  have hi : inI i := hs1.1
  have hka : isA (fK (oc o) k) = true := by rw [hk]; rfl
  obtain ⟨q, hq, hw⟩ := w_arr (M := M) hs2.1 hka
  have hk99 := (arr_of hs2.1 hka).2
  rw [av_int (by omega), hk] at hw
  have hG := C.2.2.2.2.2.2.2.2
  refine va_bast C.1 C.2.1 C.2.2.2.2.2.2.2.1.1 hP (ws_DG hG) hS q 1 hw rfl ((i32_vp hi).mpr h) d (fun H1 locs1 g1 g2 g3 => ?_)
  rw [i32_nat hi, vp_nar_byte, show (Int32.ofInt x).toInt8.toInt32 = Int32.ofInt (toB x) from (i32_of _).symm, upd_set, ← av_int (M := mset M o k i.toNat (toB x)) (by omega), show gy G 2 = gy G (fK (oc o) k) by rw [hk], ← ce_arr (M := mset M o k i.toNat (toB x)) hk99, ws_set (M' := mset M o k i.toNat (toB x)) (ws_DG hG) hq (fun c' hm' hc' => ce_arr_other hc' hka)] at g1
  exact kk C (okM_set hM (by unfold okC; simp only [hk, mset_self]; exact toB_in x)) hs2.2 hl H1 locs1 ls g1 g3 hL
theorem r_zast {o k : Nat} {i x : Int} (d : decode md.2.1 pc = .ok (.bastore, 1)) (hk : fK (oc o) k = 3) (h : 0 ≤ i ∧ i < (aL (oc o) k : Nat)) (h01 : x = 0 ∨ x = 1) (kk : CW G K md n (pc + 1) lo st (mset M o k i.toNat x) Q) : CW G K md n pc lo (vI x :: vI i :: vA o k :: st) M Q := by
  intro C hM hs hl H locs ls hP hS hL
  have hs0 := okS_cons.mp hs
  have hs1 := okS_cons.mp hs0.2
  have hs2 := okS_cons.mp hs1.2
  have hi : inI i := hs1.1
  have hka : isA (fK (oc o) k) = true := by rw [hk]; rfl
  obtain ⟨q, hq, hw⟩ := w_arr (M := M) hs2.1 hka
  have hk99 := (arr_of hs2.1 hka).2
  rw [av_int (by omega), hk] at hw
  have hG := C.2.2.2.2.2.2.2.2
  refine va_zast C.1 C.2.1 C.2.2.2.2.2.2.2.1.1 hP (ws_DG hG) hS q 2 hw rfl ((i32_vp hi).mpr h) d (fun H1 locs1 g1 g2 g3 => ?_)
  have hb : vp_nar .boolean (Int32.ofInt x) = Int32.ofInt x := by rcases h01 with rfl | rfl <;> rfl
  rw [i32_nat hi, hb, upd_set, ← av_int (M := mset M o k i.toNat x) (by omega), show gy G 3 = gy G (fK (oc o) k) by rw [hk], ← ce_arr (M := mset M o k i.toNat x) hk99, ws_set (M' := mset M o k i.toNat x) (ws_DG hG) hq (fun c' hm' hc' => ce_arr_other hc' hka)] at g1
  exact kk C (okM_set hM (by unfold okC; rw [hk, mset_self]; rcases h01 with rfl | rfl <;> simp)) hs2.2 hl H1 locs1 ls g1 g3 hL
end RM
