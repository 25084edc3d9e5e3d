/-! ===== a call of a method that makes cells and keeps none ===== -/
section RCZ
variable {G : Gx} {K : Kx} {md : MD} {R : Room} {A : Nat → Prop} {cs sl mc ms n pc : Nat} {lo : List (Option V)} {st : List V} {M : Mem} {Q : State → Prop}
theorem blindZ {as : List V} {sz : Nat} : FrameBlind (va_Pc (as.map (cv (gp G))) (fun U => U.heap.size = sz ∧ Pic G M U.heap ∧ KU G U)) := fun _ _ _ _ q => ⟨q.1, q.2.1, q.2.2.1, KU_call q.2.2.2⟩
theorem xr_callZ {md' : MD} {ci idx o na : Nat} {as stk : List V} {Q1 : Option V → Mem → Prop} (hZ : ∀ q, gA G q → A q) (hA : ∀ q, (ks K).heap.size ≤ q → A q) (hZ' : ∀ q, q < (ks K).heap.size → A q → gA G q) (hR : n + 1 ≤ R.frames ∧ 119 + 120 * n ≤ R.locals ∧ cs + mc ≤ R.cells ∧ sl + ms ≤ R.slots) (d : decode md.2.1 pc = .ok (.invokevirtual idx, 3)) (hl : Cond.methodLink md.1.cls idx md'.1 ∈ gw) (hm : Mi md' ci na) (ho : oc o = ci) (hn : as.length = na) (hk : stk = as.reverse ++ vO o :: st) (hw : (st.map vcat).sum ≤ 8) (h : OkZ G n md' (vO o :: as) M mc ms Q1)
    (kk : ∀ (r : Option V) (M1 : Mem), Q1 r M1 → CX G K md (R, A, cs + mc, sl + ms) (pc + 3) lo (r.toList ++ st) M1 Q) : CX G K md (R, A, cs, sl) pc lo stk M Q := by
  intro C hM hs hlo H locs ls hP hS hL
  subst hk
  obtain ⟨m1, m2, m3, m4, m5, m6, m7, q, m8, m9⟩ := hm
  have hs1 : okS G as := fun v hv => hs v (List.mem_append_left _ (List.mem_reverse.mpr hv))
  have hs2 : okV G (vO o) := hs _ (List.mem_append_right _ List.mem_cons_self)
  have hs3 : okS G st := fun v hv => hs v (List.mem_append_right _ (List.mem_cons_of_mem _ hv))
  have hlive := live_of hs2 ho m8
  obtain ⟨q0, hq, hws⟩ := ws_mem (M := M) hlive
  rw [ce_obj, ho] at hws
  have hts := C.2.2.2.2.1
  have hKU := C.2.2.2.2.2.2.2.1
  have hG := C.2.2.2.2.2.2.2.2
  have hMet := h hM (okS_cons.mpr ⟨hs2, hs1⟩) hG H.size
  have hcw : CallW R (ks K) (ka K) md.1.cls md'.1.cls idx md'.1 md'.2.1 md'.2.2.1 md'.2.2.2 (.code md'.1 md'.2.1 md'.2.2.1 md'.2.2.2 :: gw) { frames := n, cells := mc, slots := ms, locals := 120 * n } mc ms na :=
    ⟨callB_of na hts (gw_good m4) rfl rfl rfl (hts _ m3) (hts _ hl) ⟨m5.1, m5.2, m6⟩ ⟨hR.1, by have := hR.2.1; show 8 + (md'.2.2.1 + 11) + 120 * n ≤ _; omega⟩, hts _ m1, hts _ m2⟩
  have hpre : PreV (ks K) H md'.1.cls (gp G (o, 99)) (va_Pc ((vO o :: as).map (cv (gp G))) (fun U => U.heap.size = H.size ∧ Pic G M U.heap ∧ KU G U)) (as.map (cv (gp G))) :=
    ⟨blindZ, by rw [← m9]; exact va_recv hKU.1 hP m8 hws, fun U hU hW => ⟨rfl, by rw [hU], by rw [hU]; exact hP, KU_movedZ hKU hZ' hW (by rw [hU]; exact hS)⟩⟩
  have hrun := va_runV (e := ke K) (below := kb K) (meth := kt K) (locs := locs) (cells := cs) (slots := sl) (rest := st.map (cv (gp G))) (g := F0 (km K) pc ls ((as.reverse ++ vO o :: st).map (cv (gp G)))) ⟨C.1, C.2.1, C.2.2.1, C.2.2.2.1, hts⟩ hMet hcw hpre rfl (by rw [List.length_map]; exact hn) hL.1 (by show List.map _ _ = _; rw [List.map_append, List.map_reverse, List.map_cons]; rfl) (lv_room (by rw [sum_cat]; exact hw)) d ⟨hR.2.2.1, hR.2.2.2⟩
  have hAz : ∀ x, Az G H.size x → A x := fun x hx => hx.elim (hZ x) (fun z => hA x (Nat.le_trans hS.1 z))
  intro T hT X
  obtain ⟨v, st₀, t, T', L, h0, X', hLo, e1, e2, ⟨⟨r, M1, hv, hq1, hM1, hok, hP1, hKU1⟩, hz, hk⟩, stp⟩ := hrun T hT X
  cases hv
  rw [h0] at hz hk
  have := kk r M1 hq1 C hM1 (fun v hv => by
    rcases List.mem_append.mp hv with h | h
    · cases r with
      | none => cases h
      | some w => rw [List.mem_singleton.mp h]; exact hok w rfl
    · exact hs3 v h) hlo T'.heap (locs ++ L) ls (by rw [e1]; exact hP1) ⟨Nat.le_trans hS.1 (by rw [e1]; exact hz), fun x h1 h2 => by rw [e1, hk x (Nat.lt_of_lt_of_le h1 hS.1) (fun z => h2 (hAz x z))]; exact hS.2.1 x h1 h2, fun x hx => by
      rcases List.mem_append.mp hx with h | h
      · exact hS.2.2 x h
      · exact hAz _ (hLo x h)⟩ hL
  rw [List.map_append] at this
  obtain ⟨t2, a1, b1⟩ := this T' rfl X'
  refine ⟨t2, stp t2 ?_, b1⟩
  cases r <;> exact a1
end RCZ
