/-! ===== contracts of methods that make objects and keep them ===== -/
section OKN
variable {G G1 G2 : Gx} {K : Kx} {md : MD} {R : Room} {A : Nat → Prop} {cs sl mc ms n pc sz : Nat} {lo : List (Option V)} {st : List V} {M : Mem} {F : State → Prop} {x : Int}
/-- the world G1 is G with objects more -/
def Gr (G G1 : Gx) : Prop := ∃ (π : Nat × Nat → Nat) (L1 : List Nat), G1 = gx G π (gL G ++ L1) ∧ (∀ c ∈ LC (gL G), π c = gp G c) ∧ (∀ c, 1000 ≤ c.1 → π c = gp G c)
theorem Gr.rf : Gr G G := ⟨gp G, [], by rw [List.append_nil], fun _ _ => rfl, fun _ _ => rfl⟩
theorem Gr.mk {π : Nat × Nat → Nat} {L1 : List Nat} (hoff : ∀ c, c ∉ LC L1 → π c = gp G c) (hn : ∀ o ∈ L1, o ∉ gL G) (hb : ∀ o ∈ L1, o < 1000) : Gr G (gx G π (gL G ++ L1)) :=
  ⟨π, L1, rfl, fun c hc => hoff c (fun e => hn _ (lc_live e) (lc_live hc)), fun c hc => hoff c (fun e => by have := hb _ (lc_live e); omega)⟩
theorem Gr.tr (h1 : Gr G G1) (h2 : Gr G1 G2) : Gr G G2 := by
  obtain ⟨π, L1, rfl, a1, a2⟩ := h1
  obtain ⟨π', L2, rfl, b1, b2⟩ := h2
  refine ⟨π', L1 ++ L2, by rw [← List.append_assoc], fun c hc => ?_, fun c hc => (b2 c hc).trans (a2 c hc)⟩
  exact (b1 c (by show c ∈ LC (gL G ++ L1); rw [LC_app]; exact List.mem_append_left _ hc)).trans (a1 c hc)
theorem Gr.gl (h : Gr G G1) : gl G1 = gl G := by obtain ⟨π, L1, rfl, -⟩ := h; rfl
theorem Gr.le (h : Gr G G1) {o : Nat} (ho : o ∈ gL G) : o ∈ gL G1 := by obtain ⟨π, L1, rfl, -⟩ := h; exact List.mem_append_left _ ho
theorem Gr_okL (h : Gr G G1) (hl : okL G lo) : okL G1 lo := by obtain ⟨π, L1, rfl, -⟩ := h; exact fun v hv => okV_ext (hl v hv)
theorem Gr_okS (h : Gr G G1) (hl : okS G st) : okS G1 st := by obtain ⟨π, L1, rfl, -⟩ := h; exact fun v hv => okV_ext (hl v hv)
theorem Gr_HL {nL : Nat} {ls : Array Slot} (h : Gr G G1) (hL : HL (gp G) nL ls lo) (hl : okL G lo) : HL (gp G1) nL ls lo := by obtain ⟨π, L1, rfl, a1, a2⟩ := h; exact HL_ext hL hl a1 a2
theorem Gr_stk (h : Gr G G1) (hs : okS G st) : st.map (cv (gp G1)) = st.map (cv (gp G)) := by obtain ⟨π, L1, rfl, a1, a2⟩ := h; exact List.map_congr_left (fun v hv => cv_ext (hs v hv) a1 a2)
theorem Gr_Cx (h : Gr G G1) (C : Cx G K md) (hA : AZ G K A) (hA1 : ∀ q, gA G1 q → A q) (hG : GOK G1) : Cx G1 K md := by obtain ⟨π, L1, rfl, a1, a2⟩ := h; exact Cx_ext C a2 (fun q hq hg => hA.2.2 q hq (hA1 q hg)) hG
theorem Gr_AZ (h : Gr G G1) (hA : AZ G K A) (hA1 : ∀ q, gA G1 q → A q) : AZ G1 K A := by
  obtain ⟨π, L1, rfl, a1, a2⟩ := h
  refine ⟨hA1, hA.2.1, fun q hq ha => ?_⟩
  obtain ⟨c, hc, e⟩ := hA.2.2 q hq ha
  exact ⟨c, by show c ∈ LC (gL G ++ L1); rw [LC_app]; exact List.mem_append_left _ hc, by rw [e]; exact (a1 c hc).symm⟩
def QmN (G : Gx) (sz : Nat) (Q : Gx → Int → Mem → Prop) : Array Value → State → Outcome → State → Prop := fun _ s oc t =>
  (∃ (G1 : Gx) (x : Int) (M : Mem), Gr G G1 ∧ (∀ q, gA G1 q → Az G sz q) ∧ GOK G1 ∧ oc = .returned (some (.int (Int32.ofInt x))) ∧ inI x ∧ Q G1 x M ∧ okM G1 M ∧ Pic G1 M t.heap ∧ KU G1 t) ∧ va_F (Az G sz) s t
/-- the same as OkZ, for a method that answers a number, makes mc cells of ms slots and may keep them -/
def OkN (G : Gx) (n : Nat) (md : MD) (as : List V) (M : Mem) (mc ms : Nat) (Q : Gx → Int → Mem → Prop) : Prop :=
  okM G M → okS G as → GOK G → ∀ sz, Met (gl G) md.1 (.code md.1 md.2.1 md.2.2.1 md.2.2.2 :: gw) { frames := n, cells := mc, slots := ms, locals := 120 * n } (va_Pc (as.map (cv (gp G))) (fun U => U.heap.size = sz ∧ Pic G M U.heap ∧ KU G U)) (QmN G sz Q) mc ms (Az G sz)
theorem Az_AZ (h : (ks K).heap.size = sz) : AZ G K (Az G sz) := ⟨fun _ z => Or.inl z, fun _ z => Or.inr (by omega), fun q hq z => z.elim id (fun y => by omega)⟩
theorem OkN_of {as : List V} {lo' : List (Option V)} {Q : Gx → Int → Mem → Prop} (hp : plainName md.1.cls = true) (hlen : (lo1 as).length ≤ md.2.2.1) (e : lo0 as md.2.2.1 = lo') (h : ∀ (K : Kx) (sz : Nat), (ks K).heap.size = sz → CX G K md ({ frames := n, cells := mc, slots := ms, locals := 120 * n }, Az G sz, 0, 0) 0 lo' [] M (MQ (kb K) (QmN G sz Q) (ka K) (ks K) mc ms (Az G sz))) : OkN G n md as M mc ms Q := by
  intro hM hs hG sz
  subst e
  refine Met.ofW (cc := md.2.1) (maxL := md.2.2.1) (ret := md.2.2.2) hp rfl ?_
  intro p e s m args below meth c s₁ B hml hv
  obtain ⟨rfl, hsz, hP, hK⟩ := hv
  have hts := atoms_spec (ws := .code md.1 md.2.1 md.2.2.1 md.2.2.2 :: gw) B.pre
  have hown : s.vm.findClass md.1.cls = some m.cls := findClass_of_methodNamed B.named
  have C : Cx G (p, e, s, m, (as.map (cv (gp G))).toArray, below, meth, c) md := ⟨B.exec, B.bytes, hml, hown, fun w hw => hts w (List.mem_cons_of_mem _ hw), B.returns, B.notSynchronized, hK, hG⟩
  have hl := lv_entry (as.map (cv (gp G))) (n := md.2.2.1) (by rw [lo1_len]; exact hlen)
  rw [lg_entry_eq]
  refine h (p, e, s, m, (as.map (cv (gp G))).toArray, below, meth, c) sz hsz C hM (fun v hv => by cases hv) (fun v hv => ?_) s.heap [] _ hP va_S.rf ⟨hl.1, hl.2.1, fun i v hi => ?_⟩
  · unfold lo0 at hv
    rcases List.mem_append.mp hv with h1 | h1
    · unfold lo1 at h1
      obtain ⟨w, hw, h2⟩ := List.mem_flatMap.mp h1
      split at h2
      · simp at h2; rw [h2]; exact hs w hw
      · simp at h2; rw [h2]; exact hs w hw
    · cases (List.mem_replicate.mp h1).2
  · have hi' : (lo1 as)[i]? = some (some v) := by
      unfold lo0 at hi
      by_cases hlt : i < (lo1 as).length
      · rwa [List.getElem?_append_left hlt] at hi
      · rw [List.getElem?_append_right (by omega)] at hi
        have := List.mem_of_getElem? hi
        cases (List.mem_replicate.mp this).2
    have := lo1_args (G := G) 0 i v hi'
    rw [Nat.zero_add] at this
    exact hl.2.2 _ this
theorem xr_widen (k1 k2 : Nat) (h1 : cs ≤ k1) (h2 : sl ≤ k2) (kk : CX G K md (R, A, k1, k2) pc lo st M F) : CX G K md (R, A, cs, sl) pc lo st M F := fun C hM hs hl H locs ls hP hS hL => W.widen (k := k1) (n := k2) h1 h2 (kk C hM hs hl H locs ls hP hS hL)
/-- the end of such a method in the bigger world -/
theorem xr_retN {Q : Gx → Int → Mem → Prop} (d : decode md.2.1 pc = .ok (.ireturn, 1)) (hr : md.2.2.2 = some .int) (hG : Gr G G1) (hA : AZ G1 K (Az G sz)) (h1 : cs ≤ mc) (h2 : sl ≤ ms) (T : Q G1 x M) : CX G1 K md (R, Az G sz, cs, sl) pc lo [vI x] M (MQ (kb K) (QmN G sz Q) (ka K) (ks K) mc ms (Az G sz)) := by
  refine xr_widen mc ms h1 h2 ?_
  intro C hM hs
  have hx : inI x := hs _ List.mem_cons_self
  refine xr_ret (Qc := QmN G sz Q) (mc := mc) (ms := ms) d hr rfl rfl rfl (fun H locs t C' hM' hP hS ht hW => ?_) C hM hs
  refine ⟨⟨G1, x, M, hG, hA.1, C'.2.2.2.2.2.2.2.2, rfl, hx, T, hM', by rw [ht]; exact hP, KU_movedZ (A := Az G sz) (locs := locs) C'.2.2.2.2.2.2.2.1 hA.2.2 hW (by rw [ht]; exact hS)⟩, hS.F ht⟩
theorem OkN_mono {as : List V} {Q1 Q2 : Gx → Int → Mem → Prop} (h : OkN G n md as M mc ms Q1) (hq : ∀ G1 x M1, Q1 G1 x M1 → Q2 G1 x M1) : OkN G n md as M mc ms Q2 := by
  intro hM hs hG sz
  have h0 := h hM hs hG sz
  intro p e ha hc hk s m args below hf happ hP hK
  obtain ⟨k, o, h1, h2, h3, h4, h5⟩ := h0 p e ha hc hk s m args below hf happ hP hK
  refine ⟨k, o, h1, h2, h3, ?_, h5⟩
  obtain ⟨⟨G1, x, M1, a1, a2, a3, a4, a5, a6, a7⟩, a8⟩ := h4
  exact ⟨⟨G1, x, M1, a1, a2, a3, a4, a5, hq _ _ _ a6, a7⟩, a8⟩
theorem xr_callN {md' : MD} {ci idx o na : Nat} {as stk : List V} {Q1 : Gx → Int → Mem → Prop} (hA : AZ G K A) (hR : n + 1 ≤ R.frames ∧ 119 + 120 * n ≤ R.locals ∧ cs + mc ≤ R.cells ∧ sl + ms ≤ R.slots) (d : decode md.2.1 pc = .ok (.invokevirtual idx, 3)) (hl : Cond.methodLink md.1.cls idx md'.1 ∈ gw) (hm : Mi md' ci na) (ho : oc o = ci) (hn : as.length = na) (hk : stk = as.reverse ++ vO o :: st) (hw : (st.map vcat).sum ≤ 8) (h : OkN G n md' (vO o :: as) M mc ms Q1)
    (kk : ∀ (G1 : Gx) (x : Int) (M1 : Mem), Gr G G1 → AZ G1 K A → Q1 G1 x M1 → CX G1 K md (R, A, cs + mc, sl + ms) (pc + 3) lo (vI x :: st) M1 F) : CX G K md (R, A, cs, sl) pc lo stk M F := by
  intro C hM hs hlo H locs ls hP hS hL
  subst hk
  obtain ⟨m1, m2, m3, m4, m5, m6, m7, q, m8, m9⟩ := hm
  have hs1 : okS G as := fun v hv => hs v (List.mem_append_left _ (List.mem_reverse.mpr hv))
  have hs2 : okV G (vO o) := hs _ (List.mem_append_right _ List.mem_cons_self)
  have hs3 : okS G st := fun v hv => hs v (List.mem_append_right _ (List.mem_cons_of_mem _ hv))
  have hlive := live_of hs2 ho m8
  obtain ⟨q0, hq, hws⟩ := ws_mem (M := M) hlive
  rw [ce_obj, ho] at hws
  have hts := C.2.2.2.2.1
  have hKU := C.2.2.2.2.2.2.2.1
  have hG := C.2.2.2.2.2.2.2.2
  have hMet := h hM (okS_cons.mpr ⟨hs2, hs1⟩) hG H.size
  have hcw : CallW R (ks K) (ka K) md.1.cls md'.1.cls idx md'.1 md'.2.1 md'.2.2.1 md'.2.2.2 (.code md'.1 md'.2.1 md'.2.2.1 md'.2.2.2 :: gw) { frames := n, cells := mc, slots := ms, locals := 120 * n } mc ms na :=
    ⟨callB_of na hts (gw_good m4) rfl rfl rfl (hts _ m3) (hts _ hl) ⟨m5.1, m5.2, m6⟩ ⟨hR.1, by have := hR.2.1; show 8 + (md'.2.2.1 + 11) + 120 * n ≤ _; omega⟩, hts _ m1, hts _ m2⟩
  have hpre : PreV (ks K) H md'.1.cls (gp G (o, 99)) (va_Pc ((vO o :: as).map (cv (gp G))) (fun U => U.heap.size = H.size ∧ Pic G M U.heap ∧ KU G U)) (as.map (cv (gp G))) :=
    ⟨blindZ, by rw [← m9]; exact va_recv hKU.1 hP m8 hws, fun U hU hW => ⟨rfl, by rw [hU], by rw [hU]; exact hP, KU_movedZ hKU hA.2.2 hW (by rw [hU]; exact hS)⟩⟩
  have hrun := va_runV (e := ke K) (below := kb K) (meth := kt K) (locs := locs) (cells := cs) (slots := sl) (rest := st.map (cv (gp G))) (g := F0 (km K) pc ls ((as.reverse ++ vO o :: st).map (cv (gp G)))) ⟨C.1, C.2.1, C.2.2.1, C.2.2.2.1, hts⟩ hMet hcw hpre rfl (by rw [List.length_map]; exact hn) hL.1 (by show List.map _ _ = _; rw [List.map_append, List.map_reverse, List.map_cons]; rfl) (lv_room (by rw [sum_cat]; exact hw)) d ⟨hR.2.2.1, hR.2.2.2⟩
  have hAz : ∀ x, Az G H.size x → A x := fun x hx => hx.elim (hA.1 x) (fun z => hA.2.1 x (Nat.le_trans hS.1 z))
  intro T hT X
  obtain ⟨v, st₀, t, T', L, h0, X', hLo, e1, e2, ⟨⟨G1, x, M1, hGr, hg1, hG1, hv, hx, hq1, hM1, hP1, hKU1⟩, hz, hk⟩, stp⟩ := hrun T hT X
  cases hv
  rw [h0] at hz hk
  have hA1 : ∀ q, gA G1 q → A q := fun q hq => hAz q (hg1 q hq)
  have := kk G1 x M1 hGr (Gr_AZ hGr hA hA1) hq1 (Gr_Cx hGr C hA hA1 hG1) hM1 (okS_cons.mpr ⟨hx, Gr_okS hGr hs3⟩) (Gr_okL hGr hlo) T'.heap (locs ++ L) ls (by rw [e1]; exact hP1) ⟨Nat.le_trans hS.1 (by rw [e1]; exact hz), fun x h1 h2 => by rw [e1, hk x (Nat.lt_of_lt_of_le h1 hS.1) (fun z => h2 (hAz x z))]; exact hS.2.1 x h1 h2, fun x hx => by
      rcases List.mem_append.mp hx with h | h
      · exact hS.2.2 x h
      · exact hAz _ (hLo x h)⟩ (Gr_HL hGr hL hlo)
  rw [List.map_cons, Gr_stk hGr hs3, hGr.gl] at this
  obtain ⟨t2, a1, b1⟩ := this T' rfl X'
  exact ⟨t2, stp t2 a1, b1⟩
end OKN
