/-! ===== calls over the wider judgement ===== -/
section RC2
variable {G : Gx} {K : Kx} {md : MD} {Z : Zx} {n pc : Nat} {lo : List (Option V)} {st : List V} {M : Mem} {Q : State → Prop}
theorem xw_call {p : Program} {l : Launch} {e : Env} {R : Room} {s : State} {m : MethodId} {args : Array Value} {below : List Frame} {meth : Method} {c : Code} {H : Heap} {locs : List Loc} {ls : Array Slot} {st0 rest : List Value} {a : Array Value} {H0 : Heap} {Q0 : State → Prop} {Q1 : Option V → Mem → Prop} {A : Nat → Prop} {cs sl : Nat}
    (hr : va_Run p l e R s m args below meth c H locs cs sl 0 0 (F0 m pc ls st0) rest (Qm G Q1 a) (gA G)) (hZ : ∀ q, gA G q → A q) (hS : va_S A H0 H locs)
    (kk : ∀ (r : Option V) (M1 : Mem) (H1 : Heap) (locs1 : List Loc), Q1 r M1 → okM G M1 → (∀ v, r = some v → okV G v) → Pic G M1 H1 → va_S A H0 H1 locs1 → W p l e R s m args below meth c H1 locs1 cs sl Q0 (F0 m (pc + 3) ls ((r.map (cv (gp G))).toList ++ rest))) :
    W p l e R s m args below meth c H locs cs sl Q0 (F0 m pc ls st0) := by
  intro T hT X
  obtain ⟨v, st₀, t, T', L, h0, X', hL, e1, e2, ⟨⟨r, M1, hv, hq, hM, hok, hP, hKU⟩, hz, hk⟩, stp⟩ := hr T hT X
  cases hv
  rw [h0] at hz hk
  obtain ⟨t2, a1, b1⟩ := kk r M1 T'.heap (locs ++ L) hq hM hok (by rw [e1]; exact hP)
    ⟨Nat.le_trans hS.1 (by rw [e1]; exact hz), fun q h1 h2 => by rw [e1, hk q (Nat.lt_of_lt_of_le h1 hS.1) (fun z => h2 (hZ q z))]; exact hS.2.1 q h1 h2, fun q hq => by
      rcases List.mem_append.mp hq with h | h
      · exact hS.2.2 q h
      · exact hZ _ (hL q h)⟩ T' rfl X'
  exact ⟨t2, stp t2 a1, b1⟩
/-- there is room for a call of depth n -/
def RmZ (n : Nat) (Z : Zx) : Prop := n + 1 ≤ Z.1.frames ∧ 119 + 120 * n ≤ Z.1.locals ∧ Z.2.2.1 ≤ Z.1.cells ∧ Z.2.2.2 ≤ Z.1.slots
theorem KU_movedZ {s U : State} {locs : List Loc} {A : Nat → Prop} (h : KU G s) (hZ : ∀ q, q < s.heap.size → A q → gA G q) (hW : s.WarmedH U.vm) (hS : va_S A s.heap U.heap locs) : KU G U :=
  KU_moved (locs := []) h hW ⟨hS.1, fun q h1 h2 => hS.2.1 q h1 (fun z => h2 (hZ q h1 z)), fun l hl => absurd hl List.not_mem_nil⟩
theorem xr_callV {md' : MD} {ci idx o na : Nat} {as stk : List V} {Q1 : Option V → Mem → Prop} (hZ : ∀ q, gA G q → Z.2.1 q) (hZ' : ∀ q, q < (ks K).heap.size → Z.2.1 q → gA G q) (hR : RmZ n Z) (d : decode md.2.1 pc = .ok (.invokevirtual idx, 3)) (hl : Cond.methodLink md.1.cls idx md'.1 ∈ gw) (hm : Mi md' ci na) (ho : oc o = ci) (hn : as.length = na) (hk : stk = as.reverse ++ vO o :: st) (hw : (st.map vcat).sum ≤ 8) (h : Ok G n md' (vO o :: as) M Q1)
    (kk : ∀ (r : Option V) (M1 : Mem), Q1 r M1 → CX G K md Z (pc + 3) lo (r.toList ++ st) M1 Q) : CX G K md Z pc lo stk M Q := by
  intro C hM hs hlo H locs ls hP hS hL
  subst hk
  obtain ⟨m1, m2, m3, m4, m5, m6, m7, q, m8, m9⟩ := hm
  have hs1 : okS G as := fun v hv => hs v (List.mem_append_left _ (List.mem_reverse.mpr hv))
  have hs2 : okV G (vO o) := hs _ (List.mem_append_right _ List.mem_cons_self)
  have hs3 : okS G st := fun v hv => hs v (List.mem_append_right _ (List.mem_cons_of_mem _ hv))
  have hlive := live_of hs2 ho m8
  obtain ⟨q0, hq, hws⟩ := ws_mem (M := M) hlive
  rw [ce_obj, ho] at hws
  have hts := C.2.2.2.2.1
  have hKU := C.2.2.2.2.2.2.2.1
  have hG := C.2.2.2.2.2.2.2.2
  have hMet := h hM (okS_cons.mpr ⟨hs2, hs1⟩) hG
  have hroom : (rm n).frames + 1 ≤ Z.1.frames ∧ 8 + (md'.2.2.1 + 11) + (rm n).locals ≤ Z.1.locals := ⟨hR.1, by have := hR.2.1; show 8 + (md'.2.2.1 + 11) + 120 * n ≤ _; omega⟩
  have hcw : CallW Z.1 (ks K) (ka K) md.1.cls md'.1.cls idx md'.1 md'.2.1 md'.2.2.1 md'.2.2.2 (.code md'.1 md'.2.1 md'.2.2.1 md'.2.2.2 :: gw) (rm n) 0 0 na :=
    ⟨callB_of na hts (gw_good m4) rfl rfl rfl (hts _ m3) (hts _ hl) ⟨m5.1, m5.2, m6⟩ hroom, hts _ m1, hts _ m2⟩
  have hpre : PreV (ks K) H md'.1.cls (gp G (o, 99)) (va_Pc ((vO o :: as).map (cv (gp G))) (fun U => Pic G M U.heap ∧ KU G U)) (as.map (cv (gp G))) :=
    ⟨blind, by rw [← m9]; exact va_recv hKU.1 hP m8 hws, fun U hU hW => ⟨rfl, by rw [hU]; exact hP, KU_movedZ hKU hZ' hW (by rw [hU]; exact hS)⟩⟩
  have hrun := va_runV (e := ke K) (below := kb K) (meth := kt K) (locs := locs) (cells := Z.2.2.1) (slots := Z.2.2.2) (rest := st.map (cv (gp G))) (g := F0 (km K) pc ls ((as.reverse ++ vO o :: st).map (cv (gp G)))) ⟨C.1, C.2.1, C.2.2.1, C.2.2.2.1, hts⟩ hMet hcw hpre rfl (by rw [List.length_map]; exact hn) hL.1 (by show List.map _ _ = _; rw [List.map_append, List.map_reverse, List.map_cons]; rfl) (lv_room (by rw [sum_cat]; exact hw)) d ⟨hR.2.2.1, hR.2.2.2⟩
  refine xw_call hrun hZ hS (fun r M1 H1 locs1 g1 g2 g3 g4 g5 => ?_)
  have := kk r M1 g1 C g2 (fun v hv => by
    rcases List.mem_append.mp hv with h | h
    · cases r with
      | none => cases h
      | some w => rw [List.mem_singleton.mp h]; exact g3 w rfl
    · exact hs3 v h) hlo H1 locs1 ls g4 g5 hL
  rw [List.map_append] at this
  cases r <;> exact this
/-- the end of a method over the wider judgement: what F asks of an end -/
theorem xr_ret {x : Int} (d : decode md.2.1 pc = .ok (.ireturn, 1)) (hr : md.2.2.2 = some .int) {Qc : Array Value → State → Outcome → State → Prop} {mc ms : Nat} (hF : Q = MQ (kb K) Qc (ka K) (ks K) mc ms Z.2.1) (hc : Z.2.2.1 = mc) (hs' : Z.2.2.2 = ms) (T : ∀ (H : Heap) (locs : List Loc) (t : State), Cx G K md → okM G M → Pic G M H → va_S Z.2.1 (ks K).heap H locs → t.heap = H → (ks K).WarmedH t.vm → Qc (ka K) (ks K) (.returned (some (.int (Int32.ofInt x)))) t) : CX G K md Z pc lo [vI x] M Q := by
  intro C hM hs hl H locs ls hP hS hL
  subst hF
  subst hc
  subst hs'
  exact W.iret C.1 C.2.1 (C.2.2.2.2.2.1.trans hr) (fun t ht hW => T H locs t C hM hP hS ht hW) hS.2.2 d C.2.2.2.2.2.2.1
end RC2
