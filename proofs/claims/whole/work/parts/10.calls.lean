section RC
variable {G : Gx} {K : Kx} {md : MD} {n pc : Nat} {lo : List (Option V)} {st : List V} {M : Mem} {Q : Option V → Mem → Prop}
/-! ends -/
theorem q_end {H : Heap} {locs : List Loc} {r : Option V} (C : Cx G K md) (hM : okM G M) (hr : ∀ v, r = some v → okV G v) (hP : Pic G M H) (hS : va_S (gA G) (ks K).heap H locs) (T : Q r M) : ∀ t : State, t.heap = H → (ks K).WarmedH t.vm → Qm G Q (ka K) (ks K) (.returned (r.map (cv (gp G)))) t :=
  fun t ht hW => ⟨⟨r, M, rfl, T, hM, hr, by rw [ht]; exact hP, KU_moved C.2.2.2.2.2.2.2.1 hW (by rw [ht]; exact hS)⟩, hS.F ht⟩
theorem r_ireturn {x : Int} (d : decode md.2.1 pc = .ok (.ireturn, 1)) (hr : md.2.2.2 = some .int) (T : Q (some (vI x)) M) : CW G K md n pc lo [vI x] M Q := by
  intro C hM hs hl H locs ls hP hS hL
  have h1 := okS_cons.mp hs
  exact W.iret C.1 C.2.1 (C.2.2.2.2.2.1.trans hr) (q_end (r := some (vI x)) C hM (fun v e => by cases e; exact h1.1) hP hS T) hS.2.2 d C.2.2.2.2.2.2.1
theorem r_zreturn {x : Int} (d : decode md.2.1 pc = .ok (.ireturn, 1)) (hr : md.2.2.2 = some .boolean) (h01 : x = 0 ∨ x = 1) (T : Q (some (vI x)) M) : CW G K md n pc lo [vI x] M Q := by
  intro C hM hs hl H locs ls hP hS hL
  have h1 := okS_cons.mp hs
  exact W.zret C.1 C.2.1 (C.2.2.2.2.2.1.trans hr) (by rcases h01 with rfl | rfl <;> rfl) (q_end (r := some (vI x)) C hM (fun v e => by cases e; exact h1.1) hP hS T) hS.2.2 d C.2.2.2.2.2.2.1
theorem r_lreturn {x : Int} (d : decode md.2.1 pc = .ok (.lreturn, 1)) (hr : md.2.2.2 = some .long) (T : Q (some (vL x)) M) : CW G K md n pc lo [vL x] M Q := by
  intro C hM hs hl H locs ls hP hS hL
  have h1 := okS_cons.mp hs
  exact W.lret C.1 C.2.1 (C.2.2.2.2.2.1.trans hr) (q_end (r := some (vL x)) C hM (fun v e => by cases e; exact h1.1) hP hS T) hS.2.2 d C.2.2.2.2.2.2.1
theorem r_areturn {x : Option (Nat × Nat)} {cn : String} (d : decode md.2.1 pc = .ok (.areturn, 1)) (hr : md.2.2.2 = some (.object cn)) (T : Q (some (vR x)) M) : CW G K md n pc lo [vR x] M Q := by
  intro C hM hs hl H locs ls hP hS hL
  have h1 := okS_cons.mp hs
  exact W.aret C.1 C.2.1 (C.2.2.2.2.2.1.trans hr) (Or.inl ⟨cn, rfl⟩) (v := cv (gp G) (vR x)) (by cases x with
    | none => exact Or.inl rfl
    | some c => exact Or.inr ⟨_, rfl⟩) (q_end (r := some (vR x)) C hM (fun v e => by cases e; exact h1.1) hP hS T) hS.2.2 d C.2.2.2.2.2.2.1
theorem r_return (d : decode md.2.1 pc = .ok (.return_, 1)) (hr : md.2.2.2 = none) (T : Q none M) : CW G K md n pc lo [] M Q := by
  intro C hM hs hl H locs ls hP hS hL
  exact W.vret C.1 C.2.1 (C.2.2.2.2.2.1.trans hr) (q_end (r := none) C hM (fun v e => by cases e) hP hS T) hS.2.2 d C.2.2.2.2.2.2.1
/-! a String constant -/
theorem r_lds {idx j : Nat} (d : decode md.2.1 pc = .ok (.ldc idx, 2)) (h : (md.1.cls, idx, j) ∈ strR) (kk : CW G K md n (pc + 2) lo (vO (1000 + j) :: st) M Q) : CW G K md n pc lo st M Q := by
  intro C hM hs hl H locs ls hP hS hL
  have hK := C.2.2.2.2.2.2.2.1.2.2.1 _ h
  exact va_ldcS C.1 C.2.1 C.2.2.2.1 hK d (kk C hM (okS_cons.mpr ⟨Or.inr (Nat.le_add_right _ _), hs⟩) hl H locs ls hP hS hL)
/-! null or not -/
theorem r_ifnull {x : Option (Nat × Nat)} {off : Int} {tgt : Nat} (d : decode md.2.1 pc = .ok (.ifnull off, 3)) (ht : (pc : Int) + off = (tgt : Int)) (kt : x = none → CW G K md n tgt lo st M Q) (kf : ∀ c, x = some c → CW G K md n (pc + 3) lo st M Q) : CW G K md n pc lo (vR x :: st) M Q := by
  intro C hM hs hl H locs ls hP hS hL
  have h1 := okS_cons.mp hs
  cases x with
  | none => exact lv_ifnullN C.1 C.2.1 d ht (kt rfl C hM h1.2 hl H locs ls hP hS hL)
  | some c => exact lv_ifnull C.1 C.2.1 d (kf c rfl C hM h1.2 hl H locs ls hP hS hL)
theorem r_ifnonnull {x : Option (Nat × Nat)} {off : Int} {tgt : Nat} (d : decode md.2.1 pc = .ok (.ifnonnull off, 3)) (ht : (pc : Int) + off = (tgt : Int)) (kt : ∀ c, x = some c → CW G K md n tgt lo st M Q) (kf : x = none → CW G K md n (pc + 3) lo st M Q) : CW G K md n pc lo (vR x :: st) M Q := by
  intro C hM hs hl H locs ls hP hS hL
  have h1 := okS_cons.mp hs
  cases x with
  | none => exact lv_ifnonnullN C.1 C.2.1 d (kf rfl C hM h1.2 hl H locs ls hP hS hL)
  | some c => exact lv_ifnonnull C.1 C.2.1 d ht (kt c rfl C hM h1.2 hl H locs ls hP hS hL)
/-! a long compared, then a branch -/
theorem lcmp_cases {x y : Int} (hx : inL x) (hy : inL y) : (x < y ∧ lg_cmp (Int64.ofInt x) (Int64.ofInt y) = Int32.ofInt (-1)) ∨ (x = y ∧ lg_cmp (Int64.ofInt x) (Int64.ofInt y) = Int32.ofInt 0) ∨ (y < x ∧ lg_cmp (Int64.ofInt x) (Int64.ofInt y) = Int32.ofInt 1) := by
  unfold lg_cmp
  rcases Int.lt_trichotomy x y with h | h | h
  · refine Or.inl ⟨h, ?_⟩
    have h1 : ¬ Int64.ofInt y < Int64.ofInt x := by rw [i64_lt hy hx]; omega
    have h2 : ¬ Int64.ofInt x = Int64.ofInt y := by rw [i64_eq hx hy]; omega
    simp [h1, h2]
    try rfl
  · refine Or.inr (Or.inl ⟨h, ?_⟩)
    subst h
    have h1 : ¬ Int64.ofInt x < Int64.ofInt x := by rw [i64_lt hx hx]; omega
    simp [h1]
    try rfl
  · refine Or.inr (Or.inr ⟨h, ?_⟩)
    have h1 : Int64.ofInt y < Int64.ofInt x := (i64_lt hy hx).mpr h
    simp [h1]
    try rfl
/-- the sign of a comparison of longs -/
def sg (x y : Int) : Int := if x < y then -1 else if x = y then 0 else 1
theorem r_lcmp {x y : Int} (d : decode md.2.1 pc = .ok (.lcmp, 1)) (kk : CW G K md n (pc + 1) lo (vI (sg x y) :: st) M Q) : CW G K md n pc lo (vL y :: vL x :: st) M Q := by
  intro C hM hs hl H locs ls hP hS hL
  have h1 := okS_cons.mp hs
  have h2 := okS_cons.mp h1.2
  have hin : inI (sg x y) := by unfold sg inI; split <;> (try split) <;> omega
  have kk' := kk C hM (okS_cons.mpr ⟨hin, h2.2⟩) hl H locs ls hP hS hL
  refine W.lcmp C.1 C.2.1 d ?_
  have e : lg_cmp (Int64.ofInt x) (Int64.ofInt y) = Int32.ofInt (sg x y) := by
    unfold sg
    rcases lcmp_cases h2.1 h1.1 with ⟨a, b⟩ | ⟨a, b⟩ | ⟨a, b⟩
    · rw [if_pos a, b]
    · rw [if_neg (by omega), if_pos a, b]
    · rw [if_neg (by omega), if_neg (by omega), b]
  rw [e]
  exact kk'
/-! calls -/
theorem w_call {p : Program} {l : Launch} {e : Env} {R : Room} {s : State} {m : MethodId} {args : Array Value} {below : List Frame} {meth : Method} {c : Code} {H : Heap} {locs : List Loc} {ls : Array Slot} {st0 rest : List Value} {a : Array Value} {H0 : Heap} {Q0 : State → Prop} {Q1 : Option V → Mem → Prop}
    (hr : va_Run p l e R s m args below meth c H locs 0 0 0 0 (F0 m pc ls st0) rest (Qm G Q1 a) (gA G)) (hS : va_S (gA G) H0 H locs)
    (kk : ∀ (r : Option V) (M1 : Mem) (H1 : Heap) (locs1 : List Loc), Q1 r M1 → okM G M1 → (∀ v, r = some v → okV G v) → Pic G M1 H1 → va_S (gA G) H0 H1 locs1 → W p l e R s m args below meth c H1 locs1 0 0 Q0 (F0 m (pc + 3) ls ((r.map (cv (gp G))).toList ++ rest))) :
    W p l e R s m args below meth c H locs 0 0 Q0 (F0 m pc ls st0) := by
  intro T hT X
  obtain ⟨v, st₀, t, T', L, h0, X', hL, e1, e2, ⟨⟨r, M1, hv, hq, hM, hok, hP, hKU⟩, hz, hk⟩, st⟩ := hr T hT X
  cases hv
  rw [h0] at hz hk
  obtain ⟨t2, a1, b1⟩ := kk r M1 T'.heap (locs ++ L) hq hM hok (by rw [e1]; exact hP)
    ⟨Nat.le_trans hS.1 (by rw [e1]; exact hz), fun q h1 h2 => by rw [e1, hk q (Nat.lt_of_lt_of_le h1 hS.1) h2]; exact hS.2.1 q h1 h2, fun q hq => by
      rcases List.mem_append.mp hq with h | h
      · exact hS.2.2 q h
      · exact hL q h⟩ T' rfl X'
  exact ⟨t2, st t2 a1, b1⟩
theorem gw_good {x : Cond} (h : x ∈ gw) : GoodIn gw (x :: gw) := by
  intro w hw
  rcases List.mem_cons.mp hw with rfl | hw
  · exact ⟨h, good_of_word (List.mem_filter.mp h).2⟩
  · exact ⟨hw, good_of_word (List.mem_filter.mp hw).2⟩
theorem blind {as : List V} : FrameBlind (va_Pc (as.map (cv (gp G))) (fun U => Pic G M U.heap ∧ KU G U)) := fun _ _ _ _ q => ⟨q.1, q.2.1, KU_call q.2.2⟩
theorem sum_cat : ((st.map (cv (gp G))).map fun v => v.category).sum = (st.map vcat).sum := by
  rw [List.map_map]
  congr 1
  apply List.map_congr_left
  intro v _
  exact cat_cv v
theorem room_ok {x : Nat} (h : x ≤ 100) : (rm n).frames + 1 ≤ (rm (n + 1)).frames ∧ 8 + (x + 11) + (rm n).locals ≤ (rm (n + 1)).locals := by
  unfold rm; constructor <;> dsimp only <;> omega
theorem r_callV {md' : MD} {ci idx o na : Nat} {as stk : List V} {Q1 : Option V → Mem → Prop} (d : decode md.2.1 pc = .ok (.invokevirtual idx, 3)) (hl : Cond.methodLink md.1.cls idx md'.1 ∈ gw) (hm : Mi md' ci na) (ho : oc o = ci) (hn : as.length = na) (hk : stk = as.reverse ++ vO o :: st) (hw : (st.map vcat).sum ≤ 8) (h : Ok G n md' (vO o :: as) M Q1)
    (kk : ∀ (r : Option V) (M1 : Mem), Q1 r M1 → CW G K md (n + 1) (pc + 3) lo (r.toList ++ st) M1 Q) : CW G K md (n + 1) pc lo stk M Q := by
  intro C hM hs hlo H locs ls hP hS hL
  subst hk
  obtain ⟨m1, m2, m3, m4, m5, m6, m7, q, m8, m9⟩ := hm
  have hs1 : okS G as := fun v hv => hs v (List.mem_append_left _ (List.mem_reverse.mpr hv))
  have hs2 : okV G (vO o) := hs _ (List.mem_append_right _ List.mem_cons_self)
  have hs3 : okS G st := fun v hv => hs v (List.mem_append_right _ (List.mem_cons_of_mem _ hv))
  have hlive := live_of hs2 ho m8
  obtain ⟨q0, hq, hws⟩ := ws_mem (M := M) hlive
  rw [ce_obj, ho] at hws
  have hts := C.2.2.2.2.1
  have hKU := C.2.2.2.2.2.2.2.1
  have hG := C.2.2.2.2.2.2.2.2
  have hMet := h hM (okS_cons.mpr ⟨hs2, hs1⟩) hG
  have hcw : CallW (rm (n + 1)) (ks K) (ka K) md.1.cls md'.1.cls idx md'.1 md'.2.1 md'.2.2.1 md'.2.2.2 (.code md'.1 md'.2.1 md'.2.2.1 md'.2.2.2 :: gw) (rm n) 0 0 na :=
    ⟨callB_of na hts (gw_good m4) rfl rfl rfl (hts _ m3) (hts _ hl) ⟨m5.1, m5.2, m6⟩ (room_ok m7), hts _ m1, hts _ m2⟩
  have hpre : PreV (ks K) H md'.1.cls (gp G (o, 99)) (va_Pc ((vO o :: as).map (cv (gp G))) (fun U => Pic G M U.heap ∧ KU G U)) (as.map (cv (gp G))) :=
    ⟨blind, by rw [← m9]; exact va_recv hKU.1 hP m8 hws, fun U hU hW => ⟨rfl, by rw [hU]; exact hP, KU_moved hKU hW (by rw [hU]; exact hS)⟩⟩
  have hrun := va_runV (e := ke K) (below := kb K) (meth := kt K) (locs := locs) (cells := 0) (slots := 0) (rest := st.map (cv (gp G))) (g := F0 (km K) pc ls ((as.reverse ++ vO o :: st).map (cv (gp G)))) ⟨C.1, C.2.1, C.2.2.1, C.2.2.2.1, hts⟩ hMet hcw hpre rfl (by rw [List.length_map]; exact hn) hL.1 (by show List.map _ _ = _; rw [List.map_append, List.map_reverse, List.map_cons]; rfl) (lv_room (by rw [sum_cat]; exact hw)) d ⟨Nat.le_refl _, Nat.le_refl _⟩
  refine w_call hrun hS (fun r M1 H1 locs1 g1 g2 g3 g4 g5 => ?_)
  have := kk r M1 g1 C g2 (fun v hv => by
    rcases List.mem_append.mp hv with h | h
    · cases r with
      | none => cases h
      | some w => rw [List.mem_singleton.mp h]; exact g3 w rfl
    · exact hs3 v h) hlo H1 locs1 ls g4 g5 hL
  rw [List.map_append] at this
  cases r <;> exact this
theorem r_callS {md' : MD} {idx na : Nat} {as stk : List V} {Q1 : Option V → Mem → Prop} (d : decode md.2.1 pc = .ok (.invokestatic idx, 3)) (hl : Cond.methodLink md.1.cls idx md'.1 ∈ gw) (hm : Ms md' na) (hn : as.length = na) (hk : stk = as.reverse ++ st) (hw : (st.map vcat).sum ≤ 8) (h : Ok G n md' as M Q1)
    (kk : ∀ (r : Option V) (M1 : Mem), Q1 r M1 → CW G K md (n + 1) (pc + 3) lo (r.toList ++ st) M1 Q) : CW G K md (n + 1) pc lo stk M Q := by
  intro C hM hs hlo H locs ls hP hS hL
  subst hk
  obtain ⟨m1, m3, m4, m5, m6, m7⟩ := hm
  have hs1 : okS G as := fun v hv => hs v (List.mem_append_left _ (List.mem_reverse.mpr hv))
  have hs3 : okS G st := fun v hv => hs v (List.mem_append_right _ hv)
  have hts := C.2.2.2.2.1
  have hKU := C.2.2.2.2.2.2.2.1
  have hG := C.2.2.2.2.2.2.2.2
  have hMet := h hM hs1 hG
  have hcw : CallB (rm (n + 1)) (ks K) (ka K) md.1.cls idx md'.1 md'.2.1 md'.2.2.1 md'.2.2.2 (.code md'.1 md'.2.1 md'.2.2.1 md'.2.2.2 :: gw) (rm n) 0 0 na ∧ (Cond.static md'.1).before (ka K) (ks K) = true :=
    ⟨callB_of na hts (gw_good m4) rfl rfl rfl (hts _ m3) (hts _ hl) ⟨m5.1, m5.2, m6⟩ (room_ok m7), hts _ m1⟩
  have hpre : PreS (ks K) H (va_Pc (as.map (cv (gp G))) (fun U => Pic G M U.heap ∧ KU G U)) (as.map (cv (gp G))) :=
    ⟨blind, fun U hU hW => ⟨rfl, by rw [hU]; exact hP, KU_moved hKU hW (by rw [hU]; exact hS)⟩⟩
  have hrun := va_runS (e := ke K) (below := kb K) (meth := kt K) (locs := locs) (cells := 0) (slots := 0) (rest := st.map (cv (gp G))) (g := F0 (km K) pc ls ((as.reverse ++ st).map (cv (gp G)))) ⟨C.1, C.2.1, C.2.2.1, C.2.2.2.1, hts⟩ hMet hcw hpre rfl (by rw [List.length_map]; exact hn) hL.1 (by show List.map _ _ = _; rw [List.map_append, List.map_reverse]) (lv_room (by rw [sum_cat]; exact hw)) d ⟨Nat.le_refl _, Nat.le_refl _⟩
  refine w_call hrun hS (fun r M1 H1 locs1 g1 g2 g3 g4 g5 => ?_)
  have := kk r M1 g1 C g2 (fun v hv => by
    rcases List.mem_append.mp hv with h | h
    · cases r with
      | none => cases h
      | some w => rw [List.mem_singleton.mp h]; exact g3 w rfl
    · exact hs3 v h) hlo H1 locs1 ls g4 g5 hL
  rw [List.map_append] at this
  cases r <;> exact this
theorem r_callN {md' : MD} {idx na : Nat} {host : String} {as stk : List V} {Q1 : Option V → Mem → Prop} (d : decode md.2.1 pc = .ok (.invokestatic idx, 3)) (hl : Cond.methodLinkNest md.1.cls idx md'.1 host ∈ nw) (hm : Ms md' na) (hn : as.length = na) (hk : stk = as.reverse ++ st) (hw : (st.map vcat).sum ≤ 8) (h : Ok G n md' as M Q1)
    (kk : ∀ (r : Option V) (M1 : Mem), Q1 r M1 → CW G K md (n + 1) (pc + 3) lo (r.toList ++ st) M1 Q) : CW G K md (n + 1) pc lo stk M Q := by
  intro C hM hs hlo H locs ls hP hS hL
  subst hk
  obtain ⟨m1, m3, m4, m5, m6, m7⟩ := hm
  have hs1 : okS G as := fun v hv => hs v (List.mem_append_left _ (List.mem_reverse.mpr hv))
  have hs3 : okS G st := fun v hv => hs v (List.mem_append_right _ hv)
  have hts := C.2.2.2.2.1
  have hKU := C.2.2.2.2.2.2.2.1
  have hG := C.2.2.2.2.2.2.2.2
  have hMet := h hM hs1 hG
  have hcw : va_CN (rm (n + 1)) (ks K) (ka K) md.1.cls idx md'.1 host md'.2.1 md'.2.2.1 md'.2.2.2 (.code md'.1 md'.2.1 md'.2.2.1 md'.2.2.2 :: gw) (rm n) 0 0 na ∧ (Cond.static md'.1).before (ka K) (ks K) = true ∧ True :=
    ⟨va_cnB na hts (gw_good m4) rfl rfl rfl (hKU.2.1 _ hl) (hts _ m3) ⟨m5.1, m5.2, m6⟩ (room_ok m7), hts _ m1, trivial⟩
  have hpre : PreS (ks K) H (va_Pc (as.map (cv (gp G))) (fun U => Pic G M U.heap ∧ KU G U)) (as.map (cv (gp G))) :=
    ⟨blind, fun U hU hW => ⟨rfl, by rw [hU]; exact hP, KU_moved hKU hW (by rw [hU]; exact hS)⟩⟩
  have hrun := va_runSN (e := ke K) (below := kb K) (meth := kt K) (locs := locs) (cells := 0) (slots := 0) (rest := st.map (cv (gp G))) (g := F0 (km K) pc ls ((as.reverse ++ st).map (cv (gp G)))) ⟨C.1, C.2.1, C.2.2.1, C.2.2.2.1, hts⟩ hMet hcw hpre rfl (by rw [List.length_map]; exact hn) hL.1 (by show List.map _ _ = _; rw [List.map_append, List.map_reverse]) (lv_room (by rw [sum_cat]; exact hw)) d ⟨Nat.le_refl _, Nat.le_refl _⟩
  refine w_call hrun hS (fun r M1 H1 locs1 g1 g2 g3 g4 g5 => ?_)
  have := kk r M1 g1 C g2 (fun v hv => by
    rcases List.mem_append.mp hv with h | h
    · cases r with
      | none => cases h
      | some w => rw [List.mem_singleton.mp h]; exact g3 w rfl
    · exact hs3 v h) hlo H1 locs1 ls g4 g5 hL
  rw [List.map_append] at this
  cases r <;> exact this
/-! the same by what is returned -/
theorem k_I {Q1 : Int → Mem → Prop} {P : List V → Mem → Prop} (kk : ∀ x M1, Q1 x M1 → P (vI x :: st) M1) : ∀ (r : Option V) (M1 : Mem), qI Q1 r M1 → P (r.toList ++ st) M1 := by
  rintro r M1 ⟨x, rfl, h⟩; exact kk x M1 h
theorem k_J {Q1 : Int → Mem → Prop} {P : List V → Mem → Prop} (kk : ∀ x M1, Q1 x M1 → P (vL x :: st) M1) : ∀ (r : Option V) (M1 : Mem), qJ Q1 r M1 → P (r.toList ++ st) M1 := by
  rintro r M1 ⟨x, rfl, h⟩; exact kk x M1 h
theorem k_R {Q1 : Option (Nat × Nat) → Mem → Prop} {P : List V → Mem → Prop} (kk : ∀ x M1, Q1 x M1 → P (vR x :: st) M1) : ∀ (r : Option V) (M1 : Mem), qR Q1 r M1 → P (r.toList ++ st) M1 := by
  rintro r M1 ⟨x, rfl, h⟩; exact kk x M1 h
theorem k_V {Q1 : Mem → Prop} {P : List V → Mem → Prop} (kk : ∀ M1, Q1 M1 → P st M1) : ∀ (r : Option V) (M1 : Mem), qV Q1 r M1 → P (r.toList ++ st) M1 := by
  rintro r M1 ⟨rfl, h⟩; exact kk M1 h
/-! a method's beginning -/
def lo1 (as : List V) : List (Option V) := as.flatMap (fun v => if vcat v = 2 then [some v, none] else [some v])
def lo0 (as : List V) (nL : Nat) : List (Option V) := lo1 as ++ List.replicate (nL - (lo1 as).length) none
theorem lo1_len {as : List V} : (lg_sl (as.map (cv (gp G)))).length = (lo1 as).length := by
  induction as with
  | nil => rfl
  | cons v as ih =>
    unfold lg_sl lo1 at ih ⊢
    rw [List.map_cons, List.flatMap_cons, List.flatMap_cons, List.length_append, List.length_append, ih, cat_cv]
    split <;> rfl
theorem lo1_args {as : List V} : ∀ (j i : Nat) (v : V), (lo1 as)[i]? = some (some v) → (j + i, cv (gp G) v) ∈ lv_args j (as.map (cv (gp G))) := by
  induction as with
  | nil => intro j i v h; cases h
  | cons w as ih =>
    intro j i v h
    have e : lo1 (w :: as) = (if vcat w = 2 then [some w, none] else [some w]) ++ lo1 as := by unfold lo1; rw [List.flatMap_cons]
    rw [e] at h
    rw [List.map_cons]
    unfold lv_args
    rw [cat_cv]
    by_cases hc : vcat w = 2
    · rw [if_pos hc] at h ⊢
      match i, h with
      | 0, h => cases h; exact List.mem_cons_self
      | 1, h => cases h
      | i + 2, h =>
        have := ih (j + 2) i v h
        rw [show j + (i + 2) = j + 2 + i by omega]
        exact List.mem_cons_of_mem _ this
    · rw [if_neg hc] at h ⊢
      match i, h with
      | 0, h => cases h; exact List.mem_cons_self
      | i + 1, h =>
        have := ih (j + 1) i v h
        rw [show j + (i + 1) = j + 1 + i by omega]
        exact List.mem_cons_of_mem _ this
theorem Ok_of {as : List V} {lo' : List (Option V)} (hp : plainName md.1.cls = true) (hlen : (lo1 as).length ≤ md.2.2.1) (e : lo0 as md.2.2.1 = lo') (h : ∀ K : Kx, CW G K md n 0 lo' [] M Q) : Ok G n md as M Q := by
  intro hM hs hG
  subst e
  refine Met.ofW (cc := md.2.1) (maxL := md.2.2.1) (ret := md.2.2.2) hp rfl ?_
  intro p e s m args below meth c s₁ B hml hv
  obtain ⟨rfl, hP, hK⟩ := hv
  have hts := atoms_spec (ws := .code md.1 md.2.1 md.2.2.1 md.2.2.2 :: gw) B.pre
  have hown : s.vm.findClass md.1.cls = some m.cls := findClass_of_methodNamed B.named
  have C : Cx G (p, e, s, m, (as.map (cv (gp G))).toArray, below, meth, c) md := ⟨B.exec, B.bytes, hml, hown, fun w hw => hts w (List.mem_cons_of_mem _ hw), B.returns, B.notSynchronized, hK, hG⟩
  have hl := lv_entry (as.map (cv (gp G))) (n := md.2.2.1) (by rw [lo1_len]; exact hlen)
  rw [lg_entry_eq]
  refine h (p, e, s, m, (as.map (cv (gp G))).toArray, below, meth, c) C hM (fun v hv => by cases hv) (fun v hv => ?_) s.heap [] _ hP va_S.rf ⟨hl.1, hl.2.1, fun i v hi => ?_⟩
  · unfold lo0 at hv
    rcases List.mem_append.mp hv with h1 | h1
    · unfold lo1 at h1
      obtain ⟨w, hw, h2⟩ := List.mem_flatMap.mp h1
      split at h2
      · simp at h2; rw [h2]; exact hs w hw
      · simp at h2; rw [h2]; exact hs w hw
    · cases (List.mem_replicate.mp h1).2
  · have hi' : (lo1 as)[i]? = some (some v) := by
      unfold lo0 at hi
      by_cases hlt : i < (lo1 as).length
      · rwa [List.getElem?_append_left hlt] at hi
      · rw [List.getElem?_append_right (by omega)] at hi
        have := List.mem_of_getElem? hi
        cases (List.mem_replicate.mp this).2
    have := lo1_args (G := G) 0 i v hi'
    rw [Nat.zero_add] at this
    exact hl.2.2 _ this
theorem Ok_mono {as : List V} {Q1 : Option V → Mem → Prop} (h : Ok G n md as M Q1) (hq : ∀ r M1, Q1 r M1 → Q r M1) : Ok G n md as M Q := by
  intro hM hs hG
  have h0 := h hM hs hG
  intro p e ha hc hk s m args below hf happ hP hK
  obtain ⟨k, o, h1, h2, h3, h4, h5⟩ := h0 p e ha hc hk s m args below hf happ hP hK
  refine ⟨k, o, h1, h2, h3, ?_, h5⟩
  obtain ⟨⟨r, M1, a1, a2, a3⟩, a4⟩ := h4
  exact ⟨⟨r, M1, a1, hq r M1 a2, a3⟩, a4⟩
theorem OkI_mono {as : List V} {Q1 Q2 : Int → Mem → Prop} (h : OkI G n md as M Q1) (hq : ∀ x M1, Q1 x M1 → Q2 x M1) : OkI G n md as M Q2 := Ok_mono h (fun _ M1 ⟨x, e, h⟩ => ⟨x, e, hq x M1 h⟩)
theorem OkJ_mono {as : List V} {Q1 Q2 : Int → Mem → Prop} (h : OkJ G n md as M Q1) (hq : ∀ x M1, Q1 x M1 → Q2 x M1) : OkJ G n md as M Q2 := Ok_mono h (fun _ M1 ⟨x, e, h⟩ => ⟨x, e, hq x M1 h⟩)
theorem OkR_mono {as : List V} {Q1 Q2 : Option (Nat × Nat) → Mem → Prop} (h : OkR G n md as M Q1) (hq : ∀ x M1, Q1 x M1 → Q2 x M1) : OkR G n md as M Q2 := Ok_mono h (fun _ M1 ⟨x, e, h⟩ => ⟨x, e, hq x M1 h⟩)
theorem OkV_mono {as : List V} {Q1 Q2 : Mem → Prop} (h : OkV G n md as M Q1) (hq : ∀ M1, Q1 M1 → Q2 M1) : OkV G n md as M Q2 := Ok_mono h (fun _ M1 ⟨e, h⟩ => ⟨e, hq M1 h⟩)
/-- what is known of memory and arguments may be used -/
theorem Ok_use {as : List V} (h : okM G M → okS G as → Ok G n md as M Q) : Ok G n md as M Q := fun hM hs hG => h hM hs hM hs hG
theorem CW_use (h : okM G M → okS G st → okL G lo → CW G K md n pc lo st M Q) : CW G K md n pc lo st M Q := fun C hM hs hl => h hM hs hl C hM hs hl
theorem CW_mono {Q1 : Option V → Mem → Prop} (h : CW G K md n pc lo st M Q) (e : Q = Q1) : CW G K md n pc lo st M Q1 := e ▸ h
/-! switches -/
theorem r_tsw {x dflt low hi : Int} {offs : Array Int} {len td : Nat} {tg : List Nat} (d : decode md.2.1 pc = .ok (.tableswitch dflt low hi offs, len)) (hd : (pc : Int) + dflt = (td : Int)) (ho : offs.toList.map (fun o => (pc : Int) + o) = tg.map Int.ofNat) (hh : hi = low + tg.length - 1)
    (kout : (x < low ∨ hi < x) → CW G K md n td lo st M Q) (kin : ∀ (j t : Nat), tg[j]? = some t → x = low + j → CW G K md n t lo st M Q) : CW G K md n pc lo (vI x :: st) M Q := by
  intro C hM hs hl H locs ls hP hS hL
  have h1 := okS_cons.mp hs
  have hx : inI x := h1.1
  by_cases hr : x < low ∨ hi < x
  · exact lv_tableOut C.1 C.2.1 d (by rw [i32_id hx]; exact hr) hd (kout hr C hM h1.2 hl H locs ls hP hS hL)
  · have hj : (x - low).toNat < tg.length := by omega
    obtain ⟨t, ht⟩ : ∃ t, tg[(x - low).toNat]? = some t := ⟨_, List.getElem?_eq_getElem hj⟩
    have h2 : (offs.toList.map (fun o => (pc : Int) + o))[(x - low).toNat]? = some (t : Int) := by rw [ho, List.getElem?_map, ht]; rfl
    rw [List.getElem?_map] at h2
    cases h3 : offs.toList[(x - low).toNat]? with
    | none => rw [h3] at h2; cases h2
    | some off =>
      rw [h3] at h2
      have h4 : (pc : Int) + off = (t : Int) := Option.some.inj h2
      refine lv_tableIn C.1 C.2.1 d (by rw [i32_id hx]; omega) (by rw [i32_id hx]; omega) (off := off) ?_ h4 (kin _ t ht (by omega) C hM h1.2 hl H locs ls hP hS hL)
      rw [i32_id hx, ← Array.getElem?_toList]
      exact h3
/-! Math -/
theorem r_max {x y : Int} {idx : Nat} (d : decode md.2.1 pc = .ok (.invokestatic idx, 3)) (w1 : Cond.methodLink md.1.cls idx Lib.Math.max.name ∈ gw) (w2 : Cond.static Lib.Math.max.name ∈ gw) (w3 : Cond.initialized "java/lang/Math" ∈ gw) (w4 : Cond.code Lib.Math.max.name Lib.Math.max.code 2 (some .int) ∈ gw) (hw : (st.map vcat).sum ≤ 8)
    (kk : CW G K md (n + 1) (pc + 3) lo (vI (if x < y then y else x) :: st) M Q) : CW G K md (n + 1) pc lo (vI y :: vI x :: st) M Q := by
  intro C hM hs hl H locs ls hP hS hL
  have h1 := okS_cons.mp hs
  have h2 := okS_cons.mp h1.2
  have hy : inI y := h1.1
  have hx : inI x := h2.1
  have hts := C.2.2.2.2.1
  refine va_mmax C.1 C.2.1 (C.2.2.1.trans hL.1.symm) C.2.2.2.1 (hts _ w1) (hts _ w2) (hts _ w3) (hts _ w4) (by unfold rm; dsimp only; omega) (by rw [sum_cat]; unfold rm; dsimp only; omega) (Nat.le_refl _) (Nat.le_refl _) d ?_
  have kk' := kk C hM (okS_cons.mpr ⟨show okV G (vI (if x < y then y else x)) from by split <;> assumption, h2.2⟩) hl H locs ls hP hS hL
  have e : (if Int32.ofInt x < Int32.ofInt y then Int32.ofInt y else Int32.ofInt x) = Int32.ofInt (if x < y then y else x) := by
    by_cases h : x < y
    · rw [if_pos h, if_pos ((i32_lt hx hy).mpr h)]
    · rw [if_neg h, if_neg (fun z => h ((i32_lt hx hy).mp z))]
  rw [e]; exact kk'
theorem r_min {x y : Int} {idx : Nat} (d : decode md.2.1 pc = .ok (.invokestatic idx, 3)) (w1 : Cond.methodLink md.1.cls idx Lib.Math.min.name ∈ gw) (w2 : Cond.static Lib.Math.min.name ∈ gw) (w3 : Cond.initialized "java/lang/Math" ∈ gw) (w4 : Cond.code Lib.Math.min.name Lib.Math.min.code 2 (some .int) ∈ gw) (hw : (st.map vcat).sum ≤ 8)
    (kk : CW G K md (n + 1) (pc + 3) lo (vI (if y < x then y else x) :: st) M Q) : CW G K md (n + 1) pc lo (vI y :: vI x :: st) M Q := by
  intro C hM hs hl H locs ls hP hS hL
  have h1 := okS_cons.mp hs
  have h2 := okS_cons.mp h1.2
  have hy : inI y := h1.1
  have hx : inI x := h2.1
  have hts := C.2.2.2.2.1
  refine va_mmin C.1 C.2.1 (C.2.2.1.trans hL.1.symm) C.2.2.2.1 (hts _ w1) (hts _ w2) (hts _ w3) (hts _ w4) (by unfold rm; dsimp only; omega) (by rw [sum_cat]; unfold rm; dsimp only; omega) (Nat.le_refl _) (Nat.le_refl _) d ?_
  have kk' := kk C hM (okS_cons.mpr ⟨show okV G (vI (if y < x then y else x)) from by split <;> assumption, h2.2⟩) hl H locs ls hP hS hL
  have e : (if Int32.ofInt y < Int32.ofInt x then Int32.ofInt y else Int32.ofInt x) = Int32.ofInt (if y < x then y else x) := by
    by_cases h : y < x
    · rw [if_pos h, if_pos ((i32_lt hy hx).mpr h)]
    · rw [if_neg h, if_neg (fun z => h ((i32_lt hy hx).mp z))]
  rw [e]; exact kk'
/-! System.arraycopy of a row of ints to another's beginning -/
def mcpy (M : Mem) (o k o' k' n : Nat) : Mem := fun a b i => if a = o' ∧ b = k' ∧ i < n then M o k i else M a b i
theorem ce_cpy_other {o k o' k' m : Nat} {c : Nat × Nat} (hc : c ≠ (o', k')) (h0 : isA (fK (oc o') k') = true) : ce G (mcpy M o k o' k' m) c = ce G M c := by
  obtain ⟨a, b⟩ := c
  have key : ¬ (a = o' ∧ b = k') := fun h => hc (by rw [h.1, h.2])
  unfold isA at h0
  simp only [Bool.and_eq_true, decide_eq_true_eq] at h0
  have hne : ∀ a b i, ¬ (a = o' ∧ b = k') → mcpy M o k o' k' m a b i = M a b i := by
    intro a b i h; unfold mcpy; rw [if_neg (fun z => h ⟨z.1, z.2.1⟩)]
  by_cases h99 : b = 99
  · subst h99
    rw [ce_obj, ce_obj]
    have hfl : fl (gp G) (mcpy M o k o' k' m) a = fl (gp G) M a := by
      unfold fl
      apply List.map_congr_left
      intro j hj
      unfold fv
      by_cases e : a = o' ∧ j = k'
      · obtain ⟨rfl, rfl⟩ := e
        rw [if_neg (by omega), if_neg (by omega), if_neg (by omega), if_neg (by omega), if_neg (by omega), if_neg (by omega)]
      · rw [hne _ _ _ e]
    rw [hfl]
  · rw [ce_arr h99, ce_arr h99]
    unfold av
    simp only [hne a b _ key]
theorem r_acopy {o k o' k' : Nat} {z : Int} {idx : Nat} (d : decode md.2.1 pc = .ok (.invokestatic idx, 3)) (w1 : Cond.methodLink md.1.cls idx arraycopyName ∈ gw) (w2 : Cond.native arraycopyName ∈ gw) (w3 : Cond.static arraycopyName ∈ gw) (w4 : Cond.initialized "java/lang/System" ∈ gw) (hk : fK (oc o) k = 1) (hk' : fK (oc o') k' = 1) (hw : (st.map vcat).sum ≤ 8) (hz : 0 ≤ z ∧ z ≤ (aL (oc o) k : Nat) ∧ z ≤ (aL (oc o') k' : Nat))
    (kk : CW G K md (n + 1) (pc + 3) lo st (mcpy M o k o' k' z.toNat) Q) : CW G K md (n + 1) pc lo (vI z :: vI 0 :: vA o' k' :: vI 0 :: vA o k :: st) M Q := by
  intro C hM hs hl H locs ls hP hS hL
  have h1 := okS_cons.mp hs
  have h2 := okS_cons.mp h1.2
  have h3 := okS_cons.mp h2.2
  have h4 := okS_cons.mp h3.2
  have h5 := okS_cons.mp h4.2
  have hzi : inI z := h1.1
  have hts := C.2.2.2.2.1
  have hG := C.2.2.2.2.2.2.2.2
  have hka' : isA (fK (oc o') k') = true := by rw [hk']; rfl
  obtain ⟨q0, hq0, hw0⟩ := w_arr (M := M) h5.1 (by rw [hk]; rfl)
  obtain ⟨q1, hq1, hw1⟩ := w_arr (M := M) h3.1 hka'
  have hk99 := (arr_of h3.1 hka').2
  rw [av_int (by omega), hk] at hw0
  rw [av_int (by omega), hk'] at hw1
  have hzn : (Int32.ofInt z).toNatClampNeg = z.toNat := i32_nat hzi
  have h00 : (Int32.ofInt 0).toNatClampNeg = 0 := rfl
  refine va_copyi (n := Int32.ofInt z) (sp := Int32.ofInt 0) (dp := Int32.ofInt 0) C.1 C.2.1 (C.2.2.1.trans hL.1.symm) C.2.2.2.1 (hts _ w1) (hts _ w2) (hts _ w3) (hts _ w4) C.2.2.2.2.2.2.2.1.1 hP (ws_DG hG) hS q0 q1 0 0 hw0 hw1 rfl rfl rfl (by decide) (by decide) (by rw [show (0 : Int32) = Int32.ofInt 0 from rfl, i32_lt hzi in0]; omega) (by rw [hzn, h00]; omega) (by rw [hzn, h00]; omega) (fun i _ => rfl) (by unfold rm; dsimp only; omega) ?_ d (fun H1 locs1 g1 g2 g3 => ?_)
  · rw [sum_cat]; unfold rm; dsimp only
    have : nativeFrameWords "java/lang/System" "arraycopy" 5 + 11 ≤ 100 := by decide +kernel
    omega
  · have e : va_cpy (fun j => Int32.ofInt (M o k j)) (fun j => Int32.ofInt (M o' k' j)) (Int32.ofInt 0).toNatClampNeg (Int32.ofInt 0).toNatClampNeg (Int32.ofInt z).toNatClampNeg = fun j => Int32.ofInt (mcpy M o k o' k' z.toNat o' k' j) := by
      funext j
      unfold va_cpy mcpy
      rw [hzn, h00]
      by_cases hj : j < z.toNat
      · rw [if_pos ⟨by omega, by omega⟩, if_pos ⟨rfl, rfl, hj⟩]; simp
      · rw [if_neg (by omega), if_neg (fun h => hj h.2.2)]
    rw [e, ← av_int (M := mcpy M o k o' k' z.toNat) (by omega), show gy G 1 = gy G (fK (oc o') k') by rw [hk'], ← ce_arr (M := mcpy M o k o' k' z.toNat) hk99, ws_set (M' := mcpy M o k o' k' z.toNat) (ws_DG hG) hq1 (fun c' hm' hc' => ce_cpy_other hc' hka')] at g1
    refine kk C (fun a b i => ?_) h5.2 hl H1 locs1 ls g1 g3 hL
    by_cases hc : a = o' ∧ b = k' ∧ i < z.toNat
    · obtain ⟨rfl, rfl, hi⟩ := hc
      have e1 : mcpy M o k a b z.toNat a b i = M o k i := by unfold mcpy; rw [if_pos ⟨rfl, rfl, hi⟩]
      have := hM o k i
      unfold okC at this ⊢
      rw [e1]
      simp only [hk] at this
      simp only [hk']
      exact this
    · have e1 : mcpy M o k o' k' z.toNat a b i = M a b i := by unfold mcpy; rw [if_neg hc]
      have := hM a b i
      unfold okC at this ⊢
      rw [e1]
      exact this
end RC
section RS
variable {G : Gx} {K : Kx} {md : MD} {n pc : Nat} {lo : List (Option V)} {st : List V} {M : Mem} {Q : Option V → Mem → Prop}
/-! rows as the printing program uses them -/
theorem s_iald {o k ci : Nat} {i N : Int} (d : decode md.2.1 pc = .ok (.iaload, 1)) (ho : oc o = ci) (hk : fK ci k = 1) (hN : ((aL ci k : Nat) : Int) = N) (h : 0 ≤ i ∧ i < N) (kk : CW G K md n (pc + 1) lo (vI (M o k i.toNat) :: st) M Q) : CW G K md n pc lo (vI i :: vA o k :: st) M Q := by
  subst ho; subst hN; exact r_iald d hk h kk
theorem s_bald {o k ci : Nat} {i N : Int} (d : decode md.2.1 pc = .ok (.baload, 1)) (ho : oc o = ci) (hk : fK ci k = 2 ∨ fK ci k = 3) (hN : ((aL ci k : Nat) : Int) = N) (h : 0 ≤ i ∧ i < N) (kk : CW G K md n (pc + 1) lo (vI (M o k i.toNat) :: st) M Q) : CW G K md n pc lo (vI i :: vA o k :: st) M Q := by
  subst ho; subst hN; exact r_bald d hk h kk
theorem s_lald {o k ci : Nat} {i N : Int} (d : decode md.2.1 pc = .ok (.laload, 1)) (ho : oc o = ci) (hk : fK ci k = 4) (hN : ((aL ci k : Nat) : Int) = N) (h : 0 ≤ i ∧ i < N) (kk : CW G K md n (pc + 1) lo (vL (M o k i.toNat) :: st) M Q) : CW G K md n pc lo (vI i :: vA o k :: st) M Q := by
  subst ho; subst hN; exact r_lald d hk h kk
theorem s_aald {o k ci : Nat} {i N : Int} (d : decode md.2.1 pc = .ok (.aaload, 1)) (ho : oc o = ci) (hk : fK ci k = 5 ∨ fK ci k = 6) (hN : ((aL ci k : Nat) : Int) = N) (h : 0 ≤ i ∧ i < N) (kk : CW G K md n (pc + 1) lo (vR (if M o k i.toNat = 0 then none else some (el k i.toNat, 99)) :: st) M Q) : CW G K md n pc lo (vI i :: vA o k :: st) M Q := by
  subst ho; subst hN; exact r_aald d hk h kk
theorem s_iast {o k ci : Nat} {i x N : Int} (d : decode md.2.1 pc = .ok (.iastore, 1)) (ho : oc o = ci) (hk : fK ci k = 1) (hN : ((aL ci k : Nat) : Int) = N) (h : 0 ≤ i ∧ i < N) (kk : CW G K md n (pc + 1) lo st (mset M o k i.toNat x) Q) : CW G K md n pc lo (vI x :: vI i :: vA o k :: st) M Q := by
  subst ho; subst hN; exact r_iast d hk h kk
theorem s_last {o k ci : Nat} {i x N : Int} (d : decode md.2.1 pc = .ok (.lastore, 1)) (ho : oc o = ci) (hk : fK ci k = 4) (hN : ((aL ci k : Nat) : Int) = N) (h : 0 ≤ i ∧ i < N) (kk : CW G K md n (pc + 1) lo st (mset M o k i.toNat x) Q) : CW G K md n pc lo (vL x :: vI i :: vA o k :: st) M Q := by
  subst ho; subst hN; exact r_last d hk h kk
theorem s_bast {o k ci : Nat} {i x N : Int} (d : decode md.2.1 pc = .ok (.bastore, 1)) (ho : oc o = ci) (hk : fK ci k = 2) (hN : ((aL ci k : Nat) : Int) = N) (h : 0 ≤ i ∧ i < N) (kk : CW G K md n (pc + 1) lo st (mset M o k i.toNat (toB x)) Q) : CW G K md n pc lo (vI x :: vI i :: vA o k :: st) M Q := by
  subst ho; subst hN; exact r_bast d hk h kk
theorem s_zast {o k ci : Nat} {i x N : Int} (d : decode md.2.1 pc = .ok (.bastore, 1)) (ho : oc o = ci) (hk : fK ci k = 3) (hN : ((aL ci k : Nat) : Int) = N) (h : 0 ≤ i ∧ i < N) (h01 : x = 0 ∨ x = 1) (kk : CW G K md n (pc + 1) lo st (mset M o k i.toNat x) Q) : CW G K md n pc lo (vI x :: vI i :: vA o k :: st) M Q := by
  subst ho; subst hN; exact r_zast d hk h h01 kk
theorem s_alen {o k ci : Nat} {z : Int} (d : decode md.2.1 pc = .ok (.arraylength, 1)) (ho : oc o = ci) (hk : isA (fK ci k) = true) (hN : ((aL ci k : Nat) : Int) = z) (hz : 0 ≤ z ∧ z ≤ 2147483647) (kk : CW G K md n (pc + 1) lo (vI z :: st) M Q) : CW G K md n pc lo (vA o k :: st) M Q := by
  subst ho; exact r_alen d hk (by omega) hz kk
def msk (lo : List (Option V)) (b : List Bool) : List (Option V) := List.zipWith (fun v c => if c = true then v else none) lo b
theorem CW_msk {lo' : List (Option V)} (b : List Bool) (e : msk lo b = lo') (T : CW G K md n pc lo' st M Q) : CW G K md n pc lo st M Q := by
  intro C hM hs hl H locs ls hP hS hL
  have key : ∀ (i : Nat) (v : V), lo'[i]? = some (some v) → lo[i]? = some (some v) := by
    intro i v h
    rw [← e] at h
    unfold msk at h
    rw [List.getElem?_zipWith] at h
    cases h1 : lo[i]? with
    | none => rw [h1] at h; cases h
    | some w =>
      rw [h1] at h
      cases h2 : b[i]? with
      | none => rw [h2] at h; cases h
      | some c =>
        rw [h2] at h
        dsimp only at h
        cases c with
        | true => exact h
        | false => cases h
  refine T C hM hs (fun v hv => ?_) H locs ls hP hS ⟨hL.1, hL.2.1, fun i v hi => hL.2.2 i v (key i v hi)⟩
  obtain ⟨i, hi⟩ := List.getElem?_of_mem hv
  exact okL_get hl (key i v hi)
theorem r_callVI {md' : MD} {ci idx o na : Nat} {as stk : List V} {Q1 : Int → Mem → Prop} (d : decode md.2.1 pc = .ok (.invokevirtual idx, 3)) (hl : Cond.methodLink md.1.cls idx md'.1 ∈ gw) (hm : Mi md' ci na) (ho : oc o = ci) (hn : as.length = na) (hk : stk = as.reverse ++ vO o :: st) (hw : (st.map vcat).sum ≤ 8) (h : OkI G n md' (vO o :: as) M Q1) (kk : ∀ x M1, Q1 x M1 → CW G K md (n + 1) (pc + 3) lo (vI x :: st) M1 Q) : CW G K md (n + 1) pc lo stk M Q :=
  r_callV d hl hm ho hn hk hw h (fun r M1 hq => by obtain ⟨x, rfl, hq⟩ := hq; exact kk x M1 hq)
theorem r_callVJ {md' : MD} {ci idx o na : Nat} {as stk : List V} {Q1 : Int → Mem → Prop} (d : decode md.2.1 pc = .ok (.invokevirtual idx, 3)) (hl : Cond.methodLink md.1.cls idx md'.1 ∈ gw) (hm : Mi md' ci na) (ho : oc o = ci) (hn : as.length = na) (hk : stk = as.reverse ++ vO o :: st) (hw : (st.map vcat).sum ≤ 8) (h : OkJ G n md' (vO o :: as) M Q1) (kk : ∀ x M1, Q1 x M1 → CW G K md (n + 1) (pc + 3) lo (vL x :: st) M1 Q) : CW G K md (n + 1) pc lo stk M Q :=
  r_callV d hl hm ho hn hk hw h (fun r M1 hq => by obtain ⟨x, rfl, hq⟩ := hq; exact kk x M1 hq)
theorem r_callVR {md' : MD} {ci idx o na : Nat} {as stk : List V} {Q1 : Option (Nat × Nat) → Mem → Prop} (d : decode md.2.1 pc = .ok (.invokevirtual idx, 3)) (hl : Cond.methodLink md.1.cls idx md'.1 ∈ gw) (hm : Mi md' ci na) (ho : oc o = ci) (hn : as.length = na) (hk : stk = as.reverse ++ vO o :: st) (hw : (st.map vcat).sum ≤ 8) (h : OkR G n md' (vO o :: as) M Q1) (kk : ∀ x M1, Q1 x M1 → CW G K md (n + 1) (pc + 3) lo (vR x :: st) M1 Q) : CW G K md (n + 1) pc lo stk M Q :=
  r_callV d hl hm ho hn hk hw h (fun r M1 hq => by obtain ⟨x, rfl, hq⟩ := hq; exact kk x M1 hq)
theorem r_callVV {md' : MD} {ci idx o na : Nat} {as stk : List V} {Q1 : Mem → Prop} (d : decode md.2.1 pc = .ok (.invokevirtual idx, 3)) (hl : Cond.methodLink md.1.cls idx md'.1 ∈ gw) (hm : Mi md' ci na) (ho : oc o = ci) (hn : as.length = na) (hk : stk = as.reverse ++ vO o :: st) (hw : (st.map vcat).sum ≤ 8) (h : OkV G n md' (vO o :: as) M Q1) (kk : ∀ M1, Q1 M1 → CW G K md (n + 1) (pc + 3) lo st M1 Q) : CW G K md (n + 1) pc lo stk M Q :=
  r_callV d hl hm ho hn hk hw h (fun r M1 hq => by obtain ⟨rfl, hq⟩ := hq; exact kk M1 hq)
theorem r_callSI {md' : MD} {idx na : Nat} {as stk : List V} {Q1 : Int → Mem → Prop} (d : decode md.2.1 pc = .ok (.invokestatic idx, 3)) (hl : Cond.methodLink md.1.cls idx md'.1 ∈ gw) (hm : Ms md' na) (hn : as.length = na) (hk : stk = as.reverse ++ st) (hw : (st.map vcat).sum ≤ 8) (h : OkI G n md' as M Q1) (kk : ∀ x M1, Q1 x M1 → CW G K md (n + 1) (pc + 3) lo (vI x :: st) M1 Q) : CW G K md (n + 1) pc lo stk M Q :=
  r_callS d hl hm hn hk hw h (fun r M1 hq => by obtain ⟨x, rfl, hq⟩ := hq; exact kk x M1 hq)
theorem r_callSJ {md' : MD} {idx na : Nat} {as stk : List V} {Q1 : Int → Mem → Prop} (d : decode md.2.1 pc = .ok (.invokestatic idx, 3)) (hl : Cond.methodLink md.1.cls idx md'.1 ∈ gw) (hm : Ms md' na) (hn : as.length = na) (hk : stk = as.reverse ++ st) (hw : (st.map vcat).sum ≤ 8) (h : OkJ G n md' as M Q1) (kk : ∀ x M1, Q1 x M1 → CW G K md (n + 1) (pc + 3) lo (vL x :: st) M1 Q) : CW G K md (n + 1) pc lo stk M Q :=
  r_callS d hl hm hn hk hw h (fun r M1 hq => by obtain ⟨x, rfl, hq⟩ := hq; exact kk x M1 hq)
theorem r_callSV {md' : MD} {idx na : Nat} {as stk : List V} {Q1 : Mem → Prop} (d : decode md.2.1 pc = .ok (.invokestatic idx, 3)) (hl : Cond.methodLink md.1.cls idx md'.1 ∈ gw) (hm : Ms md' na) (hn : as.length = na) (hk : stk = as.reverse ++ st) (hw : (st.map vcat).sum ≤ 8) (h : OkV G n md' as M Q1) (kk : ∀ M1, Q1 M1 → CW G K md (n + 1) (pc + 3) lo st M1 Q) : CW G K md (n + 1) pc lo stk M Q :=
  r_callS d hl hm hn hk hw h (fun r M1 hq => by obtain ⟨rfl, hq⟩ := hq; exact kk M1 hq)
theorem r_callNV {md' : MD} {idx na : Nat} {host : String} {as stk : List V} {Q1 : Mem → Prop} (d : decode md.2.1 pc = .ok (.invokestatic idx, 3)) (hl : Cond.methodLinkNest md.1.cls idx md'.1 host ∈ nw) (hm : Ms md' na) (hn : as.length = na) (hk : stk = as.reverse ++ st) (hw : (st.map vcat).sum ≤ 8) (h : OkV G n md' as M Q1) (kk : ∀ M1, Q1 M1 → CW G K md (n + 1) (pc + 3) lo st M1 Q) : CW G K md (n + 1) pc lo stk M Q :=
  r_callN d hl hm hn hk hw h (fun r M1 hq => by obtain ⟨rfl, hq⟩ := hq; exact kk M1 hq)
end RS
