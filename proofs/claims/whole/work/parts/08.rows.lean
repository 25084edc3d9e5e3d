section RW
variable {G : Gx} {K : Kx} {md : MD} {n pc : Nat} {lo : List (Option V)} {st : List V} {M : Mem} {Q : Option V → Mem → Prop}
theorem okS_cons {v : V} : okS G (v :: st) ↔ okV G v ∧ okS G st := by unfold okS; simp
theorem okL_get {i : Nat} {v : V} (h : okL G lo) (hi : lo[i]? = some (some v)) : okV G v := h v (List.mem_of_getElem? hi)
theorem okL_set {i : Nat} {v : V} (h : okL G lo) (hv : okV G v) : okL G (lo.set i (some v)) := by
  intro w hw
  rcases List.mem_or_eq_of_mem_set hw with h1 | h1
  · exact h w h1
  · cases h1; exact hv
theorem okL_clr {i : Nat} (h : okL G lo) : okL G (lo.set i none) := by
  intro w hw
  rcases List.mem_or_eq_of_mem_set hw with h1 | h1
  · exact h w h1
  · cases h1
theorem okL_clr' {i : Nat} (h : okL G lo) : okL G (clr lo i) := by
  cases i with
  | zero => exact h
  | succ i => show okL G (clr1 lo i); unfold clr1; split <;> first | exact okL_clr h | exact h
/-! constants -/
theorem r_iconst {z : Int} (d : decode md.2.1 pc = .ok (.iconst z, 1)) (hz : -2147483648 ≤ z ∧ z ≤ 2147483647) (kk : CW G K md n (pc + 1) lo (vI z :: st) M Q) : CW G K md n pc lo st M Q := by
  intro C hM hs hl H locs ls hP hS hL
  exact lv_iconst C.1 C.2.1 d rfl (kk C hM (okS_cons.mpr ⟨hz, hs⟩) hl H locs ls hP hS hL)
theorem r_bipush {z : Int} (d : decode md.2.1 pc = .ok (.bipush z, 2)) (hz : -2147483648 ≤ z ∧ z ≤ 2147483647) (he : (Int8.ofInt z).toInt32 = Int32.ofInt z) (kk : CW G K md n (pc + 2) lo (vI z :: st) M Q) : CW G K md n pc lo st M Q := by
  intro C hM hs hl H locs ls hP hS hL
  exact lv_bipush C.1 C.2.1 d he (kk C hM (okS_cons.mpr ⟨hz, hs⟩) hl H locs ls hP hS hL)
theorem r_sipush {z : Int} (d : decode md.2.1 pc = .ok (.sipush z, 3)) (hz : -2147483648 ≤ z ∧ z ≤ 2147483647) (he : (Int16.ofInt z).toInt32 = Int32.ofInt z) (kk : CW G K md n (pc + 3) lo (vI z :: st) M Q) : CW G K md n pc lo st M Q := by
  intro C hM hs hl H locs ls hP hS hL
  exact lv_sipush C.1 C.2.1 d he (kk C hM (okS_cons.mpr ⟨hz, hs⟩) hl H locs ls hP hS hL)
theorem r_lconst {k : Fin 2} {z : Int} (d : decode md.2.1 pc = .ok (.lconst k, 1)) (hz : -9223372036854775808 ≤ z ∧ z ≤ 9223372036854775807) (he : Int64.ofNat (k : Nat) = Int64.ofInt z) (kk : CW G K md n (pc + 1) lo (vL z :: st) M Q) : CW G K md n pc lo st M Q := by
  intro C hM hs hl H locs ls hP hS hL
  exact lv_lconst C.1 C.2.1 d he (kk C hM (okS_cons.mpr ⟨hz, hs⟩) hl H locs ls hP hS hL)
theorem r_null (d : decode md.2.1 pc = .ok (.aconst_null, 1)) (kk : CW G K md n (pc + 1) lo (vR none :: st) M Q) : CW G K md n pc lo st M Q := by
  intro C hM hs hl H locs ls hP hS hL
  exact lv_null C.1 C.2.1 d (kk C hM (okS_cons.mpr ⟨trivial, hs⟩) hl H locs ls hP hS hL)
theorem r_ldc {idx : Nat} {v : Int32} {z : Int} (d : decode md.2.1 pc = .ok (.ldc idx, 2)) (w : Cond.constant md.1.cls idx v ∈ gw) (hz : -2147483648 ≤ z ∧ z ≤ 2147483647) (he : v = Int32.ofInt z) (kk : CW G K md n (pc + 2) lo (vI z :: st) M Q) : CW G K md n pc lo st M Q := by
  intro C hM hs hl H locs ls hP hS hL
  subst he
  exact lv_ldc C.1 C.2.1 C.2.2.2.1 (C.2.2.2.2.1 _ w) d (kk C hM (okS_cons.mpr ⟨hz, hs⟩) hl H locs ls hP hS hL)
theorem r_ldcw {idx : Nat} {v : Int32} {z : Int} (d : decode md.2.1 pc = .ok (.ldc_w idx, 3)) (w : Cond.constant md.1.cls idx v ∈ gw) (hz : -2147483648 ≤ z ∧ z ≤ 2147483647) (he : v = Int32.ofInt z) (kk : CW G K md n (pc + 3) lo (vI z :: st) M Q) : CW G K md n pc lo st M Q := by
  intro C hM hs hl H locs ls hP hS hL
  subst he
  exact lv_ldcw C.1 C.2.1 C.2.2.2.1 (C.2.2.2.2.1 _ w) d (kk C hM (okS_cons.mpr ⟨hz, hs⟩) hl H locs ls hP hS hL)
theorem r_ldc2 {idx : Nat} {v : Int64} {z : Int} (d : decode md.2.1 pc = .ok (.ldc2_w idx, 3)) (w : Cond.constantLong md.1.cls idx v ∈ gw) (hz : -9223372036854775808 ≤ z ∧ z ≤ 9223372036854775807) (he : v = Int64.ofInt z) (kk : CW G K md n (pc + 3) lo (vL z :: st) M Q) : CW G K md n pc lo st M Q := by
  intro C hM hs hl H locs ls hP hS hL
  subst he
  exact lv_ldc2 C.1 C.2.1 C.2.2.2.1 (C.2.2.2.2.1 _ w) d (kk C hM (okS_cons.mpr ⟨hz, hs⟩) hl H locs ls hP hS hL)
/-! loads -/
theorem r_iload_n {k : Fin 4} {x : Int} (d : decode md.2.1 pc = .ok (.iload_n k, 1)) (h : lo[(k : Nat)]? = some (some (vI x))) (kk : CW G K md n (pc + 1) lo (vI x :: st) M Q) : CW G K md n pc lo st M Q := by
  intro C hM hs hl H locs ls hP hS hL
  exact lv_iload_n C.1 C.2.1 d rfl (hL.2.2 _ _ h) (kk C hM (okS_cons.mpr ⟨okL_get hl h, hs⟩) hl H locs ls hP hS hL)
theorem r_iload {k : Nat} {x : Int} (d : decode md.2.1 pc = .ok (.iload k, 2)) (h : lo[k]? = some (some (vI x))) (kk : CW G K md n (pc + 2) lo (vI x :: st) M Q) : CW G K md n pc lo st M Q := by
  intro C hM hs hl H locs ls hP hS hL
  exact lv_iload C.1 C.2.1 d (hL.2.2 _ _ h) (kk C hM (okS_cons.mpr ⟨okL_get hl h, hs⟩) hl H locs ls hP hS hL)
theorem r_lload_n {k : Fin 4} {x : Int} (d : decode md.2.1 pc = .ok (.lload_n k, 1)) (h : lo[(k : Nat)]? = some (some (vL x))) (kk : CW G K md n (pc + 1) lo (vL x :: st) M Q) : CW G K md n pc lo st M Q := by
  intro C hM hs hl H locs ls hP hS hL
  exact lv_lload_n C.1 C.2.1 d rfl (hL.2.2 _ _ h) (kk C hM (okS_cons.mpr ⟨okL_get hl h, hs⟩) hl H locs ls hP hS hL)
theorem r_lload {k : Nat} {x : Int} (d : decode md.2.1 pc = .ok (.lload k, 2)) (h : lo[k]? = some (some (vL x))) (kk : CW G K md n (pc + 2) lo (vL x :: st) M Q) : CW G K md n pc lo st M Q := by
  intro C hM hs hl H locs ls hP hS hL
  exact lv_lload C.1 C.2.1 d (hL.2.2 _ _ h) (kk C hM (okS_cons.mpr ⟨okL_get hl h, hs⟩) hl H locs ls hP hS hL)
theorem r_aload_n {k : Fin 4} {x : Option (Nat × Nat)} (d : decode md.2.1 pc = .ok (.aload_n k, 1)) (h : lo[(k : Nat)]? = some (some (vR x))) (kk : CW G K md n (pc + 1) lo (vR x :: st) M Q) : CW G K md n pc lo st M Q := by
  intro C hM hs hl H locs ls hP hS hL
  have kk' := kk C hM (okS_cons.mpr ⟨okL_get hl h, hs⟩) hl H locs ls hP hS hL
  have hh := hL.2.2 _ _ h
  cases x with
  | none => exact lv_aload_nN C.1 C.2.1 d rfl hh kk'
  | some x => exact lv_aload_n C.1 C.2.1 d rfl hh kk'
theorem r_aload {k : Nat} {x : Option (Nat × Nat)} (d : decode md.2.1 pc = .ok (.aload k, 2)) (h : lo[k]? = some (some (vR x))) (kk : CW G K md n (pc + 2) lo (vR x :: st) M Q) : CW G K md n pc lo st M Q := by
  intro C hM hs hl H locs ls hP hS hL
  have kk' := kk C hM (okS_cons.mpr ⟨okL_get hl h, hs⟩) hl H locs ls hP hS hL
  have hh := hL.2.2 _ _ h
  cases x with
  | none => exact lv_aloadN C.1 C.2.1 d hh kk'
  | some x => exact lv_aload C.1 C.2.1 d hh kk'
/-! stores -/
def asc (π : Nat × Nat → Nat) (lo : List (Option V)) : List (Nat × Value) := (List.range lo.length).filterMap (fun i => match lo[i]? with
  | some (some v) => some (i, cv π v)
  | _ => none)
theorem asc_mem {π : Nat × Nat → Nat} {q : Nat × Value} : q ∈ asc π lo ↔ ∃ v, lo[q.1]? = some (some v) ∧ q.2 = cv π v := by
  unfold asc
  rw [List.mem_filterMap]
  constructor
  · rintro ⟨i, -, hi⟩
    split at hi
    · rename_i v hv
      cases hi
      exact ⟨v, hv, rfl⟩
    · cases hi
  · rintro ⟨v, hv, e⟩
    refine ⟨q.1, List.mem_range.mpr (List.getElem?_eq_some_iff.mp hv).1, ?_⟩
    rw [hv]
    show some (q.1, cv π v) = some q
    rw [← e]
theorem HL_has {π : Nat × Nat → Nat} {nL : Nat} {ls : Array Slot} (h : HL π nL ls lo) : lv_has ls nL (asc π lo) := by
  refine ⟨h.1, h.2.1, fun q hq => ?_⟩
  obtain ⟨v, hv, e⟩ := asc_mem.mp hq
  rw [e]; exact h.2.2 _ _ hv
theorem cat_cv {π : Nat × Nat → Nat} (v : V) : (cv π v).category = vcat v := by
  rcases v with x | x | (_ | c) <;> rfl
theorem clr_get {i j : Nat} {v : V} (h : (clr lo i)[j]? = some (some v)) : lo[j]? = some (some v) ∧ (j + 1 = i → vcat v ≠ 2) := by
  cases i with
  | zero => exact ⟨h, fun e => by omega⟩
  | succ i =>
    change (clr1 lo i)[j]? = some (some v) at h
    unfold clr1 at h
    split at h
    · rename_i w hw
      by_cases e : i = j
      · subst e
        rw [List.getElem?_set_self (List.getElem?_eq_some_iff.mp hw).1] at h
        cases h
      · rw [List.getElem?_set_ne e] at h
        exact ⟨h, fun e2 => absurd (by omega) e⟩
    · rename_i hw
      refine ⟨h, fun e => ?_⟩
      have e' : j = i := by omega
      subst e'
      intro hv
      rcases v with x | x | x
      · cases hv
      · exact hw x h
      · cases hv
theorem HL_st1 {π : Nat × Nat → Nat} {nL i : Nat} {ls' : Array Slot} {v : V} (h : lv_has ls' nL ((i, cv π v) :: (asc π lo).filter (fun q => !(q.1 == i) && !(q.1 + 1 == i && q.2.category == 2)))) : HL π nL ls' (st1 lo i v) := by
  refine ⟨h.1, h.2.1, fun j w hj => ?_⟩
  unfold st1 at hj
  by_cases e : i = j
  · subst e
    have hl : i < (clr lo i).length := by
      have := (List.getElem?_eq_some_iff.mp hj).1
      rwa [List.length_set] at this
    rw [List.getElem?_set_self hl] at hj
    cases hj
    exact h.2.2 (i, cv π v) List.mem_cons_self
  · rw [List.getElem?_set_ne e] at hj
    obtain ⟨h1, h2⟩ := clr_get hj
    refine h.2.2 (j, cv π w) (List.mem_cons_of_mem _ (List.mem_filter.mpr ⟨asc_mem.mpr ⟨w, h1, rfl⟩, ?_⟩))
    have h3 : ¬ (j = i) := fun z => e z.symm
    by_cases h4 : j + 1 = i
    · have := h2 h4
      simp [h3, cat_cv, this]
    · simp [h3, h4]
theorem HL_st2 {π : Nat × Nat → Nat} {nL i : Nat} {ls' : Array Slot} {v : V} (h : lv_has ls' nL ((i, cv π v) :: (asc π lo).filter (fun q => !(q.1 == i) && (!(q.1 == i + 1) && !(q.1 + 1 == i && q.2.category == 2))))) : HL π nL ls' (st2 lo i v) := by
  refine ⟨h.1, h.2.1, fun j w hj => ?_⟩
  unfold st2 at hj
  by_cases e2 : i + 1 = j
  · subst e2
    have hl : i + 1 < ((clr lo i).set i (some v)).length := by
      have := (List.getElem?_eq_some_iff.mp hj).1
      rwa [List.length_set] at this
    rw [List.getElem?_set_self hl] at hj
    cases hj
  · rw [List.getElem?_set_ne e2] at hj
    by_cases e : i = j
    · subst e
      have hl : i < (clr lo i).length := by
        have := (List.getElem?_eq_some_iff.mp hj).1
        rwa [List.length_set] at this
      rw [List.getElem?_set_self hl] at hj
      cases hj
      exact h.2.2 (i, cv π v) List.mem_cons_self
    · rw [List.getElem?_set_ne e] at hj
      obtain ⟨h1, h2⟩ := clr_get hj
      refine h.2.2 (j, cv π w) (List.mem_cons_of_mem _ (List.mem_filter.mpr ⟨asc_mem.mpr ⟨w, h1, rfl⟩, ?_⟩))
      have h3 : ¬ (j = i) := fun z => e z.symm
      have h5 : ¬ (j = i + 1) := fun z => e2 z.symm
      by_cases h4 : j + 1 = i
      · have := h2 h4
        simp [h3, h5, cat_cv, this]
      · simp [h3, h4, h5]
theorem okL_st1 {i : Nat} {v : V} (h : okL G lo) (hv : okV G v) : okL G (st1 lo i v) := okL_set (okL_clr' h) hv
theorem okL_st2 {i : Nat} {v : V} (h : okL G lo) (hv : okV G v) : okL G (st2 lo i v) := okL_clr (okL_set (okL_clr' h) hv)
theorem r_istore_n {k : Fin 4} {x : Int} {lo' : List (Option V)} (d : decode md.2.1 pc = .ok (.istore_n k, 1)) (hn : (k : Nat) < md.2.2.1) (e : st1 lo k (vI x) = lo') (kk : CW G K md n (pc + 1) lo' st M Q) : CW G K md n pc lo (vI x :: st) M Q := by
  intro C hM hs hl H locs ls hP hS hL
  subst e
  exact lv_istore_n C.1 C.2.1 d rfl (HL_has hL) hn rfl (fun ls' h' => kk C hM (okS_cons.mp hs).2 (okL_st1 hl (okS_cons.mp hs).1) H locs ls' hP hS (HL_st1 h'))
theorem r_istore {k : Nat} {x : Int} {lo' : List (Option V)} (d : decode md.2.1 pc = .ok (.istore k, 2)) (hn : k < md.2.2.1) (e : st1 lo k (vI x) = lo') (kk : CW G K md n (pc + 2) lo' st M Q) : CW G K md n pc lo (vI x :: st) M Q := by
  intro C hM hs hl H locs ls hP hS hL
  subst e
  exact lv_istore C.1 C.2.1 d (HL_has hL) hn rfl (fun ls' h' => kk C hM (okS_cons.mp hs).2 (okL_st1 hl (okS_cons.mp hs).1) H locs ls' hP hS (HL_st1 h'))
theorem r_lstore_n {k : Fin 4} {x : Int} {lo' : List (Option V)} (d : decode md.2.1 pc = .ok (.lstore_n k, 1)) (hn : (k : Nat) + 1 < md.2.2.1) (e : st2 lo k (vL x) = lo') (kk : CW G K md n (pc + 1) lo' st M Q) : CW G K md n pc lo (vL x :: st) M Q := by
  intro C hM hs hl H locs ls hP hS hL
  subst e
  exact lv_lstore_n C.1 C.2.1 d rfl (HL_has hL) hn rfl (fun ls' h' => kk C hM (okS_cons.mp hs).2 (okL_st2 hl (okS_cons.mp hs).1) H locs ls' hP hS (HL_st2 h'))
theorem r_lstore {k : Nat} {x : Int} {lo' : List (Option V)} (d : decode md.2.1 pc = .ok (.lstore k, 2)) (hn : k + 1 < md.2.2.1) (e : st2 lo k (vL x) = lo') (kk : CW G K md n (pc + 2) lo' st M Q) : CW G K md n pc lo (vL x :: st) M Q := by
  intro C hM hs hl H locs ls hP hS hL
  subst e
  exact lv_lstore C.1 C.2.1 d (HL_has hL) hn rfl (fun ls' h' => kk C hM (okS_cons.mp hs).2 (okL_st2 hl (okS_cons.mp hs).1) H locs ls' hP hS (HL_st2 h'))
theorem r_astore_n {k : Fin 4} {x : Option (Nat × Nat)} {lo' : List (Option V)} (d : decode md.2.1 pc = .ok (.astore_n k, 1)) (hn : (k : Nat) < md.2.2.1) (e : st1 lo k (vR x) = lo') (kk : CW G K md n (pc + 1) lo' st M Q) : CW G K md n pc lo (vR x :: st) M Q := by
  intro C hM hs hl H locs ls hP hS hL
  subst e
  have kk' := fun ls' h' => kk C hM (okS_cons.mp hs).2 (okL_st1 hl (okS_cons.mp hs).1) H locs ls' hP hS (HL_st1 (i := (k : Nat)) (v := vR x) h')
  cases x with
  | none => exact lv_astore_nN C.1 C.2.1 d rfl (HL_has hL) hn rfl kk'
  | some x => exact lv_astore_n C.1 C.2.1 d rfl (HL_has hL) hn rfl kk'
theorem r_astore {k : Nat} {x : Option (Nat × Nat)} {lo' : List (Option V)} (d : decode md.2.1 pc = .ok (.astore k, 2)) (hn : k < md.2.2.1) (e : st1 lo k (vR x) = lo') (kk : CW G K md n (pc + 2) lo' st M Q) : CW G K md n pc lo (vR x :: st) M Q := by
  intro C hM hs hl H locs ls hP hS hL
  subst e
  have kk' := fun ls' h' => kk C hM (okS_cons.mp hs).2 (okL_st1 hl (okS_cons.mp hs).1) H locs ls' hP hS (HL_st1 (i := k) (v := vR x) h')
  cases x with
  | none => exact lv_astoreN C.1 C.2.1 d (HL_has hL) hn rfl kk'
  | some x => exact lv_astore C.1 C.2.1 d (HL_has hL) hn rfl kk'
theorem r_iinc {k : Nat} {x z : Int} {lo' : List (Option V)} (d : decode md.2.1 pc = .ok (.iinc k z, 3)) (h : lo[k]? = some (some (vI x))) (hn : k < md.2.2.1) (e : st1 lo k (vI (wr (x + z))) = lo') (kk : CW G K md n (pc + 3) lo' st M Q) : CW G K md n pc lo st M Q := by
  intro C hM hs hl H locs ls hP hS hL
  subst e
  obtain ⟨q, hq⟩ := List.getElem?_of_mem (asc_mem (π := gp G) (q := (k, cv (gp G) (vI x))) |>.mpr ⟨vI x, h, rfl⟩)
  exact lv_iinc C.1 C.2.1 d (HL_has hL) hq (i32_add x z) hn rfl (fun ls' h' => kk C hM hs (okL_st1 hl (wr_in _)) H locs ls' hP hS (HL_st1 (v := vI (wr (x + z))) h'))
/-! the operand stack -/
theorem r_dup {v : V} (d : decode md.2.1 pc = .ok (.dup, 1)) (hv : vcat v = 1) (kk : CW G K md n (pc + 1) lo (v :: v :: st) M Q) : CW G K md n pc lo (v :: st) M Q := by
  intro C hM hs hl H locs ls hP hS hL
  exact lv_dup C.1 C.2.1 d (by rw [cat_cv]; exact hv) (kk C hM (okS_cons.mpr ⟨(okS_cons.mp hs).1, hs⟩) hl H locs ls hP hS hL)
theorem r_dup2 {v w : V} (d : decode md.2.1 pc = .ok (.dup2, 1)) (hv : vcat v = 1) (hw : vcat w = 1) (kk : CW G K md n (pc + 1) lo (v :: w :: v :: w :: st) M Q) : CW G K md n pc lo (v :: w :: st) M Q := by
  intro C hM hs hl H locs ls hP hS hL
  have h1 := okS_cons.mp hs
  have h2 := okS_cons.mp h1.2
  exact lv_dup2_11 C.1 C.2.1 d (by rw [cat_cv]; exact hv) (by rw [cat_cv]; exact hw) (kk C hM (okS_cons.mpr ⟨h1.1, okS_cons.mpr ⟨h2.1, hs⟩⟩) hl H locs ls hP hS hL)
theorem r_pop {v : V} (d : decode md.2.1 pc = .ok (.pop, 1)) (hv : vcat v = 1) (kk : CW G K md n (pc + 1) lo st M Q) : CW G K md n pc lo (v :: st) M Q := by
  intro C hM hs hl H locs ls hP hS hL
  exact lv_pop C.1 C.2.1 d (by rw [cat_cv]; exact hv) (kk C hM (okS_cons.mp hs).2 hl H locs ls hP hS hL)
/-! arithmetic -/
theorem r_iadd {x y : Int} (d : decode md.2.1 pc = .ok (.iadd, 1)) (kk : CW G K md n (pc + 1) lo (vI (wr (x + y)) :: st) M Q) : CW G K md n pc lo (vI y :: vI x :: st) M Q := by
  intro C hM hs hl H locs ls hP hS hL
  have h1 := okS_cons.mp hs
  have h2 := okS_cons.mp h1.2
  have hy : inI y := h1.1
  have hx : inI x := h2.1
  have e : Int32.ofInt x + Int32.ofInt y = Int32.ofInt (wr (x + y)) := i32_add x y
  refine lv_iadd C.1 C.2.1 d ?_
  rw [e]
  exact kk C hM (okS_cons.mpr ⟨wr_in _, h2.2⟩) hl H locs ls hP hS hL
theorem r_isub {x y : Int} (d : decode md.2.1 pc = .ok (.isub, 1)) (kk : CW G K md n (pc + 1) lo (vI (wr (x - y)) :: st) M Q) : CW G K md n pc lo (vI y :: vI x :: st) M Q := by
  intro C hM hs hl H locs ls hP hS hL
  have h1 := okS_cons.mp hs
  have h2 := okS_cons.mp h1.2
  have hy : inI y := h1.1
  have hx : inI x := h2.1
  have e : Int32.ofInt x - Int32.ofInt y = Int32.ofInt (wr (x - y)) := i32_sub x y
  refine lv_isub C.1 C.2.1 d ?_
  rw [e]
  exact kk C hM (okS_cons.mpr ⟨wr_in _, h2.2⟩) hl H locs ls hP hS hL
theorem r_imul {x y : Int} (d : decode md.2.1 pc = .ok (.imul, 1)) (kk : CW G K md n (pc + 1) lo (vI (wr (x * y)) :: st) M Q) : CW G K md n pc lo (vI y :: vI x :: st) M Q := by
  intro C hM hs hl H locs ls hP hS hL
  have h1 := okS_cons.mp hs
  have h2 := okS_cons.mp h1.2
  have hy : inI y := h1.1
  have hx : inI x := h2.1
  have e : Int32.ofInt x * Int32.ofInt y = Int32.ofInt (wr (x * y)) := i32_mul x y
  refine lv_imul C.1 C.2.1 d ?_
  rw [e]
  exact kk C hM (okS_cons.mpr ⟨wr_in _, h2.2⟩) hl H locs ls hP hS hL
theorem r_idiv {x y : Int} (d : decode md.2.1 pc = .ok (.idiv, 1)) (hne : y ≠ 0) (kk : CW G K md n (pc + 1) lo (vI (wr (x.tdiv y)) :: st) M Q) : CW G K md n pc lo (vI y :: vI x :: st) M Q := by
  intro C hM hs hl H locs ls hP hS hL
  have h1 := okS_cons.mp hs
  have h2 := okS_cons.mp h1.2
  have hy : inI y := h1.1
  have hx : inI x := h2.1
  have e : Int32.ofInt x / Int32.ofInt y = Int32.ofInt (wr (x.tdiv y)) := i32_div hx hy
  refine lv_idiv C.1 C.2.1 d (fun z => hne ((i32_eq hy in0).mp z)) ?_
  rw [e]
  exact kk C hM (okS_cons.mpr ⟨wr_in _, h2.2⟩) hl H locs ls hP hS hL
theorem r_irem {x y : Int} (d : decode md.2.1 pc = .ok (.irem, 1)) (hne : y ≠ 0) (kk : CW G K md n (pc + 1) lo (vI (wr (x.tmod y)) :: st) M Q) : CW G K md n pc lo (vI y :: vI x :: st) M Q := by
  intro C hM hs hl H locs ls hP hS hL
  have h1 := okS_cons.mp hs
  have h2 := okS_cons.mp h1.2
  have hy : inI y := h1.1
  have hx : inI x := h2.1
  have e : Int32.ofInt x - Int32.ofInt x / Int32.ofInt y * Int32.ofInt y = Int32.ofInt (wr (x.tmod y)) := i32_rem hx hy
  refine lv_irem C.1 C.2.1 d (fun z => hne ((i32_eq hy in0).mp z)) ?_
  rw [e]
  exact kk C hM (okS_cons.mpr ⟨wr_in _, h2.2⟩) hl H locs ls hP hS hL
theorem r_iand {x y : Int} (d : decode md.2.1 pc = .ok (.iand, 1)) (kk : CW G K md n (pc + 1) lo (vI (bAnd x y) :: st) M Q) : CW G K md n pc lo (vI y :: vI x :: st) M Q := by
  intro C hM hs hl H locs ls hP hS hL
  have h1 := okS_cons.mp hs
  have h2 := okS_cons.mp h1.2
  have hy : inI y := h1.1
  have hx : inI x := h2.1
  have e : Int32.ofInt x &&& Int32.ofInt y = Int32.ofInt (bAnd x y) := (i32_of _).symm
  refine lv_iand C.1 C.2.1 d ?_
  rw [e]
  exact kk C hM (okS_cons.mpr ⟨i32_in _, h2.2⟩) hl H locs ls hP hS hL
theorem r_ior {x y : Int} (d : decode md.2.1 pc = .ok (.ior, 1)) (kk : CW G K md n (pc + 1) lo (vI (bOr x y) :: st) M Q) : CW G K md n pc lo (vI y :: vI x :: st) M Q := by
  intro C hM hs hl H locs ls hP hS hL
  have h1 := okS_cons.mp hs
  have h2 := okS_cons.mp h1.2
  have hy : inI y := h1.1
  have hx : inI x := h2.1
  have e : Int32.ofInt x ||| Int32.ofInt y = Int32.ofInt (bOr x y) := (i32_of _).symm
  refine lv_ior C.1 C.2.1 d ?_
  rw [e]
  exact kk C hM (okS_cons.mpr ⟨i32_in _, h2.2⟩) hl H locs ls hP hS hL
theorem r_ixor {x y : Int} (d : decode md.2.1 pc = .ok (.ixor, 1)) (kk : CW G K md n (pc + 1) lo (vI (bXor x y) :: st) M Q) : CW G K md n pc lo (vI y :: vI x :: st) M Q := by
  intro C hM hs hl H locs ls hP hS hL
  have h1 := okS_cons.mp hs
  have h2 := okS_cons.mp h1.2
  have hy : inI y := h1.1
  have hx : inI x := h2.1
  have e : Int32.ofInt x ^^^ Int32.ofInt y = Int32.ofInt (bXor x y) := (i32_of _).symm
  refine lv_ixor C.1 C.2.1 d ?_
  rw [e]
  exact kk C hM (okS_cons.mpr ⟨i32_in _, h2.2⟩) hl H locs ls hP hS hL
theorem r_ishl {x y : Int} (d : decode md.2.1 pc = .ok (.ishl, 1)) (kk : CW G K md n (pc + 1) lo (vI (bShl x y) :: st) M Q) : CW G K md n pc lo (vI y :: vI x :: st) M Q := by
  intro C hM hs hl H locs ls hP hS hL
  have h1 := okS_cons.mp hs
  have h2 := okS_cons.mp h1.2
  have hy : inI y := h1.1
  have hx : inI x := h2.1
  have e : Int32.ofInt x <<< (Int32.ofInt y &&& 31) = Int32.ofInt (bShl x y) := (i32_of _).symm
  refine lv_ishl C.1 C.2.1 d ?_
  rw [e]
  exact kk C hM (okS_cons.mpr ⟨i32_in _, h2.2⟩) hl H locs ls hP hS hL
theorem r_ishr {x y : Int} (d : decode md.2.1 pc = .ok (.ishr, 1)) (kk : CW G K md n (pc + 1) lo (vI (bShr x y) :: st) M Q) : CW G K md n pc lo (vI y :: vI x :: st) M Q := by
  intro C hM hs hl H locs ls hP hS hL
  have h1 := okS_cons.mp hs
  have h2 := okS_cons.mp h1.2
  have hy : inI y := h1.1
  have hx : inI x := h2.1
  have e : Int32.ofInt x >>> (Int32.ofInt y &&& 31) = Int32.ofInt (bShr x y) := (i32_of _).symm
  refine lv_ishr C.1 C.2.1 d ?_
  rw [e]
  exact kk C hM (okS_cons.mpr ⟨i32_in _, h2.2⟩) hl H locs ls hP hS hL
theorem r_ladd {x y : Int} (d : decode md.2.1 pc = .ok (.ladd, 1)) (kk : CW G K md n (pc + 1) lo (vL (wl (x + y)) :: st) M Q) : CW G K md n pc lo (vL y :: vL x :: st) M Q := by
  intro C hM hs hl H locs ls hP hS hL
  have h1 := okS_cons.mp hs
  have h2 := okS_cons.mp h1.2
  have hy : inL y := h1.1
  have hx : inL x := h2.1
  have e : Int64.ofInt x + Int64.ofInt y = Int64.ofInt (wl (x + y)) := i64_add x y
  refine lv_ladd C.1 C.2.1 d ?_
  rw [e]
  exact kk C hM (okS_cons.mpr ⟨wl_in _, h2.2⟩) hl H locs ls hP hS hL
theorem r_lsub {x y : Int} (d : decode md.2.1 pc = .ok (.lsub, 1)) (kk : CW G K md n (pc + 1) lo (vL (wl (x - y)) :: st) M Q) : CW G K md n pc lo (vL y :: vL x :: st) M Q := by
  intro C hM hs hl H locs ls hP hS hL
  have h1 := okS_cons.mp hs
  have h2 := okS_cons.mp h1.2
  have hy : inL y := h1.1
  have hx : inL x := h2.1
  have e : Int64.ofInt x - Int64.ofInt y = Int64.ofInt (wl (x - y)) := i64_sub x y
  refine lv_lsub C.1 C.2.1 d ?_
  rw [e]
  exact kk C hM (okS_cons.mpr ⟨wl_in _, h2.2⟩) hl H locs ls hP hS hL
theorem r_lmul {x y : Int} (d : decode md.2.1 pc = .ok (.lmul, 1)) (kk : CW G K md n (pc + 1) lo (vL (wl (x * y)) :: st) M Q) : CW G K md n pc lo (vL y :: vL x :: st) M Q := by
  intro C hM hs hl H locs ls hP hS hL
  have h1 := okS_cons.mp hs
  have h2 := okS_cons.mp h1.2
  have hy : inL y := h1.1
  have hx : inL x := h2.1
  have e : Int64.ofInt x * Int64.ofInt y = Int64.ofInt (wl (x * y)) := i64_mul x y
  refine lv_lmul C.1 C.2.1 d ?_
  rw [e]
  exact kk C hM (okS_cons.mpr ⟨wl_in _, h2.2⟩) hl H locs ls hP hS hL
theorem in0L : inL 0 := by unfold inL; omega
theorem r_ldiv {x y : Int} (d : decode md.2.1 pc = .ok (.ldiv, 1)) (hne : y ≠ 0) (kk : CW G K md n (pc + 1) lo (vL (wl (x.tdiv y)) :: st) M Q) : CW G K md n pc lo (vL y :: vL x :: st) M Q := by
  intro C hM hs hl H locs ls hP hS hL
  have h1 := okS_cons.mp hs
  have h2 := okS_cons.mp h1.2
  have hy : inL y := h1.1
  have hx : inL x := h2.1
  have e : Int64.ofInt x / Int64.ofInt y = Int64.ofInt (wl (x.tdiv y)) := i64_div hx hy
  refine lv_ldiv C.1 C.2.1 d (fun z => hne ((i64_eq hy in0L).mp z)) ?_
  rw [e]
  exact kk C hM (okS_cons.mpr ⟨wl_in _, h2.2⟩) hl H locs ls hP hS hL
theorem r_lrem {x y : Int} (d : decode md.2.1 pc = .ok (.lrem, 1)) (hne : y ≠ 0) (kk : CW G K md n (pc + 1) lo (vL (wl (x.tmod y)) :: st) M Q) : CW G K md n pc lo (vL y :: vL x :: st) M Q := by
  intro C hM hs hl H locs ls hP hS hL
  have h1 := okS_cons.mp hs
  have h2 := okS_cons.mp h1.2
  have hy : inL y := h1.1
  have hx : inL x := h2.1
  have e : Int64.ofInt x - Int64.ofInt x / Int64.ofInt y * Int64.ofInt y = Int64.ofInt (wl (x.tmod y)) := i64_rem hx hy
  refine lv_lrem C.1 C.2.1 d (fun z => hne ((i64_eq hy in0L).mp z)) ?_
  rw [e]
  exact kk C hM (okS_cons.mpr ⟨wl_in _, h2.2⟩) hl H locs ls hP hS hL
theorem r_land {x y : Int} (d : decode md.2.1 pc = .ok (.land, 1)) (kk : CW G K md n (pc + 1) lo (vL (lAnd x y) :: st) M Q) : CW G K md n pc lo (vL y :: vL x :: st) M Q := by
  intro C hM hs hl H locs ls hP hS hL
  have h1 := okS_cons.mp hs
  have h2 := okS_cons.mp h1.2
  have hy : inL y := h1.1
  have hx : inL x := h2.1
  have e : Int64.ofInt x &&& Int64.ofInt y = Int64.ofInt (lAnd x y) := (i64_of _).symm
  refine lv_land C.1 C.2.1 d ?_
  rw [e]
  exact kk C hM (okS_cons.mpr ⟨i64_in _, h2.2⟩) hl H locs ls hP hS hL
theorem r_lor {x y : Int} (d : decode md.2.1 pc = .ok (.lor, 1)) (kk : CW G K md n (pc + 1) lo (vL (lOr x y) :: st) M Q) : CW G K md n pc lo (vL y :: vL x :: st) M Q := by
  intro C hM hs hl H locs ls hP hS hL
  have h1 := okS_cons.mp hs
  have h2 := okS_cons.mp h1.2
  have hy : inL y := h1.1
  have hx : inL x := h2.1
  have e : Int64.ofInt x ||| Int64.ofInt y = Int64.ofInt (lOr x y) := (i64_of _).symm
  refine lv_lor C.1 C.2.1 d ?_
  rw [e]
  exact kk C hM (okS_cons.mpr ⟨i64_in _, h2.2⟩) hl H locs ls hP hS hL
theorem r_iushr {x y : Int} (d : decode md.2.1 pc = .ok (.iushr, 1)) (kk : CW G K md n (pc + 1) lo (vI (bUshr x y) :: st) M Q) : CW G K md n pc lo (vI y :: vI x :: st) M Q := by
  intro C hM hs hl H locs ls hP hS hL
  have h2 := okS_cons.mp (okS_cons.mp hs).2
  exact lv_iushr C.1 C.2.1 d (i32_of _).symm (kk C hM (okS_cons.mpr ⟨i32_in _, h2.2⟩) hl H locs ls hP hS hL)
theorem r_lshl {x y : Int} (d : decode md.2.1 pc = .ok (.lshl, 1)) (kk : CW G K md n (pc + 1) lo (vL (lShl x y) :: st) M Q) : CW G K md n pc lo (vI y :: vL x :: st) M Q := by
  intro C hM hs hl H locs ls hP hS hL
  have h2 := okS_cons.mp (okS_cons.mp hs).2
  exact lv_lshl C.1 C.2.1 d (i64_of _).symm (kk C hM (okS_cons.mpr ⟨i64_in _, h2.2⟩) hl H locs ls hP hS hL)
theorem r_i2l {x : Int} (d : decode md.2.1 pc = .ok (.i2l, 1)) (kk : CW G K md n (pc + 1) lo (vL x :: st) M Q) : CW G K md n pc lo (vI x :: st) M Q := by
  intro C hM hs hl H locs ls hP hS hL
  have h1 := okS_cons.mp hs
  exact lv_i2l C.1 C.2.1 d (i32_long h1.1) (kk C hM (okS_cons.mpr ⟨inI_L h1.1, h1.2⟩) hl H locs ls hP hS hL)
theorem r_l2i {x : Int} (d : decode md.2.1 pc = .ok (.l2i, 1)) (kk : CW G K md n (pc + 1) lo (vI (wr x) :: st) M Q) : CW G K md n pc lo (vL x :: st) M Q := by
  intro C hM hs hl H locs ls hP hS hL
  have h1 := okS_cons.mp hs
  exact lv_l2i C.1 C.2.1 d (i64_int x) (kk C hM (okS_cons.mpr ⟨wr_in _, h1.2⟩) hl H locs ls hP hS hL)
theorem r_i2b {x : Int} (d : decode md.2.1 pc = .ok (.i2b, 1)) (kk : CW G K md n (pc + 1) lo (vI (toB x) :: st) M Q) : CW G K md n pc lo (vI x :: st) M Q := by
  intro C hM hs hl H locs ls hP hS hL
  have h1 := okS_cons.mp hs
  exact lv_i2b C.1 C.2.1 d (i32_of _).symm (kk C hM (okS_cons.mpr ⟨i32_in _, h1.2⟩) hl H locs ls hP hS hL)
/-! branches -/
theorem r_goto {off : Int} {tgt : Nat} (d : decode md.2.1 pc = .ok (.goto off, 3)) (ht : (pc : Int) + off = (tgt : Int)) (kk : CW G K md n tgt lo st M Q) : CW G K md n pc lo st M Q := by
  intro C hM hs hl H locs ls hP hS hL
  exact lv_goto C.1 C.2.1 d ht (kk C hM hs hl H locs ls hP hS hL)
theorem r_if_eq {x : Int} {off : Int} {tgt : Nat} (d : decode md.2.1 pc = .ok (.ifCond .eq off, 3)) (ht : (pc : Int) + off = (tgt : Int)) (kt : x = 0 → CW G K md n tgt lo st M Q) (kf : ¬ (x = 0) → CW G K md n (pc + 3) lo st M Q) : CW G K md n pc lo (vI x :: st) M Q := by
  intro C hM hs hl H locs ls hP hS hL
  have h1 := okS_cons.mp hs
  have hx : inI x := h1.1
  exact lv_if_eq C.1 C.2.1 d ht (fun z => kt ((i32_eq hx in0).mp z) C hM h1.2 hl H locs ls hP hS hL) (fun z => kf (fun z' => z ((i32_eq hx in0).mpr z')) C hM h1.2 hl H locs ls hP hS hL)
theorem r_icmp_eq {x y : Int} {off : Int} {tgt : Nat} (d : decode md.2.1 pc = .ok (.if_icmp .eq off, 3)) (ht : (pc : Int) + off = (tgt : Int)) (kt : x = y → CW G K md n tgt lo st M Q) (kf : ¬ (x = y) → CW G K md n (pc + 3) lo st M Q) : CW G K md n pc lo (vI y :: vI x :: st) M Q := by
  intro C hM hs hl H locs ls hP hS hL
  have h1 := okS_cons.mp hs
  have h2 := okS_cons.mp h1.2
  have hy : inI y := h1.1
  have hx : inI x := h2.1
  exact lv_icmp_eq C.1 C.2.1 d ht (fun z => kt ((i32_eq hx hy).mp z) C hM h2.2 hl H locs ls hP hS hL) (fun z => kf (fun z' => z ((i32_eq hx hy).mpr z')) C hM h2.2 hl H locs ls hP hS hL)
theorem r_if_ne {x : Int} {off : Int} {tgt : Nat} (d : decode md.2.1 pc = .ok (.ifCond .ne off, 3)) (ht : (pc : Int) + off = (tgt : Int)) (kt : ¬ x = 0 → CW G K md n tgt lo st M Q) (kf : x = 0 → CW G K md n (pc + 3) lo st M Q) : CW G K md n pc lo (vI x :: st) M Q := by
  intro C hM hs hl H locs ls hP hS hL
  have h1 := okS_cons.mp hs
  have hx : inI x := h1.1
  exact lv_if_ne C.1 C.2.1 d ht (fun z => kt ((not_congr (i32_eq hx in0)).mp z) C hM h1.2 hl H locs ls hP hS hL) (fun z => kf ((i32_eq hx in0).mp z) C hM h1.2 hl H locs ls hP hS hL)
theorem r_icmp_ne {x y : Int} {off : Int} {tgt : Nat} (d : decode md.2.1 pc = .ok (.if_icmp .ne off, 3)) (ht : (pc : Int) + off = (tgt : Int)) (kt : ¬ x = y → CW G K md n tgt lo st M Q) (kf : x = y → CW G K md n (pc + 3) lo st M Q) : CW G K md n pc lo (vI y :: vI x :: st) M Q := by
  intro C hM hs hl H locs ls hP hS hL
  have h1 := okS_cons.mp hs
  have h2 := okS_cons.mp h1.2
  have hy : inI y := h1.1
  have hx : inI x := h2.1
  exact lv_icmp_ne C.1 C.2.1 d ht (fun z => kt ((not_congr (i32_eq hx hy)).mp z) C hM h2.2 hl H locs ls hP hS hL) (fun z => kf ((i32_eq hx hy).mp z) C hM h2.2 hl H locs ls hP hS hL)
theorem r_if_lt {x : Int} {off : Int} {tgt : Nat} (d : decode md.2.1 pc = .ok (.ifCond .lt off, 3)) (ht : (pc : Int) + off = (tgt : Int)) (kt : x < 0 → CW G K md n tgt lo st M Q) (kf : ¬ (x < 0) → CW G K md n (pc + 3) lo st M Q) : CW G K md n pc lo (vI x :: st) M Q := by
  intro C hM hs hl H locs ls hP hS hL
  have h1 := okS_cons.mp hs
  have hx : inI x := h1.1
  exact lv_if_lt C.1 C.2.1 d ht (fun z => kt ((i32_lt hx in0).mp z) C hM h1.2 hl H locs ls hP hS hL) (fun z => kf (fun z' => z ((i32_lt hx in0).mpr z')) C hM h1.2 hl H locs ls hP hS hL)
theorem r_icmp_lt {x y : Int} {off : Int} {tgt : Nat} (d : decode md.2.1 pc = .ok (.if_icmp .lt off, 3)) (ht : (pc : Int) + off = (tgt : Int)) (kt : x < y → CW G K md n tgt lo st M Q) (kf : ¬ (x < y) → CW G K md n (pc + 3) lo st M Q) : CW G K md n pc lo (vI y :: vI x :: st) M Q := by
  intro C hM hs hl H locs ls hP hS hL
  have h1 := okS_cons.mp hs
  have h2 := okS_cons.mp h1.2
  have hy : inI y := h1.1
  have hx : inI x := h2.1
  exact lv_icmp_lt C.1 C.2.1 d ht (fun z => kt ((i32_lt hx hy).mp z) C hM h2.2 hl H locs ls hP hS hL) (fun z => kf (fun z' => z ((i32_lt hx hy).mpr z')) C hM h2.2 hl H locs ls hP hS hL)
theorem r_if_ge {x : Int} {off : Int} {tgt : Nat} (d : decode md.2.1 pc = .ok (.ifCond .ge off, 3)) (ht : (pc : Int) + off = (tgt : Int)) (kt : 0 ≤ x → CW G K md n tgt lo st M Q) (kf : ¬ (0 ≤ x) → CW G K md n (pc + 3) lo st M Q) : CW G K md n pc lo (vI x :: st) M Q := by
  intro C hM hs hl H locs ls hP hS hL
  have h1 := okS_cons.mp hs
  have hx : inI x := h1.1
  exact lv_if_ge C.1 C.2.1 d ht (fun z => kt ((i32_le in0 hx).mp z) C hM h1.2 hl H locs ls hP hS hL) (fun z => kf (fun z' => z ((i32_le in0 hx).mpr z')) C hM h1.2 hl H locs ls hP hS hL)
theorem r_icmp_ge {x y : Int} {off : Int} {tgt : Nat} (d : decode md.2.1 pc = .ok (.if_icmp .ge off, 3)) (ht : (pc : Int) + off = (tgt : Int)) (kt : y ≤ x → CW G K md n tgt lo st M Q) (kf : ¬ (y ≤ x) → CW G K md n (pc + 3) lo st M Q) : CW G K md n pc lo (vI y :: vI x :: st) M Q := by
  intro C hM hs hl H locs ls hP hS hL
  have h1 := okS_cons.mp hs
  have h2 := okS_cons.mp h1.2
  have hy : inI y := h1.1
  have hx : inI x := h2.1
  exact lv_icmp_ge C.1 C.2.1 d ht (fun z => kt ((i32_le hy hx).mp z) C hM h2.2 hl H locs ls hP hS hL) (fun z => kf (fun z' => z ((i32_le hy hx).mpr z')) C hM h2.2 hl H locs ls hP hS hL)
theorem r_if_gt {x : Int} {off : Int} {tgt : Nat} (d : decode md.2.1 pc = .ok (.ifCond .gt off, 3)) (ht : (pc : Int) + off = (tgt : Int)) (kt : 0 < x → CW G K md n tgt lo st M Q) (kf : ¬ (0 < x) → CW G K md n (pc + 3) lo st M Q) : CW G K md n pc lo (vI x :: st) M Q := by
  intro C hM hs hl H locs ls hP hS hL
  have h1 := okS_cons.mp hs
  have hx : inI x := h1.1
  exact lv_if_gt C.1 C.2.1 d ht (fun z => kt ((i32_lt in0 hx).mp z) C hM h1.2 hl H locs ls hP hS hL) (fun z => kf (fun z' => z ((i32_lt in0 hx).mpr z')) C hM h1.2 hl H locs ls hP hS hL)
theorem r_icmp_gt {x y : Int} {off : Int} {tgt : Nat} (d : decode md.2.1 pc = .ok (.if_icmp .gt off, 3)) (ht : (pc : Int) + off = (tgt : Int)) (kt : y < x → CW G K md n tgt lo st M Q) (kf : ¬ (y < x) → CW G K md n (pc + 3) lo st M Q) : CW G K md n pc lo (vI y :: vI x :: st) M Q := by
  intro C hM hs hl H locs ls hP hS hL
  have h1 := okS_cons.mp hs
  have h2 := okS_cons.mp h1.2
  have hy : inI y := h1.1
  have hx : inI x := h2.1
  exact lv_icmp_gt C.1 C.2.1 d ht (fun z => kt ((i32_lt hy hx).mp z) C hM h2.2 hl H locs ls hP hS hL) (fun z => kf (fun z' => z ((i32_lt hy hx).mpr z')) C hM h2.2 hl H locs ls hP hS hL)
theorem r_if_le {x : Int} {off : Int} {tgt : Nat} (d : decode md.2.1 pc = .ok (.ifCond .le off, 3)) (ht : (pc : Int) + off = (tgt : Int)) (kt : x ≤ 0 → CW G K md n tgt lo st M Q) (kf : ¬ (x ≤ 0) → CW G K md n (pc + 3) lo st M Q) : CW G K md n pc lo (vI x :: st) M Q := by
  intro C hM hs hl H locs ls hP hS hL
  have h1 := okS_cons.mp hs
  have hx : inI x := h1.1
  exact lv_if_le C.1 C.2.1 d ht (fun z => kt ((i32_le hx in0).mp z) C hM h1.2 hl H locs ls hP hS hL) (fun z => kf (fun z' => z ((i32_le hx in0).mpr z')) C hM h1.2 hl H locs ls hP hS hL)
theorem r_icmp_le {x y : Int} {off : Int} {tgt : Nat} (d : decode md.2.1 pc = .ok (.if_icmp .le off, 3)) (ht : (pc : Int) + off = (tgt : Int)) (kt : x ≤ y → CW G K md n tgt lo st M Q) (kf : ¬ (x ≤ y) → CW G K md n (pc + 3) lo st M Q) : CW G K md n pc lo (vI y :: vI x :: st) M Q := by
  intro C hM hs hl H locs ls hP hS hL
  have h1 := okS_cons.mp hs
  have h2 := okS_cons.mp h1.2
  have hy : inI y := h1.1
  have hx : inI x := h2.1
  exact lv_icmp_le C.1 C.2.1 d ht (fun z => kt ((i32_le hx hy).mp z) C hM h2.2 hl H locs ls hP hS hL) (fun z => kf (fun z' => z ((i32_le hx hy).mpr z')) C hM h2.2 hl H locs ls hP hS hL)
end RW
