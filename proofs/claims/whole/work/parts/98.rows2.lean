/-! ===== rows over a wider judgement ===== -/
abbrev Zx : Type := Room × (Nat → Prop) × Nat × Nat
def CX (G : Gx) (K : Kx) (md : MD) (Z : Zx) (pc : Nat) (lo : List (Option V)) (st : List V) (M : Mem) (Q : State → Prop) : Prop :=
  Cx G K md → okM G M → okS G st → okL G lo → ∀ (H : Heap) (locs : List Loc) (ls : Array Slot), Pic G M H → va_S Z.2.1 (ks K).heap H locs → HL (gp G) md.2.2.1 ls lo →
    W (kp K) (gl G) (ke K) Z.1 (ks K) (km K) (ka K) (kb K) (kt K) (kc K) H locs Z.2.2.1 Z.2.2.2 Q (F0 (km K) pc ls (st.map (cv (gp G))))
theorem ws_DZ {G : Gx} {M : Mem} {A : Nat → Prop} (hZ : ∀ q, gA G q → A q) (h : GOK G) : va_D A (wsOf G M) := ⟨(ws_DG h).1, fun k q hk => hZ _ ((ws_DG h).2 k q hk)⟩
section RX2
variable {G : Gx} {K : Kx} {md : MD} {Z : Zx} {n pc : Nat} {lo : List (Option V)} {st : List V} {M : Mem} {Q : State → Prop}
theorem xr_iconst {z : Int} (d : decode md.2.1 pc = .ok (.iconst z, 1)) (hz : -2147483648 ≤ z ∧ z ≤ 2147483647) (kk : CX G K md Z (pc + 1) lo (vI z :: st) M Q) : CX G K md Z pc lo st M Q := by
  intro C hM hs hl H locs ls hP hS hL
  exact lv_iconst C.1 C.2.1 d rfl (kk C hM (okS_cons.mpr ⟨hz, hs⟩) hl H locs ls hP hS hL)
theorem xr_bipush {z : Int} (d : decode md.2.1 pc = .ok (.bipush z, 2)) (hz : -2147483648 ≤ z ∧ z ≤ 2147483647) (he : (Int8.ofInt z).toInt32 = Int32.ofInt z) (kk : CX G K md Z (pc + 2) lo (vI z :: st) M Q) : CX G K md Z pc lo st M Q := by
  intro C hM hs hl H locs ls hP hS hL
  exact lv_bipush C.1 C.2.1 d he (kk C hM (okS_cons.mpr ⟨hz, hs⟩) hl H locs ls hP hS hL)
theorem xr_sipush {z : Int} (d : decode md.2.1 pc = .ok (.sipush z, 3)) (hz : -2147483648 ≤ z ∧ z ≤ 2147483647) (he : (Int16.ofInt z).toInt32 = Int32.ofInt z) (kk : CX G K md Z (pc + 3) lo (vI z :: st) M Q) : CX G K md Z pc lo st M Q := by
  intro C hM hs hl H locs ls hP hS hL
  exact lv_sipush C.1 C.2.1 d he (kk C hM (okS_cons.mpr ⟨hz, hs⟩) hl H locs ls hP hS hL)
theorem xr_lconst {k : Fin 2} {z : Int} (d : decode md.2.1 pc = .ok (.lconst k, 1)) (hz : -9223372036854775808 ≤ z ∧ z ≤ 9223372036854775807) (he : Int64.ofNat (k : Nat) = Int64.ofInt z) (kk : CX G K md Z (pc + 1) lo (vL z :: st) M Q) : CX G K md Z pc lo st M Q := by
  intro C hM hs hl H locs ls hP hS hL
  exact lv_lconst C.1 C.2.1 d he (kk C hM (okS_cons.mpr ⟨hz, hs⟩) hl H locs ls hP hS hL)
theorem xr_null (d : decode md.2.1 pc = .ok (.aconst_null, 1)) (kk : CX G K md Z (pc + 1) lo (vR none :: st) M Q) : CX G K md Z pc lo st M Q := by
  intro C hM hs hl H locs ls hP hS hL
  exact lv_null C.1 C.2.1 d (kk C hM (okS_cons.mpr ⟨trivial, hs⟩) hl H locs ls hP hS hL)
theorem xr_ldc {idx : Nat} {v : Int32} {z : Int} (d : decode md.2.1 pc = .ok (.ldc idx, 2)) (w : Cond.constant md.1.cls idx v ∈ gw) (hz : -2147483648 ≤ z ∧ z ≤ 2147483647) (he : v = Int32.ofInt z) (kk : CX G K md Z (pc + 2) lo (vI z :: st) M Q) : CX G K md Z pc lo st M Q := by
  intro C hM hs hl H locs ls hP hS hL
  subst he
  exact lv_ldc C.1 C.2.1 C.2.2.2.1 (C.2.2.2.2.1 _ w) d (kk C hM (okS_cons.mpr ⟨hz, hs⟩) hl H locs ls hP hS hL)
theorem xr_ldcw {idx : Nat} {v : Int32} {z : Int} (d : decode md.2.1 pc = .ok (.ldc_w idx, 3)) (w : Cond.constant md.1.cls idx v ∈ gw) (hz : -2147483648 ≤ z ∧ z ≤ 2147483647) (he : v = Int32.ofInt z) (kk : CX G K md Z (pc + 3) lo (vI z :: st) M Q) : CX G K md Z pc lo st M Q := by
  intro C hM hs hl H locs ls hP hS hL
  subst he
  exact lv_ldcw C.1 C.2.1 C.2.2.2.1 (C.2.2.2.2.1 _ w) d (kk C hM (okS_cons.mpr ⟨hz, hs⟩) hl H locs ls hP hS hL)
theorem xr_ldc2 {idx : Nat} {v : Int64} {z : Int} (d : decode md.2.1 pc = .ok (.ldc2_w idx, 3)) (w : Cond.constantLong md.1.cls idx v ∈ gw) (hz : -9223372036854775808 ≤ z ∧ z ≤ 9223372036854775807) (he : v = Int64.ofInt z) (kk : CX G K md Z (pc + 3) lo (vL z :: st) M Q) : CX G K md Z pc lo st M Q := by
  intro C hM hs hl H locs ls hP hS hL
  subst he
  exact lv_ldc2 C.1 C.2.1 C.2.2.2.1 (C.2.2.2.2.1 _ w) d (kk C hM (okS_cons.mpr ⟨hz, hs⟩) hl H locs ls hP hS hL)
theorem xr_iload_n {k : Fin 4} {x : Int} (d : decode md.2.1 pc = .ok (.iload_n k, 1)) (h : lo[(k : Nat)]? = some (some (vI x))) (kk : CX G K md Z (pc + 1) lo (vI x :: st) M Q) : CX G K md Z pc lo st M Q := by
  intro C hM hs hl H locs ls hP hS hL
  exact lv_iload_n C.1 C.2.1 d rfl (hL.2.2 _ _ h) (kk C hM (okS_cons.mpr ⟨okL_get hl h, hs⟩) hl H locs ls hP hS hL)
theorem xr_iload {k : Nat} {x : Int} (d : decode md.2.1 pc = .ok (.iload k, 2)) (h : lo[k]? = some (some (vI x))) (kk : CX G K md Z (pc + 2) lo (vI x :: st) M Q) : CX G K md Z pc lo st M Q := by
  intro C hM hs hl H locs ls hP hS hL
  exact lv_iload C.1 C.2.1 d (hL.2.2 _ _ h) (kk C hM (okS_cons.mpr ⟨okL_get hl h, hs⟩) hl H locs ls hP hS hL)
theorem xr_lload_n {k : Fin 4} {x : Int} (d : decode md.2.1 pc = .ok (.lload_n k, 1)) (h : lo[(k : Nat)]? = some (some (vL x))) (kk : CX G K md Z (pc + 1) lo (vL x :: st) M Q) : CX G K md Z pc lo st M Q := by
  intro C hM hs hl H locs ls hP hS hL
  exact lv_lload_n C.1 C.2.1 d rfl (hL.2.2 _ _ h) (kk C hM (okS_cons.mpr ⟨okL_get hl h, hs⟩) hl H locs ls hP hS hL)
theorem xr_lload {k : Nat} {x : Int} (d : decode md.2.1 pc = .ok (.lload k, 2)) (h : lo[k]? = some (some (vL x))) (kk : CX G K md Z (pc + 2) lo (vL x :: st) M Q) : CX G K md Z pc lo st M Q := by
  intro C hM hs hl H locs ls hP hS hL
  exact lv_lload C.1 C.2.1 d (hL.2.2 _ _ h) (kk C hM (okS_cons.mpr ⟨okL_get hl h, hs⟩) hl H locs ls hP hS hL)
theorem xr_aload_n {k : Fin 4} {x : Option (Nat × Nat)} (d : decode md.2.1 pc = .ok (.aload_n k, 1)) (h : lo[(k : Nat)]? = some (some (vR x))) (kk : CX G K md Z (pc + 1) lo (vR x :: st) M Q) : CX G K md Z pc lo st M Q := by
  intro C hM hs hl H locs ls hP hS hL
  have kk' := kk C hM (okS_cons.mpr ⟨okL_get hl h, hs⟩) hl H locs ls hP hS hL
  have hh := hL.2.2 _ _ h
  cases x with
  | none => exact lv_aload_nN C.1 C.2.1 d rfl hh kk'
  | some x => exact lv_aload_n C.1 C.2.1 d rfl hh kk'
theorem xr_aload {k : Nat} {x : Option (Nat × Nat)} (d : decode md.2.1 pc = .ok (.aload k, 2)) (h : lo[k]? = some (some (vR x))) (kk : CX G K md Z (pc + 2) lo (vR x :: st) M Q) : CX G K md Z pc lo st M Q := by
  intro C hM hs hl H locs ls hP hS hL
  have kk' := kk C hM (okS_cons.mpr ⟨okL_get hl h, hs⟩) hl H locs ls hP hS hL
  have hh := hL.2.2 _ _ h
  cases x with
  | none => exact lv_aloadN C.1 C.2.1 d hh kk'
  | some x => exact lv_aload C.1 C.2.1 d hh kk'
theorem xr_istore_n {k : Fin 4} {x : Int} {lo' : List (Option V)} (d : decode md.2.1 pc = .ok (.istore_n k, 1)) (hn : (k : Nat) < md.2.2.1) (e : st1 lo k (vI x) = lo') (kk : CX G K md Z (pc + 1) lo' st M Q) : CX G K md Z pc lo (vI x :: st) M Q := by
  intro C hM hs hl H locs ls hP hS hL
  subst e
  exact lv_istore_n C.1 C.2.1 d rfl (HL_has hL) hn rfl (fun ls' h' => kk C hM (okS_cons.mp hs).2 (okL_st1 hl (okS_cons.mp hs).1) H locs ls' hP hS (HL_st1 h'))
theorem xr_istore {k : Nat} {x : Int} {lo' : List (Option V)} (d : decode md.2.1 pc = .ok (.istore k, 2)) (hn : k < md.2.2.1) (e : st1 lo k (vI x) = lo') (kk : CX G K md Z (pc + 2) lo' st M Q) : CX G K md Z pc lo (vI x :: st) M Q := by
  intro C hM hs hl H locs ls hP hS hL
  subst e
  exact lv_istore C.1 C.2.1 d (HL_has hL) hn rfl (fun ls' h' => kk C hM (okS_cons.mp hs).2 (okL_st1 hl (okS_cons.mp hs).1) H locs ls' hP hS (HL_st1 h'))
theorem xr_lstore_n {k : Fin 4} {x : Int} {lo' : List (Option V)} (d : decode md.2.1 pc = .ok (.lstore_n k, 1)) (hn : (k : Nat) + 1 < md.2.2.1) (e : st2 lo k (vL x) = lo') (kk : CX G K md Z (pc + 1) lo' st M Q) : CX G K md Z pc lo (vL x :: st) M Q := by
  intro C hM hs hl H locs ls hP hS hL
  subst e
  exact lv_lstore_n C.1 C.2.1 d rfl (HL_has hL) hn rfl (fun ls' h' => kk C hM (okS_cons.mp hs).2 (okL_st2 hl (okS_cons.mp hs).1) H locs ls' hP hS (HL_st2 h'))
theorem xr_lstore {k : Nat} {x : Int} {lo' : List (Option V)} (d : decode md.2.1 pc = .ok (.lstore k, 2)) (hn : k + 1 < md.2.2.1) (e : st2 lo k (vL x) = lo') (kk : CX G K md Z (pc + 2) lo' st M Q) : CX G K md Z pc lo (vL x :: st) M Q := by
  intro C hM hs hl H locs ls hP hS hL
  subst e
  exact lv_lstore C.1 C.2.1 d (HL_has hL) hn rfl (fun ls' h' => kk C hM (okS_cons.mp hs).2 (okL_st2 hl (okS_cons.mp hs).1) H locs ls' hP hS (HL_st2 h'))
theorem xr_astore_n {k : Fin 4} {x : Option (Nat × Nat)} {lo' : List (Option V)} (d : decode md.2.1 pc = .ok (.astore_n k, 1)) (hn : (k : Nat) < md.2.2.1) (e : st1 lo k (vR x) = lo') (kk : CX G K md Z (pc + 1) lo' st M Q) : CX G K md Z pc lo (vR x :: st) M Q := by
  intro C hM hs hl H locs ls hP hS hL
  subst e
  have kk' := fun ls' h' => kk C hM (okS_cons.mp hs).2 (okL_st1 hl (okS_cons.mp hs).1) H locs ls' hP hS (HL_st1 (i := (k : Nat)) (v := vR x) h')
  cases x with
  | none => exact lv_astore_nN C.1 C.2.1 d rfl (HL_has hL) hn rfl kk'
  | some x => exact lv_astore_n C.1 C.2.1 d rfl (HL_has hL) hn rfl kk'
theorem xr_astore {k : Nat} {x : Option (Nat × Nat)} {lo' : List (Option V)} (d : decode md.2.1 pc = .ok (.astore k, 2)) (hn : k < md.2.2.1) (e : st1 lo k (vR x) = lo') (kk : CX G K md Z (pc + 2) lo' st M Q) : CX G K md Z pc lo (vR x :: st) M Q := by
  intro C hM hs hl H locs ls hP hS hL
  subst e
  have kk' := fun ls' h' => kk C hM (okS_cons.mp hs).2 (okL_st1 hl (okS_cons.mp hs).1) H locs ls' hP hS (HL_st1 (i := k) (v := vR x) h')
  cases x with
  | none => exact lv_astoreN C.1 C.2.1 d (HL_has hL) hn rfl kk'
  | some x => exact lv_astore C.1 C.2.1 d (HL_has hL) hn rfl kk'
theorem xr_iinc {k : Nat} {x z : Int} {lo' : List (Option V)} (d : decode md.2.1 pc = .ok (.iinc k z, 3)) (h : lo[k]? = some (some (vI x))) (hn : k < md.2.2.1) (e : st1 lo k (vI (wr (x + z))) = lo') (kk : CX G K md Z (pc + 3) lo' st M Q) : CX G K md Z pc lo st M Q := by
  intro C hM hs hl H locs ls hP hS hL
  subst e
  obtain ⟨q, hq⟩ := List.getElem?_of_mem (asc_mem (π := gp G) (q := (k, cv (gp G) (vI x))) |>.mpr ⟨vI x, h, rfl⟩)
  exact lv_iinc C.1 C.2.1 d (HL_has hL) hq (i32_add x z) hn rfl (fun ls' h' => kk C hM hs (okL_st1 hl (wr_in _)) H locs ls' hP hS (HL_st1 (v := vI (wr (x + z))) h'))
theorem xr_dup {v : V} (d : decode md.2.1 pc = .ok (.dup, 1)) (hv : vcat v = 1) (kk : CX G K md Z (pc + 1) lo (v :: v :: st) M Q) : CX G K md Z pc lo (v :: st) M Q := by
  intro C hM hs hl H locs ls hP hS hL
  exact lv_dup C.1 C.2.1 d (by rw [cat_cv]; exact hv) (kk C hM (okS_cons.mpr ⟨(okS_cons.mp hs).1, hs⟩) hl H locs ls hP hS hL)
theorem xr_dup2 {v w : V} (d : decode md.2.1 pc = .ok (.dup2, 1)) (hv : vcat v = 1) (hw : vcat w = 1) (kk : CX G K md Z (pc + 1) lo (v :: w :: v :: w :: st) M Q) : CX G K md Z pc lo (v :: w :: st) M Q := by
  intro C hM hs hl H locs ls hP hS hL
  have h1 := okS_cons.mp hs
  have h2 := okS_cons.mp h1.2
  exact lv_dup2_11 C.1 C.2.1 d (by rw [cat_cv]; exact hv) (by rw [cat_cv]; exact hw) (kk C hM (okS_cons.mpr ⟨h1.1, okS_cons.mpr ⟨h2.1, hs⟩⟩) hl H locs ls hP hS hL)
theorem xr_pop {v : V} (d : decode md.2.1 pc = .ok (.pop, 1)) (hv : vcat v = 1) (kk : CX G K md Z (pc + 1) lo st M Q) : CX G K md Z pc lo (v :: st) M Q := by
  intro C hM hs hl H locs ls hP hS hL
  exact lv_pop C.1 C.2.1 d (by rw [cat_cv]; exact hv) (kk C hM (okS_cons.mp hs).2 hl H locs ls hP hS hL)
theorem xr_iadd {x y : Int} (d : decode md.2.1 pc = .ok (.iadd, 1)) (kk : CX G K md Z (pc + 1) lo (vI (wr (x + y)) :: st) M Q) : CX G K md Z pc lo (vI y :: vI x :: st) M Q := by
  intro C hM hs hl H locs ls hP hS hL
  have h1 := okS_cons.mp hs
  have h2 := okS_cons.mp h1.2
  have hy : inI y := h1.1
  have hx : inI x := h2.1
  have e : Int32.ofInt x + Int32.ofInt y = Int32.ofInt (wr (x + y)) := i32_add x y
  refine lv_iadd C.1 C.2.1 d ?_
  rw [e]
  exact kk C hM (okS_cons.mpr ⟨wr_in _, h2.2⟩) hl H locs ls hP hS hL
theorem xr_isub {x y : Int} (d : decode md.2.1 pc = .ok (.isub, 1)) (kk : CX G K md Z (pc + 1) lo (vI (wr (x - y)) :: st) M Q) : CX G K md Z pc lo (vI y :: vI x :: st) M Q := by
  intro C hM hs hl H locs ls hP hS hL
  have h1 := okS_cons.mp hs
  have h2 := okS_cons.mp h1.2
  have hy : inI y := h1.1
  have hx : inI x := h2.1
  have e : Int32.ofInt x - Int32.ofInt y = Int32.ofInt (wr (x - y)) := i32_sub x y
  refine lv_isub C.1 C.2.1 d ?_
  rw [e]
  exact kk C hM (okS_cons.mpr ⟨wr_in _, h2.2⟩) hl H locs ls hP hS hL
theorem xr_imul {x y : Int} (d : decode md.2.1 pc = .ok (.imul, 1)) (kk : CX G K md Z (pc + 1) lo (vI (wr (x * y)) :: st) M Q) : CX G K md Z pc lo (vI y :: vI x :: st) M Q := by
  intro C hM hs hl H locs ls hP hS hL
  have h1 := okS_cons.mp hs
  have h2 := okS_cons.mp h1.2
  have hy : inI y := h1.1
  have hx : inI x := h2.1
  have e : Int32.ofInt x * Int32.ofInt y = Int32.ofInt (wr (x * y)) := i32_mul x y
  refine lv_imul C.1 C.2.1 d ?_
  rw [e]
  exact kk C hM (okS_cons.mpr ⟨wr_in _, h2.2⟩) hl H locs ls hP hS hL
theorem xr_idiv {x y : Int} (d : decode md.2.1 pc = .ok (.idiv, 1)) (hne : y ≠ 0) (kk : CX G K md Z (pc + 1) lo (vI (wr (x.tdiv y)) :: st) M Q) : CX G K md Z pc lo (vI y :: vI x :: st) M Q := by
  intro C hM hs hl H locs ls hP hS hL
  have h1 := okS_cons.mp hs
  have h2 := okS_cons.mp h1.2
  have hy : inI y := h1.1
  have hx : inI x := h2.1
  have e : Int32.ofInt x / Int32.ofInt y = Int32.ofInt (wr (x.tdiv y)) := i32_div hx hy
  refine lv_idiv C.1 C.2.1 d (fun z => hne ((i32_eq hy in0).mp z)) ?_
  rw [e]
  exact kk C hM (okS_cons.mpr ⟨wr_in _, h2.2⟩) hl H locs ls hP hS hL
theorem xr_irem {x y : Int} (d : decode md.2.1 pc = .ok (.irem, 1)) (hne : y ≠ 0) (kk : CX G K md Z (pc + 1) lo (vI (wr (x.tmod y)) :: st) M Q) : CX G K md Z pc lo (vI y :: vI x :: st) M Q := by
  intro C hM hs hl H locs ls hP hS hL
  have h1 := okS_cons.mp hs
  have h2 := okS_cons.mp h1.2
  have hy : inI y := h1.1
  have hx : inI x := h2.1
  have e : Int32.ofInt x - Int32.ofInt x / Int32.ofInt y * Int32.ofInt y = Int32.ofInt (wr (x.tmod y)) := i32_rem hx hy
  refine lv_irem C.1 C.2.1 d (fun z => hne ((i32_eq hy in0).mp z)) ?_
  rw [e]
  exact kk C hM (okS_cons.mpr ⟨wr_in _, h2.2⟩) hl H locs ls hP hS hL
theorem xr_iand {x y : Int} (d : decode md.2.1 pc = .ok (.iand, 1)) (kk : CX G K md Z (pc + 1) lo (vI (bAnd x y) :: st) M Q) : CX G K md Z pc lo (vI y :: vI x :: st) M Q := by
  intro C hM hs hl H locs ls hP hS hL
  have h1 := okS_cons.mp hs
  have h2 := okS_cons.mp h1.2
  have hy : inI y := h1.1
  have hx : inI x := h2.1
  have e : Int32.ofInt x &&& Int32.ofInt y = Int32.ofInt (bAnd x y) := (i32_of _).symm
  refine lv_iand C.1 C.2.1 d ?_
  rw [e]
  exact kk C hM (okS_cons.mpr ⟨i32_in _, h2.2⟩) hl H locs ls hP hS hL
theorem xr_ior {x y : Int} (d : decode md.2.1 pc = .ok (.ior, 1)) (kk : CX G K md Z (pc + 1) lo (vI (bOr x y) :: st) M Q) : CX G K md Z pc lo (vI y :: vI x :: st) M Q := by
  intro C hM hs hl H locs ls hP hS hL
  have h1 := okS_cons.mp hs
  have h2 := okS_cons.mp h1.2
  have hy : inI y := h1.1
  have hx : inI x := h2.1
  have e : Int32.ofInt x ||| Int32.ofInt y = Int32.ofInt (bOr x y) := (i32_of _).symm
  refine lv_ior C.1 C.2.1 d ?_
  rw [e]
  exact kk C hM (okS_cons.mpr ⟨i32_in _, h2.2⟩) hl H locs ls hP hS hL
theorem xr_ixor {x y : Int} (d : decode md.2.1 pc = .ok (.ixor, 1)) (kk : CX G K md Z (pc + 1) lo (vI (bXor x y) :: st) M Q) : CX G K md Z pc lo (vI y :: vI x :: st) M Q := by
  intro C hM hs hl H locs ls hP hS hL
  have h1 := okS_cons.mp hs
  have h2 := okS_cons.mp h1.2
  have hy : inI y := h1.1
  have hx : inI x := h2.1
  have e : Int32.ofInt x ^^^ Int32.ofInt y = Int32.ofInt (bXor x y) := (i32_of _).symm
  refine lv_ixor C.1 C.2.1 d ?_
  rw [e]
  exact kk C hM (okS_cons.mpr ⟨i32_in _, h2.2⟩) hl H locs ls hP hS hL
theorem xr_ishl {x y : Int} (d : decode md.2.1 pc = .ok (.ishl, 1)) (kk : CX G K md Z (pc + 1) lo (vI (bShl x y) :: st) M Q) : CX G K md Z pc lo (vI y :: vI x :: st) M Q := by
  intro C hM hs hl H locs ls hP hS hL
  have h1 := okS_cons.mp hs
  have h2 := okS_cons.mp h1.2
  have hy : inI y := h1.1
  have hx : inI x := h2.1
  have e : Int32.ofInt x <<< (Int32.ofInt y &&& 31) = Int32.ofInt (bShl x y) := (i32_of _).symm
  refine lv_ishl C.1 C.2.1 d ?_
  rw [e]
  exact kk C hM (okS_cons.mpr ⟨i32_in _, h2.2⟩) hl H locs ls hP hS hL
theorem xr_ishr {x y : Int} (d : decode md.2.1 pc = .ok (.ishr, 1)) (kk : CX G K md Z (pc + 1) lo (vI (bShr x y) :: st) M Q) : CX G K md Z pc lo (vI y :: vI x :: st) M Q := by
  intro C hM hs hl H locs ls hP hS hL
  have h1 := okS_cons.mp hs
  have h2 := okS_cons.mp h1.2
  have hy : inI y := h1.1
  have hx : inI x := h2.1
  have e : Int32.ofInt x >>> (Int32.ofInt y &&& 31) = Int32.ofInt (bShr x y) := (i32_of _).symm
  refine lv_ishr C.1 C.2.1 d ?_
  rw [e]
  exact kk C hM (okS_cons.mpr ⟨i32_in _, h2.2⟩) hl H locs ls hP hS hL
theorem xr_ladd {x y : Int} (d : decode md.2.1 pc = .ok (.ladd, 1)) (kk : CX G K md Z (pc + 1) lo (vL (wl (x + y)) :: st) M Q) : CX G K md Z pc lo (vL y :: vL x :: st) M Q := by
  intro C hM hs hl H locs ls hP hS hL
  have h1 := okS_cons.mp hs
  have h2 := okS_cons.mp h1.2
  have hy : inL y := h1.1
  have hx : inL x := h2.1
  have e : Int64.ofInt x + Int64.ofInt y = Int64.ofInt (wl (x + y)) := i64_add x y
  refine lv_ladd C.1 C.2.1 d ?_
  rw [e]
  exact kk C hM (okS_cons.mpr ⟨wl_in _, h2.2⟩) hl H locs ls hP hS hL
theorem xr_lsub {x y : Int} (d : decode md.2.1 pc = .ok (.lsub, 1)) (kk : CX G K md Z (pc + 1) lo (vL (wl (x - y)) :: st) M Q) : CX G K md Z pc lo (vL y :: vL x :: st) M Q := by
  intro C hM hs hl H locs ls hP hS hL
  have h1 := okS_cons.mp hs
  have h2 := okS_cons.mp h1.2
  have hy : inL y := h1.1
  have hx : inL x := h2.1
  have e : Int64.ofInt x - Int64.ofInt y = Int64.ofInt (wl (x - y)) := i64_sub x y
  refine lv_lsub C.1 C.2.1 d ?_
  rw [e]
  exact kk C hM (okS_cons.mpr ⟨wl_in _, h2.2⟩) hl H locs ls hP hS hL
theorem xr_lmul {x y : Int} (d : decode md.2.1 pc = .ok (.lmul, 1)) (kk : CX G K md Z (pc + 1) lo (vL (wl (x * y)) :: st) M Q) : CX G K md Z pc lo (vL y :: vL x :: st) M Q := by
  intro C hM hs hl H locs ls hP hS hL
  have h1 := okS_cons.mp hs
  have h2 := okS_cons.mp h1.2
  have hy : inL y := h1.1
  have hx : inL x := h2.1
  have e : Int64.ofInt x * Int64.ofInt y = Int64.ofInt (wl (x * y)) := i64_mul x y
  refine lv_lmul C.1 C.2.1 d ?_
  rw [e]
  exact kk C hM (okS_cons.mpr ⟨wl_in _, h2.2⟩) hl H locs ls hP hS hL
theorem xr_ldiv {x y : Int} (d : decode md.2.1 pc = .ok (.ldiv, 1)) (hne : y ≠ 0) (kk : CX G K md Z (pc + 1) lo (vL (wl (x.tdiv y)) :: st) M Q) : CX G K md Z pc lo (vL y :: vL x :: st) M Q := by
  intro C hM hs hl H locs ls hP hS hL
  have h1 := okS_cons.mp hs
  have h2 := okS_cons.mp h1.2
  have hy : inL y := h1.1
  have hx : inL x := h2.1
  have e : Int64.ofInt x / Int64.ofInt y = Int64.ofInt (wl (x.tdiv y)) := i64_div hx hy
  refine lv_ldiv C.1 C.2.1 d (fun z => hne ((i64_eq hy in0L).mp z)) ?_
  rw [e]
  exact kk C hM (okS_cons.mpr ⟨wl_in _, h2.2⟩) hl H locs ls hP hS hL
theorem xr_lrem {x y : Int} (d : decode md.2.1 pc = .ok (.lrem, 1)) (hne : y ≠ 0) (kk : CX G K md Z (pc + 1) lo (vL (wl (x.tmod y)) :: st) M Q) : CX G K md Z pc lo (vL y :: vL x :: st) M Q := by
  intro C hM hs hl H locs ls hP hS hL
  have h1 := okS_cons.mp hs
  have h2 := okS_cons.mp h1.2
  have hy : inL y := h1.1
  have hx : inL x := h2.1
  have e : Int64.ofInt x - Int64.ofInt x / Int64.ofInt y * Int64.ofInt y = Int64.ofInt (wl (x.tmod y)) := i64_rem hx hy
  refine lv_lrem C.1 C.2.1 d (fun z => hne ((i64_eq hy in0L).mp z)) ?_
  rw [e]
  exact kk C hM (okS_cons.mpr ⟨wl_in _, h2.2⟩) hl H locs ls hP hS hL
theorem xr_land {x y : Int} (d : decode md.2.1 pc = .ok (.land, 1)) (kk : CX G K md Z (pc + 1) lo (vL (lAnd x y) :: st) M Q) : CX G K md Z pc lo (vL y :: vL x :: st) M Q := by
  intro C hM hs hl H locs ls hP hS hL
  have h1 := okS_cons.mp hs
  have h2 := okS_cons.mp h1.2
  have hy : inL y := h1.1
  have hx : inL x := h2.1
  have e : Int64.ofInt x &&& Int64.ofInt y = Int64.ofInt (lAnd x y) := (i64_of _).symm
  refine lv_land C.1 C.2.1 d ?_
  rw [e]
  exact kk C hM (okS_cons.mpr ⟨i64_in _, h2.2⟩) hl H locs ls hP hS hL
theorem xr_lor {x y : Int} (d : decode md.2.1 pc = .ok (.lor, 1)) (kk : CX G K md Z (pc + 1) lo (vL (lOr x y) :: st) M Q) : CX G K md Z pc lo (vL y :: vL x :: st) M Q := by
  intro C hM hs hl H locs ls hP hS hL
  have h1 := okS_cons.mp hs
  have h2 := okS_cons.mp h1.2
  have hy : inL y := h1.1
  have hx : inL x := h2.1
  have e : Int64.ofInt x ||| Int64.ofInt y = Int64.ofInt (lOr x y) := (i64_of _).symm
  refine lv_lor C.1 C.2.1 d ?_
  rw [e]
  exact kk C hM (okS_cons.mpr ⟨i64_in _, h2.2⟩) hl H locs ls hP hS hL
theorem xr_iushr {x y : Int} (d : decode md.2.1 pc = .ok (.iushr, 1)) (kk : CX G K md Z (pc + 1) lo (vI (bUshr x y) :: st) M Q) : CX G K md Z pc lo (vI y :: vI x :: st) M Q := by
  intro C hM hs hl H locs ls hP hS hL
  have h2 := okS_cons.mp (okS_cons.mp hs).2
  exact lv_iushr C.1 C.2.1 d (i32_of _).symm (kk C hM (okS_cons.mpr ⟨i32_in _, h2.2⟩) hl H locs ls hP hS hL)
theorem xr_lshl {x y : Int} (d : decode md.2.1 pc = .ok (.lshl, 1)) (kk : CX G K md Z (pc + 1) lo (vL (lShl x y) :: st) M Q) : CX G K md Z pc lo (vI y :: vL x :: st) M Q := by
  intro C hM hs hl H locs ls hP hS hL
  have h2 := okS_cons.mp (okS_cons.mp hs).2
  exact lv_lshl C.1 C.2.1 d (i64_of _).symm (kk C hM (okS_cons.mpr ⟨i64_in _, h2.2⟩) hl H locs ls hP hS hL)
theorem xr_i2l {x : Int} (d : decode md.2.1 pc = .ok (.i2l, 1)) (kk : CX G K md Z (pc + 1) lo (vL x :: st) M Q) : CX G K md Z pc lo (vI x :: st) M Q := by
  intro C hM hs hl H locs ls hP hS hL
  have h1 := okS_cons.mp hs
  exact lv_i2l C.1 C.2.1 d (i32_long h1.1) (kk C hM (okS_cons.mpr ⟨inI_L h1.1, h1.2⟩) hl H locs ls hP hS hL)
theorem xr_l2i {x : Int} (d : decode md.2.1 pc = .ok (.l2i, 1)) (kk : CX G K md Z (pc + 1) lo (vI (wr x) :: st) M Q) : CX G K md Z pc lo (vL x :: st) M Q := by
  intro C hM hs hl H locs ls hP hS hL
  have h1 := okS_cons.mp hs
  exact lv_l2i C.1 C.2.1 d (i64_int x) (kk C hM (okS_cons.mpr ⟨wr_in _, h1.2⟩) hl H locs ls hP hS hL)
theorem xr_i2b {x : Int} (d : decode md.2.1 pc = .ok (.i2b, 1)) (kk : CX G K md Z (pc + 1) lo (vI (toB x) :: st) M Q) : CX G K md Z pc lo (vI x :: st) M Q := by
  intro C hM hs hl H locs ls hP hS hL
  have h1 := okS_cons.mp hs
  exact lv_i2b C.1 C.2.1 d (i32_of _).symm (kk C hM (okS_cons.mpr ⟨i32_in _, h1.2⟩) hl H locs ls hP hS hL)
theorem xr_goto {off : Int} {tgt : Nat} (d : decode md.2.1 pc = .ok (.goto off, 3)) (ht : (pc : Int) + off = (tgt : Int)) (kk : CX G K md Z tgt lo st M Q) : CX G K md Z pc lo st M Q := by
  intro C hM hs hl H locs ls hP hS hL
  exact lv_goto C.1 C.2.1 d ht (kk C hM hs hl H locs ls hP hS hL)
theorem xr_if_eq {x : Int} {off : Int} {tgt : Nat} (d : decode md.2.1 pc = .ok (.ifCond .eq off, 3)) (ht : (pc : Int) + off = (tgt : Int)) (kt : x = 0 → CX G K md Z tgt lo st M Q) (kf : ¬ (x = 0) → CX G K md Z (pc + 3) lo st M Q) : CX G K md Z pc lo (vI x :: st) M Q := by
  intro C hM hs hl H locs ls hP hS hL
  have h1 := okS_cons.mp hs
  have hx : inI x := h1.1
  exact lv_if_eq C.1 C.2.1 d ht (fun z => kt ((i32_eq hx in0).mp z) C hM h1.2 hl H locs ls hP hS hL) (fun z => kf (fun z' => z ((i32_eq hx in0).mpr z')) C hM h1.2 hl H locs ls hP hS hL)
theorem xr_icmp_eq {x y : Int} {off : Int} {tgt : Nat} (d : decode md.2.1 pc = .ok (.if_icmp .eq off, 3)) (ht : (pc : Int) + off = (tgt : Int)) (kt : x = y → CX G K md Z tgt lo st M Q) (kf : ¬ (x = y) → CX G K md Z (pc + 3) lo st M Q) : CX G K md Z pc lo (vI y :: vI x :: st) M Q := by
  intro C hM hs hl H locs ls hP hS hL
  have h1 := okS_cons.mp hs
  have h2 := okS_cons.mp h1.2
  have hy : inI y := h1.1
  have hx : inI x := h2.1
  exact lv_icmp_eq C.1 C.2.1 d ht (fun z => kt ((i32_eq hx hy).mp z) C hM h2.2 hl H locs ls hP hS hL) (fun z => kf (fun z' => z ((i32_eq hx hy).mpr z')) C hM h2.2 hl H locs ls hP hS hL)
theorem xr_if_ne {x : Int} {off : Int} {tgt : Nat} (d : decode md.2.1 pc = .ok (.ifCond .ne off, 3)) (ht : (pc : Int) + off = (tgt : Int)) (kt : ¬ x = 0 → CX G K md Z tgt lo st M Q) (kf : x = 0 → CX G K md Z (pc + 3) lo st M Q) : CX G K md Z pc lo (vI x :: st) M Q := by
  intro C hM hs hl H locs ls hP hS hL
  have h1 := okS_cons.mp hs
  have hx : inI x := h1.1
  exact lv_if_ne C.1 C.2.1 d ht (fun z => kt ((not_congr (i32_eq hx in0)).mp z) C hM h1.2 hl H locs ls hP hS hL) (fun z => kf ((i32_eq hx in0).mp z) C hM h1.2 hl H locs ls hP hS hL)
theorem xr_icmp_ne {x y : Int} {off : Int} {tgt : Nat} (d : decode md.2.1 pc = .ok (.if_icmp .ne off, 3)) (ht : (pc : Int) + off = (tgt : Int)) (kt : ¬ x = y → CX G K md Z tgt lo st M Q) (kf : x = y → CX G K md Z (pc + 3) lo st M Q) : CX G K md Z pc lo (vI y :: vI x :: st) M Q := by
  intro C hM hs hl H locs ls hP hS hL
  have h1 := okS_cons.mp hs
  have h2 := okS_cons.mp h1.2
  have hy : inI y := h1.1
  have hx : inI x := h2.1
  exact lv_icmp_ne C.1 C.2.1 d ht (fun z => kt ((not_congr (i32_eq hx hy)).mp z) C hM h2.2 hl H locs ls hP hS hL) (fun z => kf ((i32_eq hx hy).mp z) C hM h2.2 hl H locs ls hP hS hL)
theorem xr_if_lt {x : Int} {off : Int} {tgt : Nat} (d : decode md.2.1 pc = .ok (.ifCond .lt off, 3)) (ht : (pc : Int) + off = (tgt : Int)) (kt : x < 0 → CX G K md Z tgt lo st M Q) (kf : ¬ (x < 0) → CX G K md Z (pc + 3) lo st M Q) : CX G K md Z pc lo (vI x :: st) M Q := by
  intro C hM hs hl H locs ls hP hS hL
  have h1 := okS_cons.mp hs
  have hx : inI x := h1.1
  exact lv_if_lt C.1 C.2.1 d ht (fun z => kt ((i32_lt hx in0).mp z) C hM h1.2 hl H locs ls hP hS hL) (fun z => kf (fun z' => z ((i32_lt hx in0).mpr z')) C hM h1.2 hl H locs ls hP hS hL)
theorem xr_icmp_lt {x y : Int} {off : Int} {tgt : Nat} (d : decode md.2.1 pc = .ok (.if_icmp .lt off, 3)) (ht : (pc : Int) + off = (tgt : Int)) (kt : x < y → CX G K md Z tgt lo st M Q) (kf : ¬ (x < y) → CX G K md Z (pc + 3) lo st M Q) : CX G K md Z pc lo (vI y :: vI x :: st) M Q := by
  intro C hM hs hl H locs ls hP hS hL
  have h1 := okS_cons.mp hs
  have h2 := okS_cons.mp h1.2
  have hy : inI y := h1.1
  have hx : inI x := h2.1
  exact lv_icmp_lt C.1 C.2.1 d ht (fun z => kt ((i32_lt hx hy).mp z) C hM h2.2 hl H locs ls hP hS hL) (fun z => kf (fun z' => z ((i32_lt hx hy).mpr z')) C hM h2.2 hl H locs ls hP hS hL)
theorem xr_if_ge {x : Int} {off : Int} {tgt : Nat} (d : decode md.2.1 pc = .ok (.ifCond .ge off, 3)) (ht : (pc : Int) + off = (tgt : Int)) (kt : 0 ≤ x → CX G K md Z tgt lo st M Q) (kf : ¬ (0 ≤ x) → CX G K md Z (pc + 3) lo st M Q) : CX G K md Z pc lo (vI x :: st) M Q := by
  intro C hM hs hl H locs ls hP hS hL
  have h1 := okS_cons.mp hs
  have hx : inI x := h1.1
  exact lv_if_ge C.1 C.2.1 d ht (fun z => kt ((i32_le in0 hx).mp z) C hM h1.2 hl H locs ls hP hS hL) (fun z => kf (fun z' => z ((i32_le in0 hx).mpr z')) C hM h1.2 hl H locs ls hP hS hL)
theorem xr_icmp_ge {x y : Int} {off : Int} {tgt : Nat} (d : decode md.2.1 pc = .ok (.if_icmp .ge off, 3)) (ht : (pc : Int) + off = (tgt : Int)) (kt : y ≤ x → CX G K md Z tgt lo st M Q) (kf : ¬ (y ≤ x) → CX G K md Z (pc + 3) lo st M Q) : CX G K md Z pc lo (vI y :: vI x :: st) M Q := by
  intro C hM hs hl H locs ls hP hS hL
  have h1 := okS_cons.mp hs
  have h2 := okS_cons.mp h1.2
  have hy : inI y := h1.1
  have hx : inI x := h2.1
  exact lv_icmp_ge C.1 C.2.1 d ht (fun z => kt ((i32_le hy hx).mp z) C hM h2.2 hl H locs ls hP hS hL) (fun z => kf (fun z' => z ((i32_le hy hx).mpr z')) C hM h2.2 hl H locs ls hP hS hL)
theorem xr_if_gt {x : Int} {off : Int} {tgt : Nat} (d : decode md.2.1 pc = .ok (.ifCond .gt off, 3)) (ht : (pc : Int) + off = (tgt : Int)) (kt : 0 < x → CX G K md Z tgt lo st M Q) (kf : ¬ (0 < x) → CX G K md Z (pc + 3) lo st M Q) : CX G K md Z pc lo (vI x :: st) M Q := by
  intro C hM hs hl H locs ls hP hS hL
  have h1 := okS_cons.mp hs
  have hx : inI x := h1.1
  exact lv_if_gt C.1 C.2.1 d ht (fun z => kt ((i32_lt in0 hx).mp z) C hM h1.2 hl H locs ls hP hS hL) (fun z => kf (fun z' => z ((i32_lt in0 hx).mpr z')) C hM h1.2 hl H locs ls hP hS hL)
theorem xr_icmp_gt {x y : Int} {off : Int} {tgt : Nat} (d : decode md.2.1 pc = .ok (.if_icmp .gt off, 3)) (ht : (pc : Int) + off = (tgt : Int)) (kt : y < x → CX G K md Z tgt lo st M Q) (kf : ¬ (y < x) → CX G K md Z (pc + 3) lo st M Q) : CX G K md Z pc lo (vI y :: vI x :: st) M Q := by
  intro C hM hs hl H locs ls hP hS hL
  have h1 := okS_cons.mp hs
  have h2 := okS_cons.mp h1.2
  have hy : inI y := h1.1
  have hx : inI x := h2.1
  exact lv_icmp_gt C.1 C.2.1 d ht (fun z => kt ((i32_lt hy hx).mp z) C hM h2.2 hl H locs ls hP hS hL) (fun z => kf (fun z' => z ((i32_lt hy hx).mpr z')) C hM h2.2 hl H locs ls hP hS hL)
theorem xr_if_le {x : Int} {off : Int} {tgt : Nat} (d : decode md.2.1 pc = .ok (.ifCond .le off, 3)) (ht : (pc : Int) + off = (tgt : Int)) (kt : x ≤ 0 → CX G K md Z tgt lo st M Q) (kf : ¬ (x ≤ 0) → CX G K md Z (pc + 3) lo st M Q) : CX G K md Z pc lo (vI x :: st) M Q := by
  intro C hM hs hl H locs ls hP hS hL
  have h1 := okS_cons.mp hs
  have hx : inI x := h1.1
  exact lv_if_le C.1 C.2.1 d ht (fun z => kt ((i32_le hx in0).mp z) C hM h1.2 hl H locs ls hP hS hL) (fun z => kf (fun z' => z ((i32_le hx in0).mpr z')) C hM h1.2 hl H locs ls hP hS hL)
theorem xr_icmp_le {x y : Int} {off : Int} {tgt : Nat} (d : decode md.2.1 pc = .ok (.if_icmp .le off, 3)) (ht : (pc : Int) + off = (tgt : Int)) (kt : x ≤ y → CX G K md Z tgt lo st M Q) (kf : ¬ (x ≤ y) → CX G K md Z (pc + 3) lo st M Q) : CX G K md Z pc lo (vI y :: vI x :: st) M Q := by
  intro C hM hs hl H locs ls hP hS hL
  have h1 := okS_cons.mp hs
  have h2 := okS_cons.mp h1.2
  have hy : inI y := h1.1
  have hx : inI x := h2.1
  exact lv_icmp_le C.1 C.2.1 d ht (fun z => kt ((i32_le hx hy).mp z) C hM h2.2 hl H locs ls hP hS hL) (fun z => kf (fun z' => z ((i32_le hx hy).mpr z')) C hM h2.2 hl H locs ls hP hS hL)
theorem xw_get {ci k o idx : Nat} {v : V} (d : decode md.2.1 pc = .ok (.getfield idx, 3)) (f : Fl md.1.cls idx ci k) (ho : oc o = ci) (hv : fv (gp G) M o k = cv (gp G) v) (hov : okM G M → o ∈ gL G → k < nf (oc o) → GOK G → okV G v) (kk : CX G K md Z (pc + 3) lo (v :: st) M Q) : CX G K md Z pc lo (vO o :: st) M Q := by
  intro C hM hs hl H locs ls hP hS hL
  obtain ⟨Cn, T, N, h1, h2, h3, h4, h5⟩ := f
  have h6 := okS_cons.mp hs
  have hm := live_of h6.1 ho h1
  obtain ⟨q, hq, hw⟩ := ws_mem (M := M) hm
  rw [ce_obj, ho] at hw
  have h3' : k < nf (oc o) := by rw [ho, ← h2]; exact h3
  refine va_get C.1 C.2.1 C.2.2.2.2.1 h4 C.2.2.2.1 C.2.2.2.2.2.2.2.1.1 hP q hw h1 k h3 (C.2.2.2.2.1 _ h5) (fun _ h => h) (v := cv (gp G) v) (by rw [fl_get h3', hv]) d ?_
  exact kk C hM (okS_cons.mpr ⟨hov hM (lc_live hm) h3' C.2.2.2.2.2.2.2.2, h6.2⟩) hl H locs ls hP hS hL
theorem xr_getI {ci k o idx : Nat} (d : decode md.2.1 pc = .ok (.getfield idx, 3)) (f : Fl md.1.cls idx ci k) (ho : oc o = ci) (hk : fK ci k = 0) (kk : CX G K md Z (pc + 3) lo (vI (M o k 0) :: st) M Q) : CX G K md Z pc lo (vO o :: st) M Q := by
  subst ho
  refine xw_get d f rfl (by unfold fv; rw [if_pos hk]; rfl) (fun hM _ _ _ => ?_) kk
  have := hM o k 0
  unfold okC at this
  simp only [hk] at this
  exact this
theorem xr_getA {ci k o idx : Nat} (d : decode md.2.1 pc = .ok (.getfield idx, 3)) (f : Fl md.1.cls idx ci k) (ho : oc o = ci) (hk : isA (fK ci k) = true) (kk : CX G K md Z (pc + 3) lo (vA o k :: st) M Q) : CX G K md Z pc lo (vO o :: st) M Q := by
  subst ho
  refine xw_get (v := vA o k) d f rfl ?_ (fun _ h1 h2 _ => Or.inl (lc_arr h1 h2 hk)) kk
  unfold isA at hk
  simp only [Bool.and_eq_true, decide_eq_true_eq] at hk
  unfold fv
  rw [if_neg (by omega), if_neg (by omega), if_neg (by omega)]; rfl
theorem xr_getO {ci k o o' idx : Nat} (d : decode md.2.1 pc = .ok (.getfield idx, 3)) (f : Fl md.1.cls idx ci k) (ho : oc o = ci) (hk : fK ci k = 7) (he : lk o k = o') (kk : CX G K md Z (pc + 3) lo (vO o' :: st) M Q) : CX G K md Z pc lo (vO o :: st) M Q := by
  subst ho; subst he
  refine xw_get (v := vO (lk o k)) d f rfl ?_ (fun _ h1 _ h3 => Or.inl (lc_obj (h3.2 o h1 k hk))) kk
  unfold fv
  rw [if_neg (by omega), if_pos hk]; rfl
theorem xr_getN {ci k o o' idx : Nat} (d : decode md.2.1 pc = .ok (.getfield idx, 3)) (f : Fl md.1.cls idx ci k) (ho : oc o = ci) (hk : fK ci k = 8) (he : lk o k = o') (kk : CX G K md Z (pc + 3) lo (vR (if M o k 0 = 0 then none else some (o', 99)) :: st) M Q) : CX G K md Z pc lo (vO o :: st) M Q := by
  subst ho; subst he
  refine xw_get d f rfl ?_ (fun hM h1 _ _ => ?_) kk
  · unfold fv
    rw [if_neg (by omega), if_neg (by omega), if_pos hk]
    split <;> rfl
  · have := hM o k 0
    unfold okC at this
    simp only [hk] at this
    by_cases h0 : M o k 0 = 0
    · rw [if_pos h0]; trivial
    · rw [if_neg h0]; exact Or.inl (lc_obj (this h0 h1))
theorem xr_put {ci k o idx : Nat} {x : Int} (hZ : ∀ q, gA G q → Z.2.1 q) (d : decode md.2.1 pc = .ok (.putfield idx, 3)) (f : Fp md.1.cls idx ci k) (ho : oc o = ci) (hk : fK ci k = 0) (kk : CX G K md Z (pc + 3) lo st (mset M o k 0 x) Q) : CX G K md Z pc lo (vI x :: vO o :: st) M Q := by
  intro C hM hs hl H locs ls hP hS hL
  obtain ⟨Cn, T, N, ty, h1, h2, h3, h4, h5, h6, h7, h8, h9⟩ := f
  have hs1 := okS_cons.mp hs
  have hs2 := okS_cons.mp hs1.2
  have hx : inI x := hs1.1
  have hm := live_of hs2.1 ho h1
  obtain ⟨q, hq, hw⟩ := ws_mem (M := M) hm
  rw [ce_obj, ho] at hw
  have h3' : k < nf (oc o) := by rw [ho, ← h2]; exact h3
  have hG := C.2.2.2.2.2.2.2.2
  refine va_put C.1 C.2.1 C.2.2.2.2.1 h4 ty h6 h7 C.2.2.2.1 C.2.2.2.2.2.2.2.1.1 hP (ws_DZ hZ hG) hS q hw h1 k h3 (C.2.2.2.2.1 _ h5) (fun _ h => h) h8 (v := .int (Int32.ofInt x)) h9 rfl rfl (by unfold fl; rw [List.length_map, List.length_range]; exact h3') d (fun H1 locs1 g1 g2 g3 => ?_)
  have hkn : k ≠ 99 := by have := nf_99 (oc o); omega
  have e : ce G (mset M o k 0 x) (o, 99) = .inr (ci, (fl (gp G) M o).set k (.int (Int32.ofInt x))) := by
    rw [ce_obj, ho]
    congr 2
    apply List.ext_getElem?
    intro j
    by_cases hj : j = k
    · subst hj
      rw [List.getElem?_set_self (by unfold fl; rw [List.length_map, List.length_range]; exact h3'), fl_get h3']
      unfold fv
      rw [ho, if_pos hk, mset_self]
    · rw [List.getElem?_set_ne (Ne.symm hj)]
      by_cases hjn : j < nf (oc o)
      · rw [fl_get hjn, fl_get hjn]
        unfold fv
        rw [mset_ne (by intro h; exact hj h.2.1)]
      · rw [List.getElem?_eq_none (by unfold fl; rw [List.length_map, List.length_range]; omega), List.getElem?_eq_none (by unfold fl; rw [List.length_map, List.length_range]; omega)]
  rw [← e, ws_set (M' := mset M o k 0 x) (ws_DZ hZ hG) hq (fun c' hm' hc' => ce_obj_other hm' hc' (by rw [ho, hk]; rfl))] at g1
  exact kk C (okM_set hM (by unfold okC; rw [ho, hk, mset_self]; exact hx)) hs2.2 hl H1 locs1 ls g1 g3 hL
theorem xr_alen {o k : Nat} {z : Int} (d : decode md.2.1 pc = .ok (.arraylength, 1)) (hk : isA (fK (oc o) k) = true) (he : aL (oc o) k = z.toNat) (hz : 0 ≤ z ∧ z ≤ 2147483647) (kk : CX G K md Z (pc + 1) lo (vI z :: st) M Q) : CX G K md Z pc lo (vA o k :: st) M Q := by
  intro C hM hs hl H locs ls hP hS hL
  have hs1 := okS_cons.mp hs
  obtain ⟨q, hq, hw⟩ := w_arr (M := M) hs1.1 hk
  have hz' : Int32.ofNat (aL (oc o) k) = Int32.ofInt z := by
    rw [he]
    apply Int32.toInt_inj.mp
    rw [i32_id ⟨by omega, hz.2⟩]
    have := nI_toInt (n := z.toNat) (by omega)
    unfold nI at this
    rw [this]; omega
  have hk' := hk
  unfold isA at hk'
  simp only [Bool.and_eq_true, decide_eq_true_eq] at hk'
  have ht : ∃ ty, (tysOf (gy G))[fK (oc o) k - 1]? = some (gy G (fK (oc o) k), ty) := by
    generalize fK (oc o) k = t at hk'
    have : t = 1 ∨ t = 2 ∨ t = 3 ∨ t = 4 ∨ t = 5 ∨ t = 6 := by omega
    rcases this with rfl | rfl | rfl | rfl | rfl | rfl <;> exact ⟨_, rfl⟩
  obtain ⟨ty, ht⟩ := ht
  exact va_alen C.1 C.2.1 C.2.2.2.2.2.2.2.1.1 hP q _ hw ht hz' d (kk C hM (okS_cons.mpr ⟨⟨by omega, hz.2⟩, hs1.2⟩) hl H locs ls hP hS hL)
theorem xr_iald {o k : Nat} {i : Int} (d : decode md.2.1 pc = .ok (.iaload, 1)) (hk : fK (oc o) k = 1) (h : 0 ≤ i ∧ i < (aL (oc o) k : Nat)) (kk : CX G K md Z (pc + 1) lo (vI (M o k i.toNat) :: st) M Q) : CX G K md Z pc lo (vI i :: vA o k :: st) M Q := by
  intro C hM hs hl H locs ls hP hS hL
  have hs1 := okS_cons.mp hs
  have hs2 := okS_cons.mp hs1.2
  have hi : inI i := hs1.1
  obtain ⟨q, hq, hw⟩ := w_arr (M := M) hs2.1 (by rw [hk]; rfl)
  rw [av_int (by omega), hk] at hw
  refine va_iald C.1 C.2.1 C.2.2.2.2.2.2.2.1.1 hP q 0 hw rfl ((i32_vp hi).mpr h) d ?_
  rw [i32_nat hi]
  refine kk C hM (okS_cons.mpr ⟨?_, hs2.2⟩) hl H locs ls hP hS hL
  have := hM o k i.toNat
  unfold okC at this
  simp only [hk] at this
  exact this
theorem xr_bald {o k : Nat} {i : Int} (d : decode md.2.1 pc = .ok (.baload, 1)) (hk : fK (oc o) k = 2 ∨ fK (oc o) k = 3) (h : 0 ≤ i ∧ i < (aL (oc o) k : Nat)) (kk : CX G K md Z (pc + 1) lo (vI (M o k i.toNat) :: st) M Q) : CX G K md Z pc lo (vI i :: vA o k :: st) M Q := by
  intro C hM hs hl H locs ls hP hS hL
  have hs1 := okS_cons.mp hs
  have hs2 := okS_cons.mp hs1.2
  have hi : inI i := hs1.1
  obtain ⟨q, hq, hw⟩ := w_arr (M := M) hs2.1 (by rcases hk with h | h <;> rw [h] <;> rfl)
  have hr : inI (M o k i.toNat) := by
    have := hM o k i.toNat
    unfold okC at this
    rcases hk with h | h <;> simp only [h] at this <;> (unfold inI; simp at this; omega)
  have kk' := kk C hM (okS_cons.mpr ⟨hr, hs2.2⟩) hl H locs ls hP hS hL
  rw [av_int (by omega)] at hw
  rcases hk with hk | hk
  · rw [hk] at hw
    refine va_bald C.1 C.2.1 C.2.2.2.2.2.2.2.1.1 hP q 1 hw rfl ((i32_vp hi).mpr h) d ?_
    rw [i32_nat hi]; exact kk'
  · rw [hk] at hw
    refine va_zald C.1 C.2.1 C.2.2.2.2.2.2.2.1.1 hP q 2 hw rfl ((i32_vp hi).mpr h) d ?_
    rw [i32_nat hi]; exact kk'
theorem xr_lald {o k : Nat} {i : Int} (d : decode md.2.1 pc = .ok (.laload, 1)) (hk : fK (oc o) k = 4) (h : 0 ≤ i ∧ i < (aL (oc o) k : Nat)) (kk : CX G K md Z (pc + 1) lo (vL (M o k i.toNat) :: st) M Q) : CX G K md Z pc lo (vI i :: vA o k :: st) M Q := by
  intro C hM hs hl H locs ls hP hS hL
  have hs1 := okS_cons.mp hs
  have hs2 := okS_cons.mp hs1.2
  have hi : inI i := hs1.1
  obtain ⟨q, hq, hw⟩ := w_arr (M := M) hs2.1 (by rw [hk]; rfl)
  rw [av_long hk, hk] at hw
  refine va_lald C.1 C.2.1 C.2.2.2.2.2.2.2.1.1 hP q 3 hw rfl ((i32_vp hi).mpr h) d ?_
  rw [i32_nat hi]
  refine kk C hM (okS_cons.mpr ⟨?_, hs2.2⟩) hl H locs ls hP hS hL
  have := hM o k i.toNat
  unfold okC at this
  simp only [hk] at this
  exact this
theorem xr_aald {o k : Nat} {i : Int} (d : decode md.2.1 pc = .ok (.aaload, 1)) (hk : fK (oc o) k = 5 ∨ fK (oc o) k = 6) (h : 0 ≤ i ∧ i < (aL (oc o) k : Nat)) (kk : CX G K md Z (pc + 1) lo (vR (if M o k i.toNat = 0 then none else some (el k i.toNat, 99)) :: st) M Q) : CX G K md Z pc lo (vI i :: vA o k :: st) M Q := by
  intro C hM hs hl H locs ls hP hS hL
  have hs1 := okS_cons.mp hs
  have hs2 := okS_cons.mp hs1.2
  have hi : inI i := hs1.1
  have hka : isA (fK (oc o) k) = true := by rcases hk with h | h <;> rw [h] <;> rfl
  obtain ⟨q, hq, hw⟩ := w_arr (M := M) hs2.1 hka
  have hlive := lc_live (arr_of hs2.1 hka).1
  have hok : okV G (vR (if M o k i.toNat = 0 then none else some (el k i.toNat, 99))) := by
    have := hM o k i.toNat
    unfold okC at this
    by_cases h0 : M o k i.toNat = 0
    · rw [if_pos h0]; trivial
    · rw [if_neg h0]
      rw [if_neg (by omega), if_neg (by omega), if_neg (by omega), if_pos hk] at this
      exact Or.inl (lc_obj (this h0 hlive (by omega)))
  have kk' := kk C hM (okS_cons.mpr ⟨hok, hs2.2⟩) hl H locs ls hP hS hL
  rw [av_ref (by omega)] at hw
  have e : va_rf ((fun j => if M o k j = 0 then none else some (gp G (el k j, 99))) (Int32.ofInt i).toNatClampNeg) = cv (gp G) (vR (if M o k i.toNat = 0 then none else some (el k i.toNat, 99))) := by
    rw [i32_nat hi]
    dsimp only
    split <;> rfl
  rcases hk with hk | hk
  · rw [hk] at hw
    refine va_aldq C.1 C.2.1 C.2.2.2.2.2.2.2.1.1 hP q 4 hw rfl ((i32_vp hi).mpr h) d ?_
    rw [e]; exact kk'
  · rw [hk] at hw
    refine va_aldq C.1 C.2.1 C.2.2.2.2.2.2.2.1.1 hP q 5 hw rfl ((i32_vp hi).mpr h) d ?_
    rw [e]; exact kk'
theorem xr_iast {o k : Nat} {i x : Int} (hZ : ∀ q, gA G q → Z.2.1 q) (d : decode md.2.1 pc = .ok (.iastore, 1)) (hk : fK (oc o) k = 1) (h : 0 ≤ i ∧ i < (aL (oc o) k : Nat)) (kk : CX G K md Z (pc + 1) lo st (mset M o k i.toNat x) Q) : CX G K md Z pc lo (vI x :: vI i :: vA o k :: st) M Q := by
  intro C hM hs hl H locs ls hP hS hL
  have hs0 := okS_cons.mp hs
  have hs1 := okS_cons.mp hs0.2
  have hs2 := okS_cons.mp hs1.2
  have hi : inI i := hs1.1
  have hx : inI x := hs0.1
  have hka : isA (fK (oc o) k) = true := by rw [hk]; rfl
  obtain ⟨q, hq, hw⟩ := w_arr (M := M) hs2.1 hka
  have hk99 := (arr_of hs2.1 hka).2
  rw [av_int (by omega), hk] at hw
  have hG := C.2.2.2.2.2.2.2.2
  refine va_iast C.1 C.2.1 C.2.2.2.2.2.2.2.1.1 hP (ws_DZ hZ hG) hS q 0 hw rfl ((i32_vp hi).mpr h) d (fun H1 locs1 g1 g2 g3 => ?_)
  rw [i32_nat hi, upd_set, ← av_int (M := mset M o k i.toNat x) (by omega), show gy G 1 = gy G (fK (oc o) k) by rw [hk], ← ce_arr (M := mset M o k i.toNat x) hk99, ws_set (M' := mset M o k i.toNat x) (ws_DZ hZ hG) hq (fun c' hm' hc' => ce_arr_other hc' hka)] at g1
  exact kk C (okM_set hM (by unfold okC; simp only [hk, mset_self]; exact hx)) hs2.2 hl H1 locs1 ls g1 g3 hL
theorem xr_last {o k : Nat} {i x : Int} (hZ : ∀ q, gA G q → Z.2.1 q) (d : decode md.2.1 pc = .ok (.lastore, 1)) (hk : fK (oc o) k = 4) (h : 0 ≤ i ∧ i < (aL (oc o) k : Nat)) (kk : CX G K md Z (pc + 1) lo st (mset M o k i.toNat x) Q) : CX G K md Z pc lo (vL x :: vI i :: vA o k :: st) M Q := by
  intro C hM hs hl H locs ls hP hS hL
  have hs0 := okS_cons.mp hs
  have hs1 := okS_cons.mp hs0.2
  have hs2 := okS_cons.mp hs1.2
  have hi : inI i := hs1.1
  have hx : inL x := hs0.1
  have hka : isA (fK (oc o) k) = true := by rw [hk]; rfl
  obtain ⟨q, hq, hw⟩ := w_arr (M := M) hs2.1 hka
  have hk99 := (arr_of hs2.1 hka).2
  rw [av_long hk, hk] at hw
  have hG := C.2.2.2.2.2.2.2.2
  refine va_last C.1 C.2.1 C.2.2.2.2.2.2.2.1.1 hP (ws_DZ hZ hG) hS q 3 hw rfl ((i32_vp hi).mpr h) d (fun H1 locs1 g1 g2 g3 => ?_)
  rw [i32_nat hi, updL_set, ← av_long (M := mset M o k i.toNat x) hk, show gy G 4 = gy G (fK (oc o) k) by rw [hk], ← ce_arr (M := mset M o k i.toNat x) hk99, ws_set (M' := mset M o k i.toNat x) (ws_DZ hZ hG) hq (fun c' hm' hc' => ce_arr_other hc' hka)] at g1
  exact kk C (okM_set hM (by unfold okC; simp only [hk, mset_self]; exact hx)) hs2.2 hl H1 locs1 ls g1 g3 hL
theorem xr_bast {o k : Nat} {i x : Int} (hZ : ∀ q, gA G q → Z.2.1 q) (d : decode md.2.1 pc = .ok (.bastore, 1)) (hk : fK (oc o) k = 2) (h : 0 ≤ i ∧ i < (aL (oc o) k : Nat)) (kk : CX G K md Z (pc + 1) lo st (mset M o k i.toNat (toB x)) Q) : CX G K md Z pc lo (vI x :: vI i :: vA o k :: st) M Q := by
  intro C hM hs hl H locs ls hP hS hL
  have hs0 := okS_cons.mp hs
  have hs1 := okS_cons.mp hs0.2
  have hs2 := okS_cons.mp hs1.2
  have hi : inI i := hs1.1
  have hka : isA (fK (oc o) k) = true := by rw [hk]; rfl
  obtain ⟨q, hq, hw⟩ := w_arr (M := M) hs2.1 hka
  have hk99 := (arr_of hs2.1 hka).2
  rw [av_int (by omega), hk] at hw
  have hG := C.2.2.2.2.2.2.2.2
  refine va_bast C.1 C.2.1 C.2.2.2.2.2.2.2.1.1 hP (ws_DZ hZ hG) hS q 1 hw rfl ((i32_vp hi).mpr h) d (fun H1 locs1 g1 g2 g3 => ?_)
  rw [i32_nat hi, vp_nar_byte, show (Int32.ofInt x).toInt8.toInt32 = Int32.ofInt (toB x) from (i32_of _).symm, upd_set, ← av_int (M := mset M o k i.toNat (toB x)) (by omega), show gy G 2 = gy G (fK (oc o) k) by rw [hk], ← ce_arr (M := mset M o k i.toNat (toB x)) hk99, ws_set (M' := mset M o k i.toNat (toB x)) (ws_DZ hZ hG) hq (fun c' hm' hc' => ce_arr_other hc' hka)] at g1
  exact kk C (okM_set hM (by unfold okC; simp only [hk, mset_self]; exact toB_in x)) hs2.2 hl H1 locs1 ls g1 g3 hL
theorem xr_zast {o k : Nat} {i x : Int} (hZ : ∀ q, gA G q → Z.2.1 q) (d : decode md.2.1 pc = .ok (.bastore, 1)) (hk : fK (oc o) k = 3) (h : 0 ≤ i ∧ i < (aL (oc o) k : Nat)) (h01 : x = 0 ∨ x = 1) (kk : CX G K md Z (pc + 1) lo st (mset M o k i.toNat x) Q) : CX G K md Z pc lo (vI x :: vI i :: vA o k :: st) M Q := by
  intro C hM hs hl H locs ls hP hS hL
  have hs0 := okS_cons.mp hs
  have hs1 := okS_cons.mp hs0.2
  have hs2 := okS_cons.mp hs1.2
  have hi : inI i := hs1.1
  have hka : isA (fK (oc o) k) = true := by rw [hk]; rfl
  obtain ⟨q, hq, hw⟩ := w_arr (M := M) hs2.1 hka
  have hk99 := (arr_of hs2.1 hka).2
  rw [av_int (by omega), hk] at hw
  have hG := C.2.2.2.2.2.2.2.2
  refine va_zast C.1 C.2.1 C.2.2.2.2.2.2.2.1.1 hP (ws_DZ hZ hG) hS q 2 hw rfl ((i32_vp hi).mpr h) d (fun H1 locs1 g1 g2 g3 => ?_)
  have hb : vp_nar .boolean (Int32.ofInt x) = Int32.ofInt x := by rcases h01 with rfl | rfl <;> rfl
  rw [i32_nat hi, hb, upd_set, ← av_int (M := mset M o k i.toNat x) (by omega), show gy G 3 = gy G (fK (oc o) k) by rw [hk], ← ce_arr (M := mset M o k i.toNat x) hk99, ws_set (M' := mset M o k i.toNat x) (ws_DZ hZ hG) hq (fun c' hm' hc' => ce_arr_other hc' hka)] at g1
  exact kk C (okM_set hM (by unfold okC; rw [hk, mset_self]; rcases h01 with rfl | rfl <;> simp)) hs2.2 hl H1 locs1 ls g1 g3 hL
theorem xr_lds {idx j : Nat} (d : decode md.2.1 pc = .ok (.ldc idx, 2)) (h : (md.1.cls, idx, j) ∈ strR) (kk : CX G K md Z (pc + 2) lo (vO (1000 + j) :: st) M Q) : CX G K md Z pc lo st M Q := by
  intro C hM hs hl H locs ls hP hS hL
  have hK := C.2.2.2.2.2.2.2.1.2.2.1 _ h
  exact va_ldcS C.1 C.2.1 C.2.2.2.1 hK d (kk C hM (okS_cons.mpr ⟨Or.inr (Nat.le_add_right _ _), hs⟩) hl H locs ls hP hS hL)
theorem xr_ifnull {x : Option (Nat × Nat)} {off : Int} {tgt : Nat} (d : decode md.2.1 pc = .ok (.ifnull off, 3)) (ht : (pc : Int) + off = (tgt : Int)) (kt : x = none → CX G K md Z tgt lo st M Q) (kf : ∀ c, x = some c → CX G K md Z (pc + 3) lo st M Q) : CX G K md Z pc lo (vR x :: st) M Q := by
  intro C hM hs hl H locs ls hP hS hL
  have h1 := okS_cons.mp hs
  cases x with
  | none => exact lv_ifnullN C.1 C.2.1 d ht (kt rfl C hM h1.2 hl H locs ls hP hS hL)
  | some c => exact lv_ifnull C.1 C.2.1 d (kf c rfl C hM h1.2 hl H locs ls hP hS hL)
theorem xr_ifnonnull {x : Option (Nat × Nat)} {off : Int} {tgt : Nat} (d : decode md.2.1 pc = .ok (.ifnonnull off, 3)) (ht : (pc : Int) + off = (tgt : Int)) (kt : ∀ c, x = some c → CX G K md Z tgt lo st M Q) (kf : x = none → CX G K md Z (pc + 3) lo st M Q) : CX G K md Z pc lo (vR x :: st) M Q := by
  intro C hM hs hl H locs ls hP hS hL
  have h1 := okS_cons.mp hs
  cases x with
  | none => exact lv_ifnonnullN C.1 C.2.1 d (kf rfl C hM h1.2 hl H locs ls hP hS hL)
  | some c => exact lv_ifnonnull C.1 C.2.1 d ht (kt c rfl C hM h1.2 hl H locs ls hP hS hL)
theorem xr_lcmp {x y : Int} (d : decode md.2.1 pc = .ok (.lcmp, 1)) (kk : CX G K md Z (pc + 1) lo (vI (sg x y) :: st) M Q) : CX G K md Z pc lo (vL y :: vL x :: st) M Q := by
  intro C hM hs hl H locs ls hP hS hL
  have h1 := okS_cons.mp hs
  have h2 := okS_cons.mp h1.2
  have hin : inI (sg x y) := by unfold sg inI; split <;> (try split) <;> omega
  have kk' := kk C hM (okS_cons.mpr ⟨hin, h2.2⟩) hl H locs ls hP hS hL
  refine W.lcmp C.1 C.2.1 d ?_
  have e : lg_cmp (Int64.ofInt x) (Int64.ofInt y) = Int32.ofInt (sg x y) := by
    unfold sg
    rcases lcmp_cases h2.1 h1.1 with ⟨a, b⟩ | ⟨a, b⟩ | ⟨a, b⟩
    · rw [if_pos a, b]
    · rw [if_neg (by omega), if_pos a, b]
    · rw [if_neg (by omega), if_neg (by omega), b]
  rw [e]
  exact kk'
theorem xCW_use (h : okM G M → okS G st → okL G lo → CX G K md Z pc lo st M Q) : CX G K md Z pc lo st M Q := fun C hM hs hl => h hM hs hl C hM hs hl
theorem xr_tsw {x dflt low hi : Int} {offs : Array Int} {len td : Nat} {tg : List Nat} (d : decode md.2.1 pc = .ok (.tableswitch dflt low hi offs, len)) (hd : (pc : Int) + dflt = (td : Int)) (ho : offs.toList.map (fun o => (pc : Int) + o) = tg.map Int.ofNat) (hh : hi = low + tg.length - 1)
    (kout : (x < low ∨ hi < x) → CX G K md Z td lo st M Q) (kin : ∀ (j t : Nat), tg[j]? = some t → x = low + j → CX G K md Z t lo st M Q) : CX G K md Z pc lo (vI x :: st) M Q := by
  intro C hM hs hl H locs ls hP hS hL
  have h1 := okS_cons.mp hs
  have hx : inI x := h1.1
  by_cases hr : x < low ∨ hi < x
  · exact lv_tableOut C.1 C.2.1 d (by rw [i32_id hx]; exact hr) hd (kout hr C hM h1.2 hl H locs ls hP hS hL)
  · have hj : (x - low).toNat < tg.length := by omega
    obtain ⟨t, ht⟩ : ∃ t, tg[(x - low).toNat]? = some t := ⟨_, List.getElem?_eq_getElem hj⟩
    have h2 : (offs.toList.map (fun o => (pc : Int) + o))[(x - low).toNat]? = some (t : Int) := by rw [ho, List.getElem?_map, ht]; rfl
    rw [List.getElem?_map] at h2
    cases h3 : offs.toList[(x - low).toNat]? with
    | none => rw [h3] at h2; cases h2
    | some off =>
      rw [h3] at h2
      have h4 : (pc : Int) + off = (t : Int) := Option.some.inj h2
      refine lv_tableIn C.1 C.2.1 d (by rw [i32_id hx]; omega) (by rw [i32_id hx]; omega) (off := off) ?_ h4 (kin _ t ht (by omega) C hM h1.2 hl H locs ls hP hS hL)
      rw [i32_id hx, ← Array.getElem?_toList]
      exact h3
theorem xs_iald {o k ci : Nat} {i N : Int} (d : decode md.2.1 pc = .ok (.iaload, 1)) (ho : oc o = ci) (hk : fK ci k = 1) (hN : ((aL ci k : Nat) : Int) = N) (h : 0 ≤ i ∧ i < N) (kk : CX G K md Z (pc + 1) lo (vI (M o k i.toNat) :: st) M Q) : CX G K md Z pc lo (vI i :: vA o k :: st) M Q := by
  subst ho; subst hN; exact xr_iald d hk h kk
theorem xs_bald {o k ci : Nat} {i N : Int} (d : decode md.2.1 pc = .ok (.baload, 1)) (ho : oc o = ci) (hk : fK ci k = 2 ∨ fK ci k = 3) (hN : ((aL ci k : Nat) : Int) = N) (h : 0 ≤ i ∧ i < N) (kk : CX G K md Z (pc + 1) lo (vI (M o k i.toNat) :: st) M Q) : CX G K md Z pc lo (vI i :: vA o k :: st) M Q := by
  subst ho; subst hN; exact xr_bald d hk h kk
theorem xs_lald {o k ci : Nat} {i N : Int} (d : decode md.2.1 pc = .ok (.laload, 1)) (ho : oc o = ci) (hk : fK ci k = 4) (hN : ((aL ci k : Nat) : Int) = N) (h : 0 ≤ i ∧ i < N) (kk : CX G K md Z (pc + 1) lo (vL (M o k i.toNat) :: st) M Q) : CX G K md Z pc lo (vI i :: vA o k :: st) M Q := by
  subst ho; subst hN; exact xr_lald d hk h kk
theorem xs_aald {o k ci : Nat} {i N : Int} (d : decode md.2.1 pc = .ok (.aaload, 1)) (ho : oc o = ci) (hk : fK ci k = 5 ∨ fK ci k = 6) (hN : ((aL ci k : Nat) : Int) = N) (h : 0 ≤ i ∧ i < N) (kk : CX G K md Z (pc + 1) lo (vR (if M o k i.toNat = 0 then none else some (el k i.toNat, 99)) :: st) M Q) : CX G K md Z pc lo (vI i :: vA o k :: st) M Q := by
  subst ho; subst hN; exact xr_aald d hk h kk
theorem xs_iast {o k ci : Nat} {i x N : Int} (hZ : ∀ q, gA G q → Z.2.1 q) (d : decode md.2.1 pc = .ok (.iastore, 1)) (ho : oc o = ci) (hk : fK ci k = 1) (hN : ((aL ci k : Nat) : Int) = N) (h : 0 ≤ i ∧ i < N) (kk : CX G K md Z (pc + 1) lo st (mset M o k i.toNat x) Q) : CX G K md Z pc lo (vI x :: vI i :: vA o k :: st) M Q := by
  subst ho; subst hN; exact xr_iast hZ d hk h kk
theorem xs_last {o k ci : Nat} {i x N : Int} (hZ : ∀ q, gA G q → Z.2.1 q) (d : decode md.2.1 pc = .ok (.lastore, 1)) (ho : oc o = ci) (hk : fK ci k = 4) (hN : ((aL ci k : Nat) : Int) = N) (h : 0 ≤ i ∧ i < N) (kk : CX G K md Z (pc + 1) lo st (mset M o k i.toNat x) Q) : CX G K md Z pc lo (vL x :: vI i :: vA o k :: st) M Q := by
  subst ho; subst hN; exact xr_last hZ d hk h kk
theorem xs_bast {o k ci : Nat} {i x N : Int} (hZ : ∀ q, gA G q → Z.2.1 q) (d : decode md.2.1 pc = .ok (.bastore, 1)) (ho : oc o = ci) (hk : fK ci k = 2) (hN : ((aL ci k : Nat) : Int) = N) (h : 0 ≤ i ∧ i < N) (kk : CX G K md Z (pc + 1) lo st (mset M o k i.toNat (toB x)) Q) : CX G K md Z pc lo (vI x :: vI i :: vA o k :: st) M Q := by
  subst ho; subst hN; exact xr_bast hZ d hk h kk
theorem xs_zast {o k ci : Nat} {i x N : Int} (hZ : ∀ q, gA G q → Z.2.1 q) (d : decode md.2.1 pc = .ok (.bastore, 1)) (ho : oc o = ci) (hk : fK ci k = 3) (hN : ((aL ci k : Nat) : Int) = N) (h : 0 ≤ i ∧ i < N) (h01 : x = 0 ∨ x = 1) (kk : CX G K md Z (pc + 1) lo st (mset M o k i.toNat x) Q) : CX G K md Z pc lo (vI x :: vI i :: vA o k :: st) M Q := by
  subst ho; subst hN; exact xr_zast hZ d hk h h01 kk
theorem xs_alen {o k ci : Nat} {z : Int} (d : decode md.2.1 pc = .ok (.arraylength, 1)) (ho : oc o = ci) (hk : isA (fK ci k) = true) (hN : ((aL ci k : Nat) : Int) = z) (hz : 0 ≤ z ∧ z ≤ 2147483647) (kk : CX G K md Z (pc + 1) lo (vI z :: st) M Q) : CX G K md Z pc lo (vA o k :: st) M Q := by
  subst ho; exact xr_alen d hk (by omega) hz kk
theorem xCW_msk {lo' : List (Option V)} (b : List Bool) (e : msk lo b = lo') (T : CX G K md Z pc lo' st M Q) : CX G K md Z pc lo st M Q := by
  intro C hM hs hl H locs ls hP hS hL
  have key : ∀ (i : Nat) (v : V), lo'[i]? = some (some v) → lo[i]? = some (some v) := by
    intro i v h
    rw [← e] at h
    unfold msk at h
    rw [List.getElem?_zipWith] at h
    cases h1 : lo[i]? with
    | none => rw [h1] at h; cases h
    | some w =>
      rw [h1] at h
      cases h2 : b[i]? with
      | none => rw [h2] at h; cases h
      | some c =>
        rw [h2] at h
        dsimp only at h
        cases c with
        | true => exact h
        | false => cases h
  refine T C hM hs (fun v hv => ?_) H locs ls hP hS ⟨hL.1, hL.2.1, fun i v hi => hL.2.2 i v (key i v hi)⟩
  obtain ⟨i, hi⟩ := List.getElem?_of_mem hv
  exact okL_get hl (key i v hi)
end RX2
