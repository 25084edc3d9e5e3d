/-! ===== what a constructor leaves, as objects of the world ===== -/
theorem hX11_23_116 : Nn RX11 23 116 6 mX6_init "DownOnly" [.int 0, .null, .null, .null, .null, .null, .int 0, .null] 0 := ⟨RX6, TX6, tyX6, rfl, gX6, tyX6_ok, gt1 (i := 173) (by decide +kernel) rfl, gt3 (i := 128) (by decide +kernel) rfl, gt1 (i := 18) (by decide +kernel) rfl, (fun j hj => by have hj : j < 8 := hj; rcases (show j = 0 ∨ j = 1 ∨ j = 2 ∨ j = 3 ∨ j = 4 ∨ j = 5 ∨ j = 6 ∨ j = 7 by omega) with rfl|rfl|rfl|rfl|rfl|rfl|rfl|rfl <;> rfl), List.mem_filter.mpr ⟨List.mem_of_getElem? (i := 609) (by decide +kernel), rfl⟩, gt3 (i := 130) (by decide +kernel) rfl, gt1 (i := 18) (by decide +kernel) rfl, gt3 (i := 131) (by decide +kernel) rfl, (by decide), (by decide +kernel), rfl, rfl, (by decide)⟩
theorem hX11_247_249 : Nn RX11 247 249 4 mX4_init "DownOnly" [.null, .null, .int 0, .int 0, .int 0] 0 := ⟨RX4, TX4, tyX4, rfl, gX4, tyX4_ok, gt5 (i := 0) (by decide +kernel) rfl, gt5 (i := 1) (by decide +kernel) rfl, gt1 (i := 21) (by decide +kernel) rfl, (fun j hj => by have hj : j < 5 := hj; rcases (show j = 0 ∨ j = 1 ∨ j = 2 ∨ j = 3 ∨ j = 4 by omega) with rfl|rfl|rfl|rfl|rfl <;> rfl), List.mem_filter.mpr ⟨List.mem_of_getElem? (i := 962) (by decide +kernel), rfl⟩, gt5 (i := 3) (by decide +kernel) rfl, gt1 (i := 21) (by decide +kernel) rfl, gt5 (i := 4) (by decide +kernel) rfl, (by decide), (by decide +kernel), rfl, rfl, (by decide)⟩
theorem mk_pi (g : Nat × Nat → Nat) : ∀ (cs : List (Nat × Nat)) (vs : List Nat), cs.Nodup → cs.length = vs.length → ∃ π : Nat × Nat → Nat, cs.map π = vs ∧ ∀ c, c ∉ cs → π c = g c := by
  intro cs
  induction cs with
  | nil =>
    intro vs _ hl
    cases vs with
    | nil => exact ⟨g, rfl, fun _ _ => rfl⟩
    | cons v vs => simp at hl
  | cons c cs ih =>
    intro vs hn hl
    cases vs with
    | nil => simp at hl
    | cons v vs =>
      obtain ⟨h1, h2⟩ := List.nodup_cons.mp hn
      obtain ⟨π, p1, p2⟩ := ih vs h2 (by simpa using hl)
      refine ⟨fun x => if x = c then v else π x, ?_, fun x hx => ?_⟩
      · rw [List.map_cons, if_pos rfl, ← p1]
        congr 1
        exact List.map_congr_left (fun x hx => if_neg (fun e => h1 (by rw [← e]; exact hx)))
      · have hx1 : x ≠ c := fun e => hx (by rw [e]; exact List.mem_cons_self)
        show (if x = c then v else π x) = g x
        rw [if_neg hx1]
        exact p2 x (fun e => hx (List.mem_cons_of_mem _ e))
theorem wR_cl : Cond.classLink RX11 117 RX7 ∈ gw := gt3 (i := 168) (by decide +kernel) rfl
theorem wR_in : Cond.instantiable RX7 4 ∈ gw := gt3 (i := 169) (by decide +kernel) rfl
theorem wR_ini : Cond.initialized RX7 ∈ gw := gt1 (i := 19) (by decide +kernel) rfl
theorem wR_ml : Cond.methodLink RX11 119 yX7_init ∈ gw := gt3 (i := 170) (by decide +kernel) rfl
theorem wR_im : Cond.instanceMethod yX7_init ∈ gw := gt3 (i := 171) (by decide +kernel) rfl
theorem wR_co : Cond.code yX7_init cX7_init 3 none ∈ gw := gt3 (i := 172) (by decide +kernel) rfl
set_option maxRecDepth 20000 in
set_option maxHeartbeats 4000000 in
theorem ms_15 {G : Gx} {M : Mem} (a : Nat) (ws : va_W) (h : SX6 G a ws) : ∃ (π : Nat × Nat → Nat) (is : List Nat), (∀ c, c ∉ LC [15] → π c = gp G c) ∧ π (15, 99) = a ∧ va_nd is = true ∧ is.map (fun i => ws[i]?) = ((LC [15]).map (fun c => ((π c, ce (gx G π (gL G ++ [15])) (MN M [15]) c) : Nat × va_E))).map some := by
  obtain ⟨q1, q2, q3, q4, q5, q6, rfl⟩ := h
  obtain ⟨π, hm, hoff⟩ := mk_pi (gp G) (LC [15]) [a, q1, q2, q3, q4, q5, q6] (by decide +kernel) rfl
  have hm : List.map π [(15, 99), (15, 1), (15, 2), (15, 3), (15, 4), (15, 5), (15, 7)] = [a, q1, q2, q3, q4, q5, q6] := hm
  simp only [List.map_cons, List.map_nil, List.cons.injEq, and_true] at hm
  obtain ⟨rfl, rfl, rfl, rfl, rfl, rfl, rfl⟩ := hm
  refine ⟨π, [0, 1, 2, 3, 4, 5, 6], hoff, rfl, by decide +kernel, ?_⟩
  rw [sh_15]
  have z15 : ∀ k i, MN M [15] 15 k i = 0 := fun k i => MN_in (by decide)
  simp only [z15]
  rfl
set_option maxRecDepth 20000 in
set_option maxHeartbeats 4000000 in
theorem ms_16 {G : Gx} {M : Mem} (a : Nat) (ws : va_W) (h : SX6 G a ws) : ∃ (π : Nat × Nat → Nat) (is : List Nat), (∀ c, c ∉ LC [16] → π c = gp G c) ∧ π (16, 99) = a ∧ va_nd is = true ∧ is.map (fun i => ws[i]?) = ((LC [16]).map (fun c => ((π c, ce (gx G π (gL G ++ [16])) (MN M [16]) c) : Nat × va_E))).map some := by
  obtain ⟨q1, q2, q3, q4, q5, q6, rfl⟩ := h
  obtain ⟨π, hm, hoff⟩ := mk_pi (gp G) (LC [16]) [a, q1, q2, q3, q4, q5, q6] (by decide +kernel) rfl
  have hm : List.map π [(16, 99), (16, 1), (16, 2), (16, 3), (16, 4), (16, 5), (16, 7)] = [a, q1, q2, q3, q4, q5, q6] := hm
  simp only [List.map_cons, List.map_nil, List.cons.injEq, and_true] at hm
  obtain ⟨rfl, rfl, rfl, rfl, rfl, rfl, rfl⟩ := hm
  refine ⟨π, [0, 1, 2, 3, 4, 5, 6], hoff, rfl, by decide +kernel, ?_⟩
  rw [sh_16]
  have z16 : ∀ k i, MN M [16] 16 k i = 0 := fun k i => MN_in (by decide)
  simp only [z16]
  rfl
set_option maxRecDepth 20000 in
set_option maxHeartbeats 4000000 in
theorem ms_17 {G : Gx} {M : Mem} (a : Nat) (ws : va_W) (h : SX6 G a ws) : ∃ (π : Nat × Nat → Nat) (is : List Nat), (∀ c, c ∉ LC [17] → π c = gp G c) ∧ π (17, 99) = a ∧ va_nd is = true ∧ is.map (fun i => ws[i]?) = ((LC [17]).map (fun c => ((π c, ce (gx G π (gL G ++ [17])) (MN M [17]) c) : Nat × va_E))).map some := by
  obtain ⟨q1, q2, q3, q4, q5, q6, rfl⟩ := h
  obtain ⟨π, hm, hoff⟩ := mk_pi (gp G) (LC [17]) [a, q1, q2, q3, q4, q5, q6] (by decide +kernel) rfl
  have hm : List.map π [(17, 99), (17, 1), (17, 2), (17, 3), (17, 4), (17, 5), (17, 7)] = [a, q1, q2, q3, q4, q5, q6] := hm
  simp only [List.map_cons, List.map_nil, List.cons.injEq, and_true] at hm
  obtain ⟨rfl, rfl, rfl, rfl, rfl, rfl, rfl⟩ := hm
  refine ⟨π, [0, 1, 2, 3, 4, 5, 6], hoff, rfl, by decide +kernel, ?_⟩
  rw [sh_17]
  have z17 : ∀ k i, MN M [17] 17 k i = 0 := fun k i => MN_in (by decide)
  simp only [z17]
  rfl
set_option maxRecDepth 20000 in
set_option maxHeartbeats 4000000 in
theorem ms_18 {G : Gx} {M : Mem} (a : Nat) (ws : va_W) (h : SX6 G a ws) : ∃ (π : Nat × Nat → Nat) (is : List Nat), (∀ c, c ∉ LC [18] → π c = gp G c) ∧ π (18, 99) = a ∧ va_nd is = true ∧ is.map (fun i => ws[i]?) = ((LC [18]).map (fun c => ((π c, ce (gx G π (gL G ++ [18])) (MN M [18]) c) : Nat × va_E))).map some := by
  obtain ⟨q1, q2, q3, q4, q5, q6, rfl⟩ := h
  obtain ⟨π, hm, hoff⟩ := mk_pi (gp G) (LC [18]) [a, q1, q2, q3, q4, q5, q6] (by decide +kernel) rfl
  have hm : List.map π [(18, 99), (18, 1), (18, 2), (18, 3), (18, 4), (18, 5), (18, 7)] = [a, q1, q2, q3, q4, q5, q6] := hm
  simp only [List.map_cons, List.map_nil, List.cons.injEq, and_true] at hm
  obtain ⟨rfl, rfl, rfl, rfl, rfl, rfl, rfl⟩ := hm
  refine ⟨π, [0, 1, 2, 3, 4, 5, 6], hoff, rfl, by decide +kernel, ?_⟩
  rw [sh_18]
  have z18 : ∀ k i, MN M [18] 18 k i = 0 := fun k i => MN_in (by decide)
  simp only [z18]
  rfl
set_option maxRecDepth 20000 in
set_option maxHeartbeats 4000000 in
theorem ms_19 {G : Gx} {M : Mem} (a : Nat) (ws : va_W) (h : SX6 G a ws) : ∃ (π : Nat × Nat → Nat) (is : List Nat), (∀ c, c ∉ LC [19] → π c = gp G c) ∧ π (19, 99) = a ∧ va_nd is = true ∧ is.map (fun i => ws[i]?) = ((LC [19]).map (fun c => ((π c, ce (gx G π (gL G ++ [19])) (MN M [19]) c) : Nat × va_E))).map some := by
  obtain ⟨q1, q2, q3, q4, q5, q6, rfl⟩ := h
  obtain ⟨π, hm, hoff⟩ := mk_pi (gp G) (LC [19]) [a, q1, q2, q3, q4, q5, q6] (by decide +kernel) rfl
  have hm : List.map π [(19, 99), (19, 1), (19, 2), (19, 3), (19, 4), (19, 5), (19, 7)] = [a, q1, q2, q3, q4, q5, q6] := hm
  simp only [List.map_cons, List.map_nil, List.cons.injEq, and_true] at hm
  obtain ⟨rfl, rfl, rfl, rfl, rfl, rfl, rfl⟩ := hm
  refine ⟨π, [0, 1, 2, 3, 4, 5, 6], hoff, rfl, by decide +kernel, ?_⟩
  rw [sh_19]
  have z19 : ∀ k i, MN M [19] 19 k i = 0 := fun k i => MN_in (by decide)
  simp only [z19]
  rfl
set_option maxRecDepth 20000 in
set_option maxHeartbeats 4000000 in
theorem ms_20 {G : Gx} {M : Mem} (a : Nat) (ws : va_W) (h : SX6 G a ws) : ∃ (π : Nat × Nat → Nat) (is : List Nat), (∀ c, c ∉ LC [20] → π c = gp G c) ∧ π (20, 99) = a ∧ va_nd is = true ∧ is.map (fun i => ws[i]?) = ((LC [20]).map (fun c => ((π c, ce (gx G π (gL G ++ [20])) (MN M [20]) c) : Nat × va_E))).map some := by
  obtain ⟨q1, q2, q3, q4, q5, q6, rfl⟩ := h
  obtain ⟨π, hm, hoff⟩ := mk_pi (gp G) (LC [20]) [a, q1, q2, q3, q4, q5, q6] (by decide +kernel) rfl
  have hm : List.map π [(20, 99), (20, 1), (20, 2), (20, 3), (20, 4), (20, 5), (20, 7)] = [a, q1, q2, q3, q4, q5, q6] := hm
  simp only [List.map_cons, List.map_nil, List.cons.injEq, and_true] at hm
  obtain ⟨rfl, rfl, rfl, rfl, rfl, rfl, rfl⟩ := hm
  refine ⟨π, [0, 1, 2, 3, 4, 5, 6], hoff, rfl, by decide +kernel, ?_⟩
  rw [sh_20]
  have z20 : ∀ k i, MN M [20] 20 k i = 0 := fun k i => MN_in (by decide)
  simp only [z20]
  rfl
set_option maxRecDepth 20000 in
set_option maxHeartbeats 4000000 in
theorem ms_12 {G : Gx} {M : Mem} (a : Nat) (ws : va_W) (h : SX4 G a ws) : ∃ (π : Nat × Nat → Nat) (is : List Nat), (∀ c, c ∉ LC [12, 13] → π c = gp G c) ∧ π (12, 99) = a ∧ va_nd is = true ∧ is.map (fun i => ws[i]?) = ((LC [12, 13]).map (fun c => ((π c, ce (gx G π (gL G ++ [12, 13])) (MN M [12, 13]) c) : Nat × va_E))).map some := by
  obtain ⟨v0, v1, v2, rfl⟩ := h
  obtain ⟨π, hm, hoff⟩ := mk_pi (gp G) (LC [12, 13]) [a, v2, v0, v1] (by decide +kernel) rfl
  have hm : List.map π [(12, 99), (12, 1), (13, 99), (13, 0)] = [a, v2, v0, v1] := hm
  simp only [List.map_cons, List.map_nil, List.cons.injEq, and_true] at hm
  obtain ⟨rfl, rfl, rfl, rfl⟩ := hm
  refine ⟨π, [0, 3, 1, 2], hoff, rfl, by decide +kernel, ?_⟩
  rw [sh_12]
  have z12 : ∀ k i, MN M [12, 13] 12 k i = 0 := fun k i => MN_in (by decide)
  have z13 : ∀ k i, MN M [12, 13] 13 k i = 0 := fun k i => MN_in (by decide)
  simp only [z12, z13]
  rfl
set_option maxRecDepth 20000 in
set_option maxHeartbeats 4000000 in
theorem ms_27 {G : Gx} {M : Mem} (a : Nat) (ws : va_W) (h : SX8 G a ws) : ∃ (π : Nat × Nat → Nat) (is : List Nat), (∀ c, c ∉ LC [27, 28, 29, 30] → π c = gp G c) ∧ π (27, 99) = a ∧ va_nd is = true ∧ is.map (fun i => ws[i]?) = ((LC [27, 28, 29, 30]).map (fun c => ((π c, ce (gx G π (gL G ++ [27, 28, 29, 30])) (MN M [27, 28, 29, 30]) c) : Nat × va_E))).map some := by
  obtain ⟨v0, v1, v2, v3, v4, v5, v6, v7, v8, v9, v10, v11, v12, v13, v14, v15, v16, v17, v18, v19, v20, v21, v22, v23, v24, v25, rfl⟩ := h
  obtain ⟨π, hm, hoff⟩ := mk_pi (gp G) (LC [27, 28, 29, 30]) [a, v0, v1, v2, v3, v4, v5, v6, v7, v8, v9, v10, v11, v12, v13, v14, v15, v16, v17, v18, v19, v20, v21, v22, v23, v24, v25] (by decide +kernel) rfl
  have hm : List.map π [(27, 99), (28, 99), (28, 7), (28, 8), (28, 9), (28, 10), (28, 11), (28, 12), (28, 13), (28, 14), (29, 99), (29, 2), (29, 3), (29, 4), (29, 5), (30, 99), (30, 5), (30, 6), (30, 7), (30, 8), (30, 9), (30, 10), (30, 11), (30, 12), (30, 13), (30, 14), (30, 15)] = [a, v0, v1, v2, v3, v4, v5, v6, v7, v8, v9, v10, v11, v12, v13, v14, v15, v16, v17, v18, v19, v20, v21, v22, v23, v24, v25] := hm
  simp only [List.map_cons, List.map_nil, List.cons.injEq, and_true] at hm
  obtain ⟨rfl, rfl, rfl, rfl, rfl, rfl, rfl, rfl, rfl, rfl, rfl, rfl, rfl, rfl, rfl, rfl, rfl, rfl, rfl, rfl, rfl, rfl, rfl, rfl, rfl, rfl, rfl⟩ := hm
  refine ⟨π, [0, 1, 2, 3, 4, 5, 6, 7, 8, 9, 10, 11, 12, 13, 14, 15, 16, 17, 18, 19, 20, 21, 22, 23, 24, 25, 26], hoff, rfl, by decide +kernel, ?_⟩
  rw [sh_27]
  have z27 : ∀ k i, MN M [27, 28, 29, 30] 27 k i = 0 := fun k i => MN_in (by decide)
  have z28 : ∀ k i, MN M [27, 28, 29, 30] 28 k i = 0 := fun k i => MN_in (by decide)
  have z29 : ∀ k i, MN M [27, 28, 29, 30] 29 k i = 0 := fun k i => MN_in (by decide)
  have z30 : ∀ k i, MN M [27, 28, 29, 30] 30 k i = 0 := fun k i => MN_in (by decide)
  simp only [z27, z28, z29, z30]
  rfl
set_option maxRecDepth 20000 in
set_option maxHeartbeats 4000000 in
theorem ms_31 {G : Gx} {M : Mem} (a : Nat) (ws : va_W) (h : SX8 G a ws) : ∃ (π : Nat × Nat → Nat) (is : List Nat), (∀ c, c ∉ LC [31, 32, 33, 34] → π c = gp G c) ∧ π (31, 99) = a ∧ va_nd is = true ∧ is.map (fun i => ws[i]?) = ((LC [31, 32, 33, 34]).map (fun c => ((π c, ce (gx G π (gL G ++ [31, 32, 33, 34])) (MN M [31, 32, 33, 34]) c) : Nat × va_E))).map some := by
  obtain ⟨v0, v1, v2, v3, v4, v5, v6, v7, v8, v9, v10, v11, v12, v13, v14, v15, v16, v17, v18, v19, v20, v21, v22, v23, v24, v25, rfl⟩ := h
  obtain ⟨π, hm, hoff⟩ := mk_pi (gp G) (LC [31, 32, 33, 34]) [a, v0, v1, v2, v3, v4, v5, v6, v7, v8, v9, v10, v11, v12, v13, v14, v15, v16, v17, v18, v19, v20, v21, v22, v23, v24, v25] (by decide +kernel) rfl
  have hm : List.map π [(31, 99), (32, 99), (32, 7), (32, 8), (32, 9), (32, 10), (32, 11), (32, 12), (32, 13), (32, 14), (33, 99), (33, 2), (33, 3), (33, 4), (33, 5), (34, 99), (34, 5), (34, 6), (34, 7), (34, 8), (34, 9), (34, 10), (34, 11), (34, 12), (34, 13), (34, 14), (34, 15)] = [a, v0, v1, v2, v3, v4, v5, v6, v7, v8, v9, v10, v11, v12, v13, v14, v15, v16, v17, v18, v19, v20, v21, v22, v23, v24, v25] := hm
  simp only [List.map_cons, List.map_nil, List.cons.injEq, and_true] at hm
  obtain ⟨rfl, rfl, rfl, rfl, rfl, rfl, rfl, rfl, rfl, rfl, rfl, rfl, rfl, rfl, rfl, rfl, rfl, rfl, rfl, rfl, rfl, rfl, rfl, rfl, rfl, rfl, rfl⟩ := hm
  refine ⟨π, [0, 1, 2, 3, 4, 5, 6, 7, 8, 9, 10, 11, 12, 13, 14, 15, 16, 17, 18, 19, 20, 21, 22, 23, 24, 25, 26], hoff, rfl, by decide +kernel, ?_⟩
  rw [sh_31]
  have z31 : ∀ k i, MN M [31, 32, 33, 34] 31 k i = 0 := fun k i => MN_in (by decide)
  have z32 : ∀ k i, MN M [31, 32, 33, 34] 32 k i = 0 := fun k i => MN_in (by decide)
  have z33 : ∀ k i, MN M [31, 32, 33, 34] 33 k i = 0 := fun k i => MN_in (by decide)
  have z34 : ∀ k i, MN M [31, 32, 33, 34] 34 k i = 0 := fun k i => MN_in (by decide)
  simp only [z31, z32, z33, z34]
  rfl
set_option maxRecDepth 20000 in
set_option maxHeartbeats 4000000 in
theorem ms_35 {G : Gx} {M : Mem} (a : Nat) (ws : va_W) (h : SX8 G a ws) : ∃ (π : Nat × Nat → Nat) (is : List Nat), (∀ c, c ∉ LC [35, 36, 37, 38] → π c = gp G c) ∧ π (35, 99) = a ∧ va_nd is = true ∧ is.map (fun i => ws[i]?) = ((LC [35, 36, 37, 38]).map (fun c => ((π c, ce (gx G π (gL G ++ [35, 36, 37, 38])) (MN M [35, 36, 37, 38]) c) : Nat × va_E))).map some := by
  obtain ⟨v0, v1, v2, v3, v4, v5, v6, v7, v8, v9, v10, v11, v12, v13, v14, v15, v16, v17, v18, v19, v20, v21, v22, v23, v24, v25, rfl⟩ := h
  obtain ⟨π, hm, hoff⟩ := mk_pi (gp G) (LC [35, 36, 37, 38]) [a, v0, v1, v2, v3, v4, v5, v6, v7, v8, v9, v10, v11, v12, v13, v14, v15, v16, v17, v18, v19, v20, v21, v22, v23, v24, v25] (by decide +kernel) rfl
  have hm : List.map π [(35, 99), (36, 99), (36, 7), (36, 8), (36, 9), (36, 10), (36, 11), (36, 12), (36, 13), (36, 14), (37, 99), (37, 2), (37, 3), (37, 4), (37, 5), (38, 99), (38, 5), (38, 6), (38, 7), (38, 8), (38, 9), (38, 10), (38, 11), (38, 12), (38, 13), (38, 14), (38, 15)] = [a, v0, v1, v2, v3, v4, v5, v6, v7, v8, v9, v10, v11, v12, v13, v14, v15, v16, v17, v18, v19, v20, v21, v22, v23, v24, v25] := hm
  simp only [List.map_cons, List.map_nil, List.cons.injEq, and_true] at hm
  obtain ⟨rfl, rfl, rfl, rfl, rfl, rfl, rfl, rfl, rfl, rfl, rfl, rfl, rfl, rfl, rfl, rfl, rfl, rfl, rfl, rfl, rfl, rfl, rfl, rfl, rfl, rfl, rfl⟩ := hm
  refine ⟨π, [0, 1, 2, 3, 4, 5, 6, 7, 8, 9, 10, 11, 12, 13, 14, 15, 16, 17, 18, 19, 20, 21, 22, 23, 24, 25, 26], hoff, rfl, by decide +kernel, ?_⟩
  rw [sh_35]
  have z35 : ∀ k i, MN M [35, 36, 37, 38] 35 k i = 0 := fun k i => MN_in (by decide)
  have z36 : ∀ k i, MN M [35, 36, 37, 38] 36 k i = 0 := fun k i => MN_in (by decide)
  have z37 : ∀ k i, MN M [35, 36, 37, 38] 37 k i = 0 := fun k i => MN_in (by decide)
  have z38 : ∀ k i, MN M [35, 36, 37, 38] 38 k i = 0 := fun k i => MN_in (by decide)
  simp only [z35, z36, z37, z38]
  rfl
set_option maxRecDepth 20000 in
set_option maxHeartbeats 4000000 in
theorem ms_39 {G : Gx} {M : Mem} (a : Nat) (ws : va_W) (h : SX8 G a ws) : ∃ (π : Nat × Nat → Nat) (is : List Nat), (∀ c, c ∉ LC [39, 40, 41, 42] → π c = gp G c) ∧ π (39, 99) = a ∧ va_nd is = true ∧ is.map (fun i => ws[i]?) = ((LC [39, 40, 41, 42]).map (fun c => ((π c, ce (gx G π (gL G ++ [39, 40, 41, 42])) (MN M [39, 40, 41, 42]) c) : Nat × va_E))).map some := by
  obtain ⟨v0, v1, v2, v3, v4, v5, v6, v7, v8, v9, v10, v11, v12, v13, v14, v15, v16, v17, v18, v19, v20, v21, v22, v23, v24, v25, rfl⟩ := h
  obtain ⟨π, hm, hoff⟩ := mk_pi (gp G) (LC [39, 40, 41, 42]) [a, v0, v1, v2, v3, v4, v5, v6, v7, v8, v9, v10, v11, v12, v13, v14, v15, v16, v17, v18, v19, v20, v21, v22, v23, v24, v25] (by decide +kernel) rfl
  have hm : List.map π [(39, 99), (40, 99), (40, 7), (40, 8), (40, 9), (40, 10), (40, 11), (40, 12), (40, 13), (40, 14), (41, 99), (41, 2), (41, 3), (41, 4), (41, 5), (42, 99), (42, 5), (42, 6), (42, 7), (42, 8), (42, 9), (42, 10), (42, 11), (42, 12), (42, 13), (42, 14), (42, 15)] = [a, v0, v1, v2, v3, v4, v5, v6, v7, v8, v9, v10, v11, v12, v13, v14, v15, v16, v17, v18, v19, v20, v21, v22, v23, v24, v25] := hm
  simp only [List.map_cons, List.map_nil, List.cons.injEq, and_true] at hm
  obtain ⟨rfl, rfl, rfl, rfl, rfl, rfl, rfl, rfl, rfl, rfl, rfl, rfl, rfl, rfl, rfl, rfl, rfl, rfl, rfl, rfl, rfl, rfl, rfl, rfl, rfl, rfl, rfl⟩ := hm
  refine ⟨π, [0, 1, 2, 3, 4, 5, 6, 7, 8, 9, 10, 11, 12, 13, 14, 15, 16, 17, 18, 19, 20, 21, 22, 23, 24, 25, 26], hoff, rfl, by decide +kernel, ?_⟩
  rw [sh_39]
  have z39 : ∀ k i, MN M [39, 40, 41, 42] 39 k i = 0 := fun k i => MN_in (by decide)
  have z40 : ∀ k i, MN M [39, 40, 41, 42] 40 k i = 0 := fun k i => MN_in (by decide)
  have z41 : ∀ k i, MN M [39, 40, 41, 42] 41 k i = 0 := fun k i => MN_in (by decide)
  have z42 : ∀ k i, MN M [39, 40, 41, 42] 42 k i = 0 := fun k i => MN_in (by decide)
  simp only [z39, z40, z41, z42]
  rfl
set_option maxRecDepth 20000 in
set_option maxHeartbeats 4000000 in
theorem ms_1 {G : Gx} {M : Mem} (a : Nat) (ws : va_W) (h : SX11 G a ws) : ∃ (π : Nat × Nat → Nat) (is : List Nat), (∀ c, c ∉ LC [1, 2, 3, 4, 5, 6, 7, 8, 9, 10, 11] → π c = gp G c) ∧ π (1, 99) = a ∧ va_nd is = true ∧ is.map (fun i => ws[i]?) = ((LC [1, 2, 3, 4, 5, 6, 7, 8, 9, 10, 11]).map (fun c => ((π c, ce (gx G π (gL G ++ [1, 2, 3, 4, 5, 6, 7, 8, 9, 10, 11])) (MN M [1, 2, 3, 4, 5, 6, 7, 8, 9, 10, 11]) c) : Nat × va_E))).map some := by
  obtain ⟨v0, v1, v2, v3, v4, v5, v6, v7, v8, v9, v10, v11, v12, v13, v14, v15, v16, v17, v18, v19, v20, v21, v22, v23, v24, v25, v26, v27, v28, v29, v30, v31, v32, v33, v34, v35, v36, v37, v38, v39, v40, v41, v42, v43, v44, v45, v46, v47, v48, v49, v50, v51, v52, v53, v54, v55, v56, rfl⟩ := h
  obtain ⟨π, hm, hoff⟩ := mk_pi (gp G) (LC [1, 2, 3, 4, 5, 6, 7, 8, 9, 10, 11]) [a, v11, v39, v51, v52, v53, v54, v55, v56, v0, v1, v12, v13, v14, v15, v16, v17, v18, v19, v20, v21, v22, v23, v24, v25, v26, v27, v28, v29, v30, v31, v32, v33, v34, v35, v36, v37, v38, v2, v3, v4, v5, v6, v7, v8, v9, v10, v40, v41, v42, v43, v44, v45, v46, v47, v48, v49, v50] (by decide +kernel) rfl
  have hm : List.map π [(1, 99), (1, 2), (1, 5), (1, 11), (1, 12), (1, 13), (1, 14), (1, 15), (1, 16), (2, 99), (2, 0), (3, 99), (4, 99), (4, 7), (4, 8), (4, 9), (4, 10), (4, 11), (4, 12), (4, 13), (4, 14), (5, 99), (5, 2), (5, 3), (5, 4), (5, 5), (6, 99), (6, 5), (6, 6), (6, 7), (6, 8), (6, 9), (6, 10), (6, 11), (6, 12), (6, 13), (6, 14), (6, 15), (7, 99), (7, 7), (7, 8), (7, 9), (7, 10), (7, 11), (7, 12), (7, 13), (7, 14), (8, 99), (8, 2), (8, 3), (8, 4), (8, 5), (9, 99), (9, 0), (10, 99), (10, 0), (11, 99), (11, 0)] = [a, v11, v39, v51, v52, v53, v54, v55, v56, v0, v1, v12, v13, v14, v15, v16, v17, v18, v19, v20, v21, v22, v23, v24, v25, v26, v27, v28, v29, v30, v31, v32, v33, v34, v35, v36, v37, v38, v2, v3, v4, v5, v6, v7, v8, v9, v10, v40, v41, v42, v43, v44, v45, v46, v47, v48, v49, v50] := hm
  simp only [List.map_cons, List.map_nil, List.cons.injEq, and_true] at hm
  obtain ⟨rfl, rfl, rfl, rfl, rfl, rfl, rfl, rfl, rfl, rfl, rfl, rfl, rfl, rfl, rfl, rfl, rfl, rfl, rfl, rfl, rfl, rfl, rfl, rfl, rfl, rfl, rfl, rfl, rfl, rfl, rfl, rfl, rfl, rfl, rfl, rfl, rfl, rfl, rfl, rfl, rfl, rfl, rfl, rfl, rfl, rfl, rfl, rfl, rfl, rfl, rfl, rfl, rfl, rfl, rfl, rfl, rfl, rfl⟩ := hm
  refine ⟨π, [0, 12, 40, 52, 53, 54, 55, 56, 57, 1, 2, 13, 14, 15, 16, 17, 18, 19, 20, 21, 22, 23, 24, 25, 26, 27, 28, 29, 30, 31, 32, 33, 34, 35, 36, 37, 38, 39, 3, 4, 5, 6, 7, 8, 9, 10, 11, 41, 42, 43, 44, 45, 46, 47, 48, 49, 50, 51], hoff, rfl, by decide +kernel, ?_⟩
  rw [sh_1]
  have z1 : ∀ k i, MN M [1, 2, 3, 4, 5, 6, 7, 8, 9, 10, 11] 1 k i = 0 := fun k i => MN_in (by decide)
  have z2 : ∀ k i, MN M [1, 2, 3, 4, 5, 6, 7, 8, 9, 10, 11] 2 k i = 0 := fun k i => MN_in (by decide)
  have z3 : ∀ k i, MN M [1, 2, 3, 4, 5, 6, 7, 8, 9, 10, 11] 3 k i = 0 := fun k i => MN_in (by decide)
  have z4 : ∀ k i, MN M [1, 2, 3, 4, 5, 6, 7, 8, 9, 10, 11] 4 k i = 0 := fun k i => MN_in (by decide)
  have z5 : ∀ k i, MN M [1, 2, 3, 4, 5, 6, 7, 8, 9, 10, 11] 5 k i = 0 := fun k i => MN_in (by decide)
  have z6 : ∀ k i, MN M [1, 2, 3, 4, 5, 6, 7, 8, 9, 10, 11] 6 k i = 0 := fun k i => MN_in (by decide)
  have z7 : ∀ k i, MN M [1, 2, 3, 4, 5, 6, 7, 8, 9, 10, 11] 7 k i = 0 := fun k i => MN_in (by decide)
  have z8 : ∀ k i, MN M [1, 2, 3, 4, 5, 6, 7, 8, 9, 10, 11] 8 k i = 0 := fun k i => MN_in (by decide)
  have z9 : ∀ k i, MN M [1, 2, 3, 4, 5, 6, 7, 8, 9, 10, 11] 9 k i = 0 := fun k i => MN_in (by decide)
  have z10 : ∀ k i, MN M [1, 2, 3, 4, 5, 6, 7, 8, 9, 10, 11] 10 k i = 0 := fun k i => MN_in (by decide)
  have z11 : ∀ k i, MN M [1, 2, 3, 4, 5, 6, 7, 8, 9, 10, 11] 11 k i = 0 := fun k i => MN_in (by decide)
  simp only [z1, z2, z3, z4, z5, z6, z7, z8, z9, z10, z11]
  rfl
set_option maxRecDepth 20000 in
set_option maxHeartbeats 4000000 in
theorem ms_0 {G : Gx} {M : Mem} (a : Nat) (ws : va_W) (h : SX12 G a ws) : ∃ (π : Nat × Nat → Nat) (is : List Nat), (∀ c, c ∉ LC [0] → π c = gp G c) ∧ π (0, 99) = a ∧ va_nd is = true ∧ is.map (fun i => ws[i]?) = ((LC [0]).map (fun c => ((π c, ce (gx G π (gL G ++ [0])) (MN M [0]) c) : Nat × va_E))).map some := by
  obtain ⟨q1, q2, q3, q4, q5, q6, q7, q8, q9, q10, q11, q12, q13, q14, q15, q16, q17, q18, q19, q20, q21, q22, q23, q24, q25, q26, q27, q28, q29, q30, q31, q32, rfl⟩ := h
  obtain ⟨π, hm, hoff⟩ := mk_pi (gp G) (LC [0]) [a, q1, q2, q3, q4, q5, q6, q7, q8, q9, q10, q11, q12, q13, q14, q15, q16, q17, q18, q19, q20, q21, q22, q23, q24, q25, q26, q27, q28, q29, q30, q31, q32] (by decide +kernel) rfl
  have hm : List.map π [(0, 99), (0, 0), (0, 3), (0, 4), (0, 5), (0, 6), (0, 10), (0, 11), (0, 12), (0, 13), (0, 21), (0, 23), (0, 25), (0, 26), (0, 27), (0, 28), (0, 29), (0, 30), (0, 31), (0, 32), (0, 33), (0, 34), (0, 35), (0, 36), (0, 37), (0, 38), (0, 40), (0, 41), (0, 42), (0, 43), (0, 44), (0, 45), (0, 46)] = [a, q1, q2, q3, q4, q5, q6, q7, q8, q9, q10, q11, q12, q13, q14, q15, q16, q17, q18, q19, q20, q21, q22, q23, q24, q25, q26, q27, q28, q29, q30, q31, q32] := hm
  simp only [List.map_cons, List.map_nil, List.cons.injEq, and_true] at hm
  obtain ⟨rfl, rfl, rfl, rfl, rfl, rfl, rfl, rfl, rfl, rfl, rfl, rfl, rfl, rfl, rfl, rfl, rfl, rfl, rfl, rfl, rfl, rfl, rfl, rfl, rfl, rfl, rfl, rfl, rfl, rfl, rfl, rfl, rfl⟩ := hm
  refine ⟨π, [0, 1, 2, 3, 4, 5, 6, 7, 8, 9, 10, 11, 12, 13, 14, 15, 16, 17, 18, 19, 20, 21, 22, 23, 24, 25, 26, 27, 28, 29, 30, 31, 32], hoff, rfl, by decide +kernel, ?_⟩
  rw [sh_0]
  have z0 : ∀ k i, MN M [0] 0 k i = 0 := fun k i => MN_in (by decide)
  simp only [z0]
  rfl
