/-! ===== the world grows ===== -/
section GRW
variable {G : Gx} {M M' : Mem} {U : State} {H : Heap} {A B : Nat → Prop}
theorem sz_of {a : Nat} {cell : Cell} (h : H[a]? = some cell) : a < H.size := (Array.getElem?_eq_some_iff.mp h).1
theorem va_O.wide {E : String} {t : Nat} (h : va_O E t A U H) (hB : ∀ q, q < H.size → B q → A q) : va_O E t B U H := by
  obtain ⟨cell, h1, h2, h3, h4⟩ := h
  exact ⟨cell, h1, h2, h3, fun z => h4 (hB t (sz_of h1) z)⟩
theorem va_OF.wide {o n d : String} {v : Value} {t : Nat} (h : va_OF o n d v t A U H) (hB : ∀ q, q < H.size → B q → A q) : va_OF o n d v t B U H := by
  obtain ⟨cf, k, i, f, cell, h1, h2, h3, h4, h5, h6⟩ := h
  exact ⟨cf, k, i, f, cell, h1, h2, h3, h4, h5, fun z => h6 (hB t (sz_of h3) z)⟩
theorem va_T.wide {ty : FieldType} {t N : Nat} {f : Nat → Value} (h : va_T ty t N f A U H) (hB : ∀ q, q < H.size → B q → A q) : va_T ty t N f B U H := by
  obtain ⟨cell, h1, h2, h3, h4, h5, h6, h7⟩ := h
  exact ⟨cell, h1, h2, h3, h4, h5, h6, fun z => h7 (hB t (sz_of h1) z)⟩
theorem va_Z.wide {C n d : String} {v : Value} (h : va_Z C n d v A U H) (hB : ∀ q, q < H.size → B q → A q) : va_Z C n d v B U H := by
  obtain ⟨cf, kf, fi, f, a, cell, h1, h2, h3, h4, h5, h6, h7, h8⟩ := h
  exact ⟨cf, kf, fi, f, a, cell, h1, h2, h3, h4, h5, h6, h7, fun z => h8 (hB a (sz_of h5) z)⟩
theorem vk_S.wide {N : Nat} {len : List Nat} {byt : List (List Int32)} {adK adV : Nat → Nat} (h : vk_S N len byt adK adV A U H) (hB : ∀ q, q < H.size → B q → A q) : vk_S N len byt adK adV B U H :=
  ⟨fun i hi => ⟨(h.1 i hi).1.wide hB, (h.1 i hi).2.1.wide hB, (h.1 i hi).2.2.1.wide hB, (h.1 i hi).2.2.2.wide hB⟩, h.2⟩
/-- the same launch and classes, other addresses, other live objects -/
abbrev gx (G : Gx) (π : Nat × Nat → Nat) (L : List Nat) : Gx := (G.1, G.2.1, G.2.2.1, π, L)
theorem KU_ext {π : Nat × Nat → Nat} {L : List Nat} (h : KU G U) (hπ : ∀ c, 1000 ≤ c.1 → π c = gp G c) (hB : ∀ q, q < U.heap.size → gA (gx G π L) q → gA G q) : KU (gx G π L) U := by
  obtain ⟨h1, h2, h3, h4, h5, h6⟩ := h
  have e1 : ∀ i : Nat, gp (gx G π L) (1000 + i, 99) = gp G (1000 + i, 99) := fun i => hπ _ (by show 1000 ≤ 1000 + i; omega)
  have e2 : ∀ i : Nat, gp (gx G π L) (1000 + i, 98) = gp G (1000 + i, 98) := fun i => hπ _ (by show 1000 ≤ 1000 + i; omega)
  have e3 : gp (gx G π L) (1999, 99) = gp G (1999, 99) := hπ _ (by decide)
  have f1 : (fun i : Nat => gp (gx G π L) (1000 + i, 99)) = fun i => gp G (1000 + i, 99) := funext e1
  have f2 : (fun i : Nat => gp (gx G π L) (1000 + i, 98)) = fun i => gp G (1000 + i, 98) := funext e2
  refine ⟨h1, h2, fun q hq => by rw [e1]; exact h3 q hq, ?_, h5.wide hB, ?_⟩
  · rw [f1, f2]; exact h4.wide hB
  · rw [e3]
    exact h6.imp (fun z => z.wide hB) (fun z => z.wide hB)
theorem fK_le (c k : Nat) : fK c k ≤ 8 := by
  have all : ∀ l ∈ fKL, ∀ x ∈ l, x ≤ 8 := by decide
  unfold fK
  rw [List.getD_eq_getElem?_getD, List.getD_eq_getElem?_getD]
  cases h : fKL[c]? with
  | none => simp
  | some l =>
    show (l[k]?).getD 0 ≤ 8
    cases h2 : l[k]? with
    | none => exact Nat.zero_le _
    | some x => exact all l (List.mem_of_getElem? h) x (List.mem_of_getElem? h2)
theorem LC_app {L1 L2 : List Nat} : LC (L1 ++ L2) = LC L1 ++ LC L2 := List.flatMap_append
/-- what is alive looks the same in the bigger world -/
theorem ce_ext {π : Nat × Nat → Nat} {L : List Nat} {c : Nat × Nat} (hG : GOK G) (hM : okM G M) (hE : ∀ o ∈ gL G, ∀ k i, (fK (oc o) k = 5 ∨ fK (oc o) k = 6) → M o k i ≠ 0 → el k i ∈ gL G) (hπ : ∀ c ∈ LC (gL G), π c = gp G c) (hM' : ∀ o ∈ gL G, ∀ k i, M' o k i = M o k i) (hc : c ∈ LC (gL G)) : ce (gx G π L) M' c = ce G M c := by
  obtain ⟨o, k⟩ := c
  have ho : o ∈ gL G := lc_live hc
  by_cases h99 : k = 99
  · subst h99
    rw [ce_obj, ce_obj]
    have : fl π M' o = fl (gp G) M o := by
      unfold fl
      apply List.map_congr_left
      intro j hj
      have hj' := List.mem_range.mp hj
      unfold fv
      rw [hM' o ho]
      by_cases z0 : fK (oc o) j = 0
      · rw [if_pos z0, if_pos z0]
      rw [if_neg z0, if_neg z0]
      by_cases z7 : fK (oc o) j = 7
      · rw [if_pos z7, if_pos z7, hπ _ (lc_obj (hG.2 o ho j z7))]
      rw [if_neg z7, if_neg z7]
      by_cases z8 : fK (oc o) j = 8
      · rw [if_pos z8, if_pos z8]
        by_cases q : M o j 0 = 0
        · rw [if_pos q, if_pos q]
        · rw [if_neg q, if_neg q]
          have := hM o j 0
          unfold okC at this
          simp only [z8] at this
          rw [hπ _ (lc_obj (this q ho))]
      rw [if_neg z8, if_neg z8]
      have hA : isA (fK (oc o) j) = true ∨ isA (fK (oc o) j) = false := by cases isA (fK (oc o) j) <;> simp
      rcases hA with hA | hA
      · rw [hπ _ (lc_arr ho hj' hA)]
      · exfalso
        unfold isA at hA
        simp only [Bool.and_eq_false_iff, decide_eq_false_iff_not] at hA
        have hb := fK_le (oc o) j
        omega
    rw [this]
  · rw [ce_arr h99, ce_arr h99]
    have hk := (lc_kind hc h99).2
    have : av π M' o k = av (gp G) M o k := by
      unfold av
      have e : ∀ i, M' o k i = M o k i := hM' o ho k
      simp only [e]
      by_cases z4 : fK (oc o) k = 4
      · rw [if_pos z4, if_pos z4]
      rw [if_neg z4, if_neg z4]
      by_cases z5 : 5 ≤ fK (oc o) k
      · rw [if_pos z5, if_pos z5]
        have hk56 : fK (oc o) k = 5 ∨ fK (oc o) k = 6 := by
          unfold isA at hk
          simp only [Bool.and_eq_true, decide_eq_true_eq] at hk
          omega
        congr 5
        funext i
        by_cases q : M o k i = 0
        · rw [if_pos q, if_pos q]
        · rw [if_neg q, if_neg q, hπ _ (lc_obj (hE o ho k i hk56 q))]
      · rw [if_neg z5, if_neg z5]
    rw [this]
theorem Pic_ext {π : Nat × Nat → Nat} {L1 : List Nat} (hP : Pic G M H) (hG : GOK G) (hM : okM G M) (hE : ∀ o ∈ gL G, ∀ k i, (fK (oc o) k = 5 ∨ fK (oc o) k = 6) → M o k i ≠ 0 → el k i ∈ gL G) (hπ : ∀ c ∈ LC (gL G), π c = gp G c) (hM' : ∀ o ∈ gL G, ∀ k i, M' o k i = M o k i)
    (hN : va_P (gD G) vwCl ((LC L1).map (fun c => (π c, ce (gx G π (gL G ++ L1)) M' c))) H) : Pic (gx G π (gL G ++ L1)) M' H := by
  have e : wsOf (gx G π (gL G ++ L1)) M' = wsOf G M ++ (LC L1).map (fun c => (π c, ce (gx G π (gL G ++ L1)) M' c)) := by
    unfold wsOf
    rw [LC_app, List.map_append]
    congr 1
    apply List.map_congr_left
    intro c hc
    rw [ce_ext hG hM hE hπ hM' hc]
    show (π c, _) = _
    rw [hπ c hc]
  show va_P (gD G) vwCl (wsOf (gx G π (gL G ++ L1)) M') H
  rw [e]
  exact hP.app hN
/-- and back: fewer live objects -/
theorem Pic_less {π : Nat × Nat → Nat} {L1 : List Nat} (hP : Pic (gx G π (gL G ++ L1)) M H) (hc : ∀ c ∈ LC (gL G), (π c, ce (gx G π (gL G ++ L1)) M c) = (gp G c, ce G M c)) : Pic G M H := by
  intro k q hk
  unfold wsOf at hk
  rw [List.getElem?_map] at hk
  cases hl : (LC (gL G))[k]? with
  | none => rw [hl] at hk; cases hk
  | some c =>
    rw [hl] at hk
    cases hk
    have hm : c ∈ LC (gL G) := List.mem_of_getElem? hl
    have h2 : (wsOf (gx G π (gL G ++ L1)) M)[k]? = some (gp G c, ce G M c) := by
      unfold wsOf
      rw [List.getElem?_map, LC_app, List.getElem?_append_left (List.getElem?_eq_some_iff.mp hl).1, hl, ← hc c hm]
      rfl
    exact hP k _ h2
end GRW
