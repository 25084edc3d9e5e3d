/-! ===== from the raw list back to the clean machine, in a bigger world ===== -/
section GR2
variable {G : Gx} {K : Kx} {md : MD} {Z : Zx} {pc : Nat} {lo : List (Option V)} {st : List V} {M M' : Mem} {Q : State → Prop} {A : Nat → Prop} {H : Heap} {π : Nat × Nat → Nat} {L L1 : List Nat}
theorem GOK_mk (h : va_D A (wsOf G M)) (hc : ∀ o ∈ gL G, ∀ k, fK (oc o) k = 7 → lk o k ∈ gL G) : GOK G := by
  refine ⟨⟨(ws_D (M' := fun _ _ _ => 0) h).1, fun k q hk => ?_⟩, hc⟩
  unfold wsOf at hk
  rw [List.getElem?_map] at hk
  cases hl : (LC (gL G))[k]? with
  | none => rw [hl] at hk; cases hk
  | some c =>
    rw [hl] at hk
    cases hk
    exact ⟨c, List.mem_of_getElem? hl, rfl⟩
theorem Cx_ext (C : Cx G K md) (hπ : ∀ c, 1000 ≤ c.1 → π c = gp G c) (hB : ∀ q, q < (ks K).heap.size → gA (gx G π L) q → gA G q) (hG : GOK (gx G π L)) : Cx (gx G π L) K md :=
  ⟨C.1, C.2.1, C.2.2.1, C.2.2.2.1, C.2.2.2.2.1, C.2.2.2.2.2.1, C.2.2.2.2.2.2.1, KU_ext C.2.2.2.2.2.2.2.1 hπ hB, hG⟩
theorem okV_ext {v : V} (h : okV G v) : okV (gx G π (gL G ++ L1)) v := by
  match v with
  | .inl x => exact h
  | .inr (.inl x) => exact h
  | .inr (.inr none) => trivial
  | .inr (.inr (some c)) =>
    rcases h with h | h
    · exact Or.inl (by show c ∈ LC (gL G ++ L1); rw [LC_app]; exact List.mem_append_left _ h)
    · exact Or.inr h
theorem cv_ext {v : V} (h : okV G v) (hπ : ∀ c ∈ LC (gL G), π c = gp G c) (hπ' : ∀ c, 1000 ≤ c.1 → π c = gp G c) : cv π v = cv (gp G) v := by
  match v with
  | .inl x => rfl
  | .inr (.inl x) => rfl
  | .inr (.inr none) => rfl
  | .inr (.inr (some c)) =>
    rcases h with h | h
    · show Value.ref (π c) = Value.ref (gp G c); rw [hπ c h]
    · show Value.ref (π c) = Value.ref (gp G c); rw [hπ' c h]
theorem HL_ext {nL : Nat} {ls : Array Slot} (h : HL (gp G) nL ls lo) (hl : okL G lo) (hπ : ∀ c ∈ LC (gL G), π c = gp G c) (hπ' : ∀ c, 1000 ≤ c.1 → π c = gp G c) : HL π nL ls lo :=
  ⟨h.1, h.2.1, fun i v hi => by rw [cv_ext (okL_get hl hi) hπ hπ']; exact h.2.2 i v hi⟩
theorem okM_ext (hM : okM G M) (hM' : ∀ o ∈ gL G, ∀ k i, M' o k i = M o k i) (hr : ∀ o, o ∉ gL G → ∀ k i, okC (gx G π (gL G ++ L1)) M' o k i) : okM (gx G π (gL G ++ L1)) M' := by
  intro o k i
  by_cases ho : o ∈ gL G
  · have h := hM o k i
    unfold okC at h ⊢
    rw [hM' o ho k i]
    split
    · rename_i z; rw [if_pos z] at h; exact h
    rename_i z; rw [if_neg z] at h
    split
    · rename_i z; rw [if_pos z] at h; exact h
    rename_i z; rw [if_neg z] at h
    split
    · rename_i z; rw [if_pos z] at h; exact h
    rename_i z; rw [if_neg z] at h
    split
    · rename_i z; rw [if_pos z] at h
      exact fun a _ c => List.mem_append_left _ (h a ho c)
    rename_i z; rw [if_neg z] at h
    split
    · rename_i z; rw [if_pos z] at h
      exact fun a _ => List.mem_append_left _ (h a ho)
    rename_i z; rw [if_neg z] at h
    exact h
  · exact hr o ho k i
end GR2
