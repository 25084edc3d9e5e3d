section HM4
variable {G : Gx} {K : Kx} {Z : Zx} {M : Mem} {q sz : Nat}
theorem fK_8 {c k : Nat} (h : fK c k = 8) : c = 11 ∧ k = 10 := by
  by_cases hc : c < 13
  · by_cases hk : k < 48
    · have all : ∀ c, c < 13 → ∀ k, k < 48 → fK c k = 8 → c = 11 ∧ k = 10 := by decide +kernel
      exact all c hc k hk h
    · have all : ∀ c, c < 13 → (fKL.getD c []).length ≤ 48 := by decide +kernel
      have := all c hc
      unfold fK at h
      rw [List.getD_eq_getElem?_getD (l := fKL.getD c []), List.getElem?_eq_none (by omega)] at h
      exact absurd h (by decide)
  · unfold fK at h
    rw [List.getD_eq_getElem?_getD (l := fKL), List.getElem?_eq_none (by show 13 ≤ c; omega)] at h
    exact absurd h (by show ¬ ([] : List Nat).getD k 0 = 8; simp)
theorem oc_11 {o : Nat} (h : oc o = 11) : o = 1 := by
  by_cases ho : o < 43
  · have all : ∀ o, o < 43 → oc o = 11 → o = 1 := by decide +kernel
    exact all o ho h
  · unfold oc at h
    rw [List.getD_eq_getElem?_getD, List.getElem?_eq_none (by show 43 ≤ o; omega)] at h
    exact absurd h (by decide)
theorem okM_back (hM : okM (GH G q) M) : okM G M := by
  intro o k i
  have h := hM o k i
  unfold okC at h ⊢
  split
  · rename_i w; rw [if_pos w] at h; exact h
  rename_i w; rw [if_neg w] at h
  split
  · rename_i w; rw [if_pos w] at h; exact h
  rename_i w; rw [if_neg w] at h
  split
  · rename_i w; rw [if_pos w] at h; exact h
  rename_i w; rw [if_neg w] at h
  split
  · rename_i w; rw [if_pos w] at h
    intro a b c
    rcases List.mem_append.mp (h a (List.mem_append_left _ b) c) with y | y
    · exact y
    · have y := List.mem_singleton.mp y
      unfold el at y
      split at y <;> omega
  rename_i w; rw [if_neg w] at h
  split
  · rename_i w; rw [if_pos w] at h
    intro a b
    rcases List.mem_append.mp (h a (List.mem_append_left _ b)) with y | y
    · exact y
    · have y := List.mem_singleton.mp y
      obtain ⟨e1, e2⟩ := fK_8 w
      rw [oc_11 e1, e2] at y
      exact absurd y (by decide)
  rename_i w; rw [if_neg w] at h
  exact h
theorem h_end {x : Int} {pc mc ms : Nat} {lo : List (Option V)} {H : Heap} {locs : List Loc} {t : State} {Q : Option V → Mem → Prop} (hKU : KU G (ks K)) (hG : GOK G) (hsz : (ks K).heap.size = sz) (h14 : 14 ∉ gL G) (hx : inI x) (hE : ∀ o ∈ gL G, ∀ k i, (fK (oc o) k = 5 ∨ fK (oc o) k = 6) → M o k i ≠ 0 → el k i ∈ gL G) (T : Q (some (vI x)) M) (hM : okM (GH G q) M) (hP : Pic (GH G q) M H) (hS : va_S (Az G sz) (ks K).heap H locs) (ht : t.heap = H) (hW : (ks K).WarmedH t.vm) : QmZ G sz Q (ka K) (ks K) (.returned (some (.int (Int32.ofInt x)))) t := by
  have hM' := okM_back hM
  have n14 : ∀ c ∈ LC (gL G), c ≠ (14, 99) := fun c hc e => h14 (by have := lc_live hc; rw [e] at this; exact this)
  have hπ : ∀ c ∈ LC (gL G), πH G q c = gp G c := fun c hc => if_neg (n14 c hc)
  refine ⟨⟨some (vI x), M, rfl, T, hM', fun v e => by cases e; exact hx, ?_, KU_movedZ hKU (A := Az G sz) (locs := locs) (fun q hq h => h.elim id (fun z => by omega)) hW (by rw [ht]; exact hS)⟩, hS.F ht⟩
  rw [ht]
  refine Pic_less (π := πH G q) (L1 := [14]) hP (fun c hc => ?_)
  rw [ce_ext (M' := M) hG hM' hE hπ (fun _ _ _ _ => rfl) hc, hπ c hc]
end HM4
