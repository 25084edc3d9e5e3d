section HM2
variable {G : Gx} {K : Kx} {M : Mem} {F : State → Prop} {R : Room} {sz : Nat}
theorem wH_cl : Cond.classLink RX11 91 RX2 ∈ gw := gt2 (i := 172) (by decide +kernel) rfl
theorem wH_in : Cond.instantiable RX2 3 ∈ gw := gt2 (i := 173) (by decide +kernel) rfl
theorem wH_ini : Cond.initialized RX2 ∈ gw := gt1 (i := 10) (by decide +kernel) rfl
theorem wH_ml : Cond.methodLink RX11 93 yX2_init ∈ gw := gt2 (i := 174) (by decide +kernel) rfl
theorem wH_im : Cond.instanceMethod yX2_init ∈ gw := gt2 (i := 175) (by decide +kernel) rfl
theorem wH_co : Cond.code yX2_init cX2_init 3 none ∈ gw := gt2 (i := 176) (by decide +kernel) rfl
abbrev πH (G : Gx) (q : Nat) : Nat × Nat → Nat := fun c => if c = (14, 99) then q else gp G c
abbrev GH (G : Gx) (q : Nat) : Gx := gx G (πH G q) (gL G ++ [14])
abbrev MH (M : Mem) : Mem := fun o k i => if o = 14 then 0 else M o k i
theorem h_window (hsz : (ks K).heap.size = sz) (h1 : 1 ∈ gL G) (h2 : 2 ∈ gL G) (h7 : 7 ∈ gL G) (h14 : 14 ∉ gL G) (hE : ∀ o ∈ gL G, ∀ k i, (fK (oc o) k = 5 ∨ fK (oc o) k = 6) → M o k i ≠ 0 → el k i ∈ gL G) (hR : 2 ≤ R.frames ∧ 150 ≤ R.locals ∧ 1 ≤ R.cells ∧ 3 ≤ R.slots)
    (kk : ∀ q, sz ≤ q → CX (GH G q) K mX11_house (R, Az G sz, 1, 3) 15 [some (vO 1), none, none] [vO 14] (MH M) F) : CX G K mX11_house (R, Az G sz, 0, 0) 0 [some (vO 1), none, none] [] M F := by
  intro C hM hs hl H locs ls hP hS hL
  have hts := C.2.2.2.2.1
  have hKU := C.2.2.2.2.2.2.2.1
  have hG := C.2.2.2.2.2.2.2.2
  have hD : va_D (Az G sz) (wsOf G M) := ws_DZ (fun q h => Or.inl h) hG
  have hA : ∀ q, (ks K).heap.size ≤ q → Az G sz q := fun q h => Or.inr (by rw [← hsz]; exact h)
  have hszH : sz ≤ H.size := by rw [← hsz]; exact hS.1
  refine va_new (ci := 2) (fs := [.null, .null, .int 0]) (C := RX2) (T := TX2) (N := 3) C.1 C.2.1 hts gX2 tyX2 tyX2_ok C.2.2.2.1 (hts _ wH_cl) (hts _ wH_in) (hts _ wH_ini) hKU.1 hP hD hS hA rfl (fun j hj => by rcases (show j = 0 ∨ j = 1 ∨ j = 2 by omega) with rfl|rfl|rfl <;> rfl) hR.2.2.1 hR.2.2.2 dX11_house_0 (fun q H1 hP1 hD1 hS1 => ?_)
  have hlast : (wsOf G M ++ [((q, .inr (2, [.null, .null, .int 0])) : Nat × va_E)])[(wsOf G M).length]? = some (q, .inr (2, [.null, .null, .int 0])) := by rw [List.getElem?_append_right (Nat.le_refl _), Nat.sub_self]; rfl
  have hlt1 : ∀ (k : Nat) (x : Nat × va_E), (wsOf G M)[k]? = some x → x.1 < H1.size := fun k x hx => (hP1 k x (by rw [List.getElem?_append_left (List.getElem?_eq_some_iff.mp hx).1]; exact hx)).lt
  have hqn : ∀ (k : Nat) (x : Nat × va_E), (wsOf G M)[k]? = some x → x.1 ≠ q := by
    intro k x hx e
    have hlt' := (List.getElem?_eq_some_iff.mp hx).1
    have := hD1.1 k (wsOf G M).length x _ (by rw [List.getElem?_append_left hlt']; exact hx) hlast e
    omega
  obtain ⟨q1, hq1, hw1⟩ := ws_mem (M := M) (lc_obj h1)
  have hw1' : (wsOf G M ++ [((q, .inr (2, [.null, .null, .int 0])) : Nat × va_E)])[q1]? = some (gp G (1, 99), .inr (11, fl (gp G) M 1)) := by
    rw [List.getElem?_append_left (List.getElem?_eq_some_iff.mp hw1).1, hw1, ce_obj]; rfl
  refine lv_dup C.1 C.2.1 dX11_house_3 rfl ?_
  refine lv_aload_n C.1 C.2.1 dX11_house_4 rfl (hL.2.2 0 (vO 1) rfl) ?_
  refine g_get (v := vO 2) C dX11_house_5 fX11_10 rfl hw1' hP1 rfl ?_
  refine lv_aload_n C.1 C.2.1 dX11_house_8 rfl (hL.2.2 0 (vO 1) rfl) ?_
  refine g_get (v := vO 7) C dX11_house_9 fX11_19 rfl hw1' hP1 rfl ?_
  sorry
end HM2
