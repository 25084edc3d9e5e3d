section HM5
variable {G : Gx} {M : Mem} {n : Nat}
def NoR (G : Gx) (M : Mem) : Prop := ∀ o ∈ gL G, ∀ k i, (fK (oc o) k = 5 ∨ fK (oc o) k = 6) → M o k i ≠ 0 → el k i ∈ gL G
theorem c11_house {Q : Int → Mem → Prop} (h1 : 1 ∈ gL G) (h2 : 2 ∈ gL G) (h7 : 7 ∈ gL G) (h14 : 14 ∉ gL G) (hE : NoR G M)
    (T : ∀ q, OkI (GH G q) n mX2_readAll [vO 14] (MH M) (fun r M1 => ∀ M2 : Mem, M2 = mset M1 2 1 0 0 → (¬ r = 0 → OkV (GH G q) n mX8_moveInto [vO 3, vO 7] M2 (fun M3 => NoR G M3 ∧ Q (M3 4 0 0) M3)) ∧ (r = 0 → NoR G M2 ∧ Q (wr ((-2) - M2 2 7 0)) M2))) : OkZ G (n + 3) mX11_house [vO 1] M 1 3 (qI Q) := by
  refine OkZ_of (md := mX11_house) (by decide) (by decide) rfl (fun K sz hsz => ?_)
  intro C
  have hKU := C.2.2.2.2.2.2.2.1
  have hG := C.2.2.2.2.2.2.2.2
  refine h_window hsz h1 h2 h7 h14 hE ⟨by show 2 ≤ n + 3; omega, by show 150 ≤ 120 * (n + 3); omega, Nat.le_refl _, Nat.le_refl _⟩ (fun q hq => ?_) C
  have n14 : ∀ c ∈ LC (gL G), c ≠ (14, 99) := fun c hc e => h14 (by have := lc_live hc; rw [e] at this; exact this)
  have hπ : ∀ c ∈ LC (gL G), πH G q c = gp G c := fun c hc => if_neg (n14 c hc)
  refine h_rest (n := n) (fun x hg => ?_) (fun x hx ha => ?_) ⟨by show n + 1 ≤ n + 3; omega, by show 119 + 120 * n ≤ 120 * (n + 3); omega, Nat.le_refl _, Nat.le_refl _⟩ (OkI_mono (T q) (fun r M1 h M2 m2 => ⟨fun z => OkV_mono ((h M2 m2).1 z) (fun M3 t3 => ?_), fun z => ?_⟩))
  · obtain ⟨c, hc, e⟩ := hg
    have hc' : c ∈ LC (gL G ++ [14]) := hc
    rw [LC_app] at hc'
    rcases List.mem_append.mp hc' with z | z
    · exact Or.inl ⟨c, z, by rw [e]; exact hπ c z⟩
    · have h : LC [14] = [(14, 99)] := rfl
      rw [h] at z
      have e' : x = πH G q (14, 99) := by rw [e, List.mem_singleton.mp z]
      exact Or.inr (by rw [e']; exact hq)
  · rcases ha with ⟨c, hc, e⟩ | z
    · exact ⟨c, by show c ∈ LC (gL G ++ [14]); rw [LC_app]; exact List.mem_append_left _ hc, by rw [e]; exact (hπ c hc).symm⟩
    · omega
  · exact xr_ret (Qc := QmZ G sz (qI Q)) (mc := 1) (ms := 3) dX11_house_65 rfl rfl rfl rfl (fun H locs t C' hM hP hS ht hW => h_end (pc := 0) (mc := 0) (ms := 0) (lo := []) hKU hG hsz h14 (by have := hM 4 0 0; exact this) t3.1 ⟨_, rfl, t3.2⟩ hM hP hS ht hW)
  · have t3 := (h M2 m2).2 z
    exact xr_ret (Qc := QmZ G sz (qI Q)) (mc := 1) (ms := 3) dX11_house_43 rfl rfl rfl rfl (fun H locs t C' hM hP hS ht hW => h_end (pc := 0) (mc := 0) (ms := 0) (lo := []) hKU hG hsz h14 (wr_in _) t3.1 ⟨_, rfl, t3.2⟩ hM hP hS ht hW)
end HM5
