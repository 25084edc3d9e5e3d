/-! ===== the class's house: a reader is made ===== -/
section HMK
variable {G : Gx} {K : Kx} {md : MD} {Z : Zx} {pc : Nat} {lo : List (Option V)} {st : List V} {M M' : Mem} {Q : State → Prop} {H : Heap} {locs : List Loc} {ls : Array Slot} {st0 : List Value} {R : Room} {cs sl : Nat}
theorem g_get {ws : va_W} {q o k ci idx : Nat} {v : V} (C : Cx G K md) (d : decode md.2.1 pc = .ok (.getfield idx, 3)) (f : Fl md.1.cls idx ci k) (ho : oc o = ci) (hw : ws[q]? = some (gp G (o, 99), .inr (ci, fl (gp G) M o))) (hP : va_P (gD G) vwCl ws H) (hv : fv (gp G) M o k = cv (gp G) v)
    (kk : W (kp K) (gl G) (ke K) R (ks K) (km K) (ka K) (kb K) (kt K) (kc K) H locs cs sl Q (F0 (km K) (pc + 3) ls (cv (gp G) v :: st0))) : W (kp K) (gl G) (ke K) R (ks K) (km K) (ka K) (kb K) (kt K) (kc K) H locs cs sl Q (F0 (km K) pc ls (.ref (gp G (o, 99)) :: st0)) := by
  obtain ⟨Cn, T, N, h1, h2, h3, h4, h5⟩ := f
  have h3' : k < nf (oc o) := by rw [ho, ← h2]; exact h3
  exact va_get C.1 C.2.1 C.2.2.2.2.1 h4 C.2.2.2.1 C.2.2.2.2.2.2.2.1.1 hP q hw h1 k h3 (C.2.2.2.2.1 _ h5) (fun _ h => h) (v := cv (gp G) v) (by rw [fl_get h3', hv]) d kk
def Az (G : Gx) (sz : Nat) : Nat → Prop := fun q => gA G q ∨ sz ≤ q
def QmZ (G : Gx) (sz : Nat) (Q : Option V → Mem → Prop) : Array Value → State → Outcome → State → Prop := fun _ s oc t =>
  (∃ (r : Option V) (M : Mem), oc = .returned (r.map (cv (gp G))) ∧ Q r M ∧ okM G M ∧ (∀ v, r = some v → okV G v) ∧ Pic G M t.heap ∧ KU G t) ∧ va_F (Az G sz) s t
/-- the same as Ok, for a method that makes mc cells of ms slots and keeps none of them -/
def OkZ (G : Gx) (n : Nat) (md : MD) (as : List V) (M : Mem) (mc ms : Nat) (Q : Option V → Mem → Prop) : Prop :=
  okM G M → okS G as → GOK G → ∀ sz, Met (gl G) md.1 (.code md.1 md.2.1 md.2.2.1 md.2.2.2 :: gw) { frames := n, cells := mc, slots := ms, locals := 120 * n } (va_Pc (as.map (cv (gp G))) (fun U => U.heap.size = sz ∧ Pic G M U.heap ∧ KU G U)) (QmZ G sz Q) mc ms (Az G sz)
theorem OkZ_of {n mc ms : Nat} {as : List V} {lo' : List (Option V)} {Q : Option V → Mem → Prop} (hp : plainName md.1.cls = true) (hlen : (lo1 as).length ≤ md.2.2.1) (e : lo0 as md.2.2.1 = lo') (h : ∀ (K : Kx) (sz : Nat), (ks K).heap.size = sz → CX G K md ({ frames := n, cells := mc, slots := ms, locals := 120 * n }, Az G sz, 0, 0) 0 lo' [] M (MQ (kb K) (QmZ G sz Q) (ka K) (ks K) mc ms (Az G sz))) : OkZ G n md as M mc ms Q := by
  intro hM hs hG sz
  subst e
  refine Met.ofW (cc := md.2.1) (maxL := md.2.2.1) (ret := md.2.2.2) hp rfl ?_
  intro p e s m args below meth c s₁ B hml hv
  obtain ⟨rfl, hsz, hP, hK⟩ := hv
  have hts := atoms_spec (ws := .code md.1 md.2.1 md.2.2.1 md.2.2.2 :: gw) B.pre
  have hown : s.vm.findClass md.1.cls = some m.cls := findClass_of_methodNamed B.named
  have C : Cx G (p, e, s, m, (as.map (cv (gp G))).toArray, below, meth, c) md := ⟨B.exec, B.bytes, hml, hown, fun w hw => hts w (List.mem_cons_of_mem _ hw), B.returns, B.notSynchronized, hK, hG⟩
  have hl := lv_entry (as.map (cv (gp G))) (n := md.2.2.1) (by rw [lo1_len]; exact hlen)
  rw [lg_entry_eq]
  refine h (p, e, s, m, (as.map (cv (gp G))).toArray, below, meth, c) sz hsz C hM (fun v hv => by cases hv) (fun v hv => ?_) s.heap [] _ hP va_S.rf ⟨hl.1, hl.2.1, fun i v hi => ?_⟩
  · unfold lo0 at hv
    rcases List.mem_append.mp hv with h1 | h1
    · unfold lo1 at h1
      obtain ⟨w, hw, h2⟩ := List.mem_flatMap.mp h1
      split at h2
      · simp at h2; rw [h2]; exact hs w hw
      · simp at h2; rw [h2]; exact hs w hw
    · cases (List.mem_replicate.mp h1).2
  · have hi' : (lo1 as)[i]? = some (some v) := by
      unfold lo0 at hi
      by_cases hlt : i < (lo1 as).length
      · rwa [List.getElem?_append_left hlt] at hi
      · rw [List.getElem?_append_right (by omega)] at hi
        have := List.mem_of_getElem? hi
        cases (List.mem_replicate.mp this).2
    have := lo1_args (G := G) 0 i v hi'
    rw [Nat.zero_add] at this
    exact hl.2.2 _ this
end HMK
