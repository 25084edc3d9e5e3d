/-! ===== a constructor makes an object ===== -/
section RSB
variable {G : Gx} {K : Kx} {md md' : MD} {R R' : Room} {A : Nat → Prop} {F : State → Prop} {cs sl pc : Nat} {ls : Array Slot} {st : List Value} {ws : va_W} {a ci ci' mc ms : Nat} {fs fs' as : List Value}
theorem Nw_call {U : State} {g : JFrame} {mk : MethodId} {x : Array Value} (h : ∀ w ∈ nw, va_Nw w U) : ∀ w ∈ nw, va_Nw w (U.calling g mk x) := by
  intro w hw
  have h1 := h w hw
  have h2 := (List.mem_filter.mp hw).2
  cases w <;> first | (simp [isNest] at h2; done) | exact va_Nw.same rfl rfl h1
theorem Nw_warm {s U : State} (hW : s.WarmedH U.vm) (h : ∀ w ∈ nw, va_Nw w s) : ∀ w ∈ nw, va_Nw w U := by
  intro w hw
  have h1 := h w hw
  have h2 := (List.mem_filter.mp hw).2
  cases w <;> first | (simp [isNest] at h2; done) | exact va_Nw.warmM hW h1
theorem Pn_blind {sz : Nat} : FrameBlind (Pn G a ci sz fs as) := fun _ U _ _ q => ⟨q.1, q.2.1, q.2.2.1, va_K.moved (u := U) (Vm.Alike.refl U.vm) q.2.2.2.1, Nw_call q.2.2.2.2⟩
/-- new worlds beside old ones -/
theorem D_join {ws' : va_W} {q sz : Nat} {e : va_E} (hD : va_D A (ws ++ [(q, e)])) (hl : ∀ (k : Nat) (x : Nat × va_E), ws[k]? = some x → x.1 < sz) (hA : ∀ x, sz ≤ x → A x) (hD' : va_D (Aa q sz) ws') : va_D A (ws ++ ws') := by
  have hq : A q := hD.2 ws.length (q, e) (by rw [List.getElem?_append_right (Nat.le_refl _), Nat.sub_self]; rfl)
  have hqn : ∀ (k : Nat) (x : Nat × va_E), ws[k]? = some x → x.1 ≠ q := by
    intro k x hk hx
    have hlt := (List.getElem?_eq_some_iff.mp hk).1
    have := hD.1 k ws.length x (q, e) (by rw [List.getElem?_append_left hlt]; exact hk) (by rw [List.getElem?_append_right (Nat.le_refl _), Nat.sub_self]; rfl) hx
    omega
  refine ⟨fun i j p r hi hj e => ?_, fun k r hk => ?_⟩
  · by_cases h1 : i < ws.length
    · rw [List.getElem?_append_left h1] at hi
      by_cases h2 : j < ws.length
      · rw [List.getElem?_append_left h2] at hj
        exact hD.1 i j p r (by rw [List.getElem?_append_left h1]; exact hi) (by rw [List.getElem?_append_left h2]; exact hj) e
      · rw [List.getElem?_append_right (by omega)] at hj
        rcases hD'.2 _ _ hj with z | z
        · exact absurd (e.trans z) (hqn i p hi)
        · have := hl i p hi; omega
    · rw [List.getElem?_append_right (by omega)] at hi
      by_cases h2 : j < ws.length
      · rw [List.getElem?_append_left h2] at hj
        rcases hD'.2 _ _ hi with z | z
        · exact absurd (e.symm.trans z) (hqn j r hj)
        · have := hl j r hj; omega
      · rw [List.getElem?_append_right (by omega)] at hj
        have := hD'.1 _ _ p r hi hj e
        omega
  · by_cases h1 : k < ws.length
    · rw [List.getElem?_append_left h1] at hk
      exact hD.2 k r (by rw [List.getElem?_append_left h1]; exact hk)
    · rw [List.getElem?_append_right (by omega)] at hk
      rcases hD'.2 _ _ hk with z | z
      · rw [z]; exact hq
      · exact hA _ z
/-- the words: a class to be made from own's code, its constructor -/
def Nn (own : String) (i0 i1 ci' : Nat) (md' : MD) (host : String) (fs' : List Value) (na : Nat) : Prop := ∃ (C : String) (T : u_T) (tf : Nat → FieldType), vwCl[ci']? = some (C, T, fs'.length) ∧ (∀ w ∈ u_ws C T fs'.length, w ∈ gw) ∧ (∀ j, j < fs'.length → parseFieldDescriptor (T j).2.2.1 = some (tf j)) ∧ Cond.classLink own i0 C ∈ gw ∧ Cond.instantiable C fs'.length ∈ gw ∧ Cond.initialized C ∈ gw ∧ (∀ j, j < fs'.length → defaultValue (tf j) = vp_V fs' j) ∧ Cond.methodLinkNest own i1 md'.1 host ∈ nw ∧ Cond.instanceMethod md'.1 ∈ gw ∧ Cond.initialized md'.1.cls ∈ gw ∧ Cond.code md'.1 md'.2.1 md'.2.2.1 md'.2.2.2 ∈ gw ∧ (md'.1.cls ≠ "java/lang/invoke/MethodHandle" ∧ md'.1.cls ≠ "java/lang/invoke/VarHandle") ∧ (parseMethodDescriptor md'.1.desc).map (fun d => d.parameters.length) = some na ∧ md'.1.name = "<init>" ∧ md'.2.2.2 = none ∧ md'.2.2.1 ≤ 5
/-- new, dup, <init>: an object more -/
theorem rw_sub {i0 i1 : Nat} {host : String} {S' : Nat → va_W → Prop} (X : RX G K md A) (hN : ∀ w ∈ nw, va_Nw w (ks K)) (hls : ls.size = md.2.2.1) (d0 : decode md.2.1 pc = .ok (.new i0, 3)) (d1 : decode md.2.1 (pc + 3) = .ok (.dup, 1)) (d2 : decode md.2.1 (pc + 4) = .ok (.invokespecial i1, 3)) (f : Nn md.1.cls i0 i1 ci' md' host fs' 0)
    (hM : ∀ q sz, Met (gl G) md'.1 (.code md'.1 md'.2.1 md'.2.2.1 md'.2.2.2 :: gw) R' (Pn G q ci' sz fs' []) (Qn G q sz (S' q)) mc ms (Aa q sz)) (hR : R'.cells = mc ∧ R'.slots = ms ∧ R'.frames + 1 ≤ R.frames ∧ 24 + R'.locals ≤ R.locals) (hst : (st.map fun v => v.category).sum ≤ 7) (hc : cs + 1 + mc ≤ R.cells) (hs : sl + fs'.length + ms ≤ R.slots)
    (kk : ∀ (q : Nat) (ws' : va_W), S' q ws' → RW G K R A F (cs + 1 + mc) (sl + fs'.length + ms) (pc + 7) ls (.ref q :: st) (ws ++ ws')) : RW G K R A F cs sl pc ls st ws := by
  intro H locs hP hD hS
  obtain ⟨x1, x2, x3, x4, x5, x6, x7, x8⟩ := X
  obtain ⟨C, T, tf, f1, f2, f3, f4, f5, f6, f7, f8, f9, f10, f11, f12, f13, f14, f15, f16⟩ := f
  have hlt : ∀ (k : Nat) (x : Nat × va_E), ws[k]? = some x → x.1 < H.size := fun k x hx => (hP k x hx).lt
  refine va_new (ci := ci') (fs := fs') x1 x2 x5 f2 tf f3 x4 (x5 _ f4) (x5 _ f5) (x5 _ f6) x6 hP hD hS x7 f1 f7 (by omega) (by omega) d0 (fun q H1 hP1 hD1 hS1 => ?_)
  have hq1 : q < H1.size := (hP1 ws.length (q, .inr (ci', fs')) (by rw [List.getElem?_append_right (Nat.le_refl _), Nat.sub_self]; rfl)).lt
  have hlt1 : ∀ (k : Nat) (x : Nat × va_E), ws[k]? = some x → x.1 < H1.size := fun k x hx => (hP1 k x (by rw [List.getElem?_append_left (List.getElem?_eq_some_iff.mp hx).1]; exact hx)).lt
  refine lv_dup x1 x2 d1 rfl ?_
  have hcw : va_CN R (ks K) (ka K) md.1.cls i1 md'.1 host md'.2.1 md'.2.2.1 none (.code md'.1 md'.2.1 md'.2.2.1 md'.2.2.2 :: gw) R' mc ms 0 :=
    f15 ▸ va_cnB 0 x5 (gw_good f11) rfl hR.1 hR.2.1 (hN _ f8) (x5 _ f10) ⟨f12.1, f12.2, f13⟩ ⟨hR.2.2.1, by omega⟩
  have hpre : PreS (ks K) H1 (Pn G q ci' H1.size fs' []) [.ref q] := ⟨Pn_blind, fun U hU hW => ⟨rfl, by rw [hU], by
    rw [hU]
    intro k x hk
    have h1 := (List.getElem?_eq_some_iff.mp hk).1
    simp at h1
    subst h1
    cases hk
    exact hP1 ws.length (q, .inr (ci', fs')) (by rw [List.getElem?_append_right (Nat.le_refl _), Nat.sub_self]; rfl), va_K.moved hW.alike x6, Nw_warm hW hN⟩⟩
  have hrun := va_runIN (e := ke K) (below := kb K) (meth := kt K) (locs := locs) (cells := cs + 1) (slots := sl + fs'.length) (As := []) (rest := .ref q :: st) (g := F0 (km K) (pc + 4) ls (.ref q :: .ref q :: st)) ⟨x1, x2, x3, x4, x5⟩ (hM q H1.size) ⟨hcw, f14, x5 _ f9⟩ hpre rfl rfl hls rfl (lv_room (by rw [List.map_cons, List.sum_cons]; have e2 : (Value.ref q).category = 1 := rfl; omega)) d2 ⟨hc, hs⟩
  intro T0 hT X0
  obtain ⟨v, st₀, t, T', L, h0, X', hL, e1, e2, ⟨⟨hv, ws', hS', hP', hD'⟩, hz, hk⟩, stp⟩ := hrun T0 hT X0
  cases hv
  rw [h0] at hz hk
  have hAll : ∀ x, Aa q H1.size x → A x := fun x hx => by
    rcases hx with z | z
    · rw [z]; exact hD1.2 ws.length (q, .inr (ci', fs')) (by rw [List.getElem?_append_right (Nat.le_refl _), Nat.sub_self]; rfl)
    · exact x7 x (Nat.le_trans hS1.1 z)
  have hqn : ∀ (k : Nat) (x : Nat × va_E), ws[k]? = some x → x.1 ≠ q := by
    intro k x hx e
    have hlt' := (List.getElem?_eq_some_iff.mp hx).1
    have := hD1.1 k ws.length x (q, .inr (ci', fs')) (by rw [List.getElem?_append_left hlt']; exact hx) (by rw [List.getElem?_append_right (Nat.le_refl _), Nat.sub_self]; rfl) e
    omega
  have hPo : va_P (gD G) vwCl ws t.heap := by
    have hPw : va_P (gD G) vwCl ws H1 := fun k x hx => hP1 k x (by rw [List.getElem?_append_left (List.getElem?_eq_some_iff.mp hx).1]; exact hx)
    refine hPw.kept (fun k x hx => hk x.1 (hlt1 k x hx) (fun z => ?_))
    rcases z with z | z
    · exact hqn k x hx z
    · have := hlt1 k x hx; omega
  obtain ⟨t2, a1, b1⟩ := kk q ws' hS' T'.heap (locs ++ L) (by rw [e1]; exact hPo.app hP') (D_join hD1 hlt1 (fun x hx => hAll x (Or.inr hx)) hD') ⟨Nat.le_trans hS1.1 (by rw [e1]; exact hz), fun x h1 h2 => by
      rw [e1, hk x (Nat.lt_of_lt_of_le h1 hS1.1) (fun z => h2 (hAll x z))]; exact hS1.2.1 x h1 h2, fun x hx => by
      rcases List.mem_append.mp hx with h | h
      · exact hS1.2.2 x h
      · exact hAll _ (hL x h)⟩ T' rfl X'
  exact ⟨t2, stp t2 a1, b1⟩
end RSB
