section RAX
variable {G : Gx} {K : Kx} {md : MD} {R : Room} {A : Nat → Prop} {F : State → Prop} {cs sl pc : Nat} {ls : Array Slot} {st : List Value} {ws : va_W} {a sz ci mc ms : Nat} {fs as : List Value} {S : va_W → Prop}
/-- a constructor's contract: before it, one object with nothing in it; behind it, what S says; nothing else changes -/
def Pn (G : Gx) (a ci sz : Nat) (fs as : List Value) : Array Value → State → Prop := va_Pc (.ref a :: as) (fun U => U.heap.size = sz ∧ va_P (gD G) vwCl [(a, .inr (ci, fs))] U.heap ∧ va_K (gD G) vwCl (tysOf (gy G)) U ∧ ∀ w ∈ nw, va_Nw w U)
abbrev Aa (a sz : Nat) : Nat → Prop := fun q => q = a ∨ sz ≤ q
def Qn (G : Gx) (a sz : Nat) (S : va_W → Prop) : Array Value → State → Outcome → State → Prop := fun _ s oc t => (oc = .returned none ∧ ∃ ws, S ws ∧ va_P (gD G) vwCl ws t.heap ∧ va_D (Aa a sz) ws) ∧ va_F (Aa a sz) s t
abbrev Fn (G : Gx) (K : Kx) (a sz mc ms : Nat) (S : va_W → Prop) : State → Prop := MQ (kb K) (Qn G a sz S) (ka K) (ks K) mc ms (Aa a sz)
theorem n_of (hp : plainName md.1.cls = true) (hi : md.1.name = "<init>") (hr : md.2.2.2 = none) (hlen : (lg_sl (.ref a :: as)).length ≤ md.2.2.1)
    (h : ∀ (K : Kx) (ls : Array Slot), RX G K md (Aa a sz) → (kt K).sig.returnType = none → (kt K).locks = false → (∀ w ∈ nw, va_Nw w (ks K)) → lv_has ls md.2.2.1 (lv_args 0 (.ref a :: as)) → RW G K R (Aa a sz) (Fn G K a sz mc ms S) 0 0 0 ls [] [(a, .inr (ci, fs))]) : Met (gl G) md.1 (.code md.1 md.2.1 md.2.2.1 md.2.2.2 :: gw) R (Pn G a ci sz fs as) (Qn G a sz S) mc ms (Aa a sz) := by
  refine Met.ofW (cc := md.2.1) (maxL := md.2.2.1) (ret := md.2.2.2) hp rfl ?_
  intro p e s m args below meth c s₁ B hml hv
  obtain ⟨rfl, hsz, hP, hK, hN⟩ := hv
  have hts := atoms_spec (ws := .code md.1 md.2.1 md.2.2.1 md.2.2.2 :: gw) B.pre
  have hown : s.vm.findClass md.1.cls = some m.cls := findClass_of_methodNamed B.named
  have hin : meth.name = "<init>" := (name_of_methodNamed B.named B.method).1.trans hi
  have hl := lv_entry (.ref a :: as) (n := md.2.2.1) hlen
  rw [lg_entry_eq]
  have hA : ∀ q, s.heap.size ≤ q → Aa a sz q := fun q hq => Or.inr (by rw [← hsz]; exact hq)
  refine h (p, e, s, m, (.ref a :: as).toArray, below, meth, c) _ ⟨B.exec, B.bytes, hml, hown, fun w hw => hts w (List.mem_cons_of_mem _ hw), hK, hA, hin⟩ (B.returns.trans hr) B.notSynchronized hN hl s.heap [] hP ?_ va_S.rf
  refine ⟨fun i j p q hi hj _ => ?_, fun k q hk => ?_⟩
  · have h1 := (List.getElem?_eq_some_iff.mp hi).1
    have h2 := (List.getElem?_eq_some_iff.mp hj).1
    simp at h1 h2
    omega
  · have h1 := (List.getElem?_eq_some_iff.mp hk).1
    simp at h1
    subst h1
    cases hk
    exact Or.inl rfl
theorem rw_ret (X : RX G K md (Aa a sz)) (h1 : (kt K).sig.returnType = none) (h2 : (kt K).locks = false) (d : decode md.2.1 pc = .ok (.return_, 1)) (hS : S ws) : RW G K R (Aa a sz) (Fn G K a sz mc ms S) mc ms pc ls [] ws := by
  intro H locs hP hD hSt
  exact W.vret X.1 X.2.1 h1 (fun t ht hW => ⟨⟨rfl, ws, hS, by rw [ht]; exact hP, hD⟩, hSt.F ht⟩) hSt.2.2 d h2
theorem rw_al {k : Fin 4} {x : Nat} (X : RX G K md A) (d : decode md.2.1 pc = .ok (.aload_n k, 1)) (h : ls[(k : Nat)]? = some (.val (.ref x))) (kk : RW G K R A F cs sl (pc + 1) ls (.ref x :: st) ws) : RW G K R A F cs sl pc ls st ws := fun H locs hP hD hS => lv_aload_n X.1 X.2.1 d rfl h (kk H locs hP hD hS)
theorem rw_bi {z : Int} {v : Int32} (X : RX G K md A) (d : decode md.2.1 pc = .ok (.bipush z, 2)) (h : (Int8.ofInt z).toInt32 = v) (kk : RW G K R A F cs sl (pc + 2) ls (.int v :: st) ws) : RW G K R A F cs sl pc ls st ws := fun H locs hP hD hS => lv_bipush X.1 X.2.1 d h (kk H locs hP hD hS)
theorem rw_si {z : Int} {v : Int32} (X : RX G K md A) (d : decode md.2.1 pc = .ok (.sipush z, 3)) (h : (Int16.ofInt z).toInt32 = v) (kk : RW G K R A F cs sl (pc + 3) ls (.int v :: st) ws) : RW G K R A F cs sl pc ls st ws := fun H locs hP hD hS => lv_sipush X.1 X.2.1 d h (kk H locs hP hD hS)
theorem rw_ic {z : Int} {v : Int32} (X : RX G K md A) (d : decode md.2.1 pc = .ok (.iconst z, 1)) (h : Int32.ofInt z = v) (kk : RW G K R A F cs sl (pc + 1) ls (.int v :: st) ws) : RW G K R A F cs sl pc ls st ws := fun H locs hP hD hS => lv_iconst X.1 X.2.1 d h (kk H locs hP hD hS)
theorem rw_obj {idx x : Nat} (X : RX G K md A) (d : decode md.2.1 pc = .ok (.invokespecial idx, 3)) (hl : Cond.methodLink md.1.cls idx objectInit ∈ gw) (hs : ls.size = md.2.2.1) (hf : 1 ≤ R.frames) (hlo : 20 ≤ R.locals) (kk : RW G K R A F cs sl (pc + 3) ls [] ws) : RW G K R A F cs sl pc ls [.ref x] ws := by
  intro H locs hP hD hS
  refine W.objInit X.1 X.2.1 X.2.2.2.1 (X.2.2.2.2.1 _ hl) (X.2.2.2.2.1 _ wO_i) (X.2.2.2.2.1 _ wO_c) rfl (by rw [X.2.2.1]; exact hs) rfl d hf (by have e1 : (F0 (km K) pc ls [Value.ref x]).monitorRoom = 0 := rfl; have e2 : (List.map (fun v : Value => v.category) []).sum = 0 := rfl; omega) ?_
  refine W.eq (g2 := F0 (km K) (pc + 3) ls []) rfl ?_
  exact kk H locs hP hD hS
/-- a final field takes a reference -/
theorem rw_put {k idx x : Nat} {C : String} (X : RX G K md A) (d1 : decode md.2.1 pc = .ok (.putfield idx, 3)) (f : Ff md.1.cls idx ci k (.object C)) (h0 : ws[0]? = some (a, .inr (ci, fs))) (hk : k < fs.length) (kk : RW G K R A F cs sl (pc + 3) ls st (ws.set 0 (a, Sum.inr (ci, fs.set k (Value.ref x))))) : RW G K R A F cs sl pc ls (.ref x :: .ref a :: st) ws := by
  intro H locs hP hD hS
  obtain ⟨x1, x2, x3, x4, x5, x6, x7, x8⟩ := X
  obtain ⟨C, T, NN, tf, f1, f2, f3, f4, f5, f6, f7, f8, f9⟩ := f
  exact va_putF (ci := ci) x1 x2 x5 f3 tf f5 f6 x4 x6 hP hD hS 0 h0 f1 k f2 (x5 _ f4) (fun _ h => h) f7 x8 f8 f9 rfl rfl hk d1 (fun H2 locs2 hP hD hS => kk H2 locs2 hP hD hS)
end RAX
