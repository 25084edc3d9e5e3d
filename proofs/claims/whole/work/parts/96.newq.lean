section RNQ
variable {G : Gx} {K : Kx} {md : MD} {R : Room} {A : Nat → Prop} {F : State → Prop} {cs sl pc : Nat} {ls : Array Slot} {st : List Value} {ws : va_W} {a sz ci mc ms : Nat} {fs as : List Value} {S : va_W → Prop} {E : State → Prop}
theorem rw_newq {C : String} {k N idx i0 kd j : Nat} {n : Int32} (X : RX G K md A) (ho : va_AO C (ks K)) (d0 : decode md.2.1 pc = .ok (.anewarray i0, 3)) (d1 : decode md.2.1 (pc + 3) = .ok (.putfield idx, 3)) (f : Ff md.1.cls idx ci k (.array (.object C))) (hcl : Cond.classLink md.1.cls i0 C ∈ gw) (hj : (tysOf (gy G))[j]? = some (gy G kd, .object C)) (hn : ¬ n < 0) (hN : n.toNatClampNeg = N) (hb : N * 4 ≤ 536870912) (hc : cs + 1 ≤ R.cells) (hs : sl + N ≤ R.slots) (h0 : ws[0]? = some (a, .inr (ci, fs))) (hk : k < fs.length)
    (kk : ∀ q : Nat, RW G K R A F (cs + 1) (sl + N) (pc + 6) ls st ((ws ++ [((q, Sum.inl (gy G kd, N, .inr (.inr (.inr (.inr (fun _ => none)))))) : Nat × va_E)]).set 0 (a, Sum.inr (ci, fs.set k (Value.ref q))))) : RW G K R A F cs sl pc ls (.int n :: .ref a :: st) ws := by
  intro H locs hP hD hS
  obtain ⟨x1, x2, x3, x4, x5, x6, x7, x8⟩ := X
  obtain ⟨C', T, NN, tf, f1, f2, f3, f4, f5, f6, f7, f8, f9⟩ := f
  refine va_newq x1 x2 x4 (x5 _ hcl) ho x6 hP hD hS x7 hn hN hb hc hs d0 (fun q cA H1 hK hP hD hS => ?_)
  have e1 := (hK.2 (tysOf (gy G)).length (cA, .object C) (by rw [List.getElem?_append_right (Nat.le_refl _), Nat.sub_self]; rfl)).2
  have e2 := (x6.2 j (gy G kd, .object C) hj).2
  have e : cA = gy G kd := va_RA_inj e1 e2
  subst e
  have h0' : (ws ++ [((q, Sum.inl (gy G kd, N, .inr (.inr (.inr (.inr (fun _ => none)))))) : Nat × va_E)])[0]? = some (a, .inr (ci, fs)) := by
    rw [List.getElem?_append_left (List.getElem?_eq_some_iff.mp h0).1]; exact h0
  exact va_putF (ci := ci) x1 x2 x5 f3 tf f5 f6 x4 x6 hP hD hS 0 h0' f1 k f2 (x5 _ f4) (fun _ h => h) f7 x8 f8 f9 rfl rfl hk d1 (fun H2 locs2 hP hD hS => kk q H2 locs2 hP hD hS)
/-- the same contract with a word more -/
def Pne (G : Gx) (a ci sz : Nat) (fs as : List Value) (E : State → Prop) : Array Value → State → Prop := va_Pc (.ref a :: as) (fun U => U.heap.size = sz ∧ va_P (gD G) vwCl [(a, .inr (ci, fs))] U.heap ∧ va_K (gD G) vwCl (tysOf (gy G)) U ∧ (∀ w ∈ nw, va_Nw w U) ∧ E U)
theorem n_ofe (hp : plainName md.1.cls = true) (hi : md.1.name = "<init>") (hr : md.2.2.2 = none) (hlen : (lg_sl (.ref a :: as)).length ≤ md.2.2.1)
    (h : ∀ (K : Kx) (ls : Array Slot), RX G K md (Aa a sz) → (kt K).sig.returnType = none → (kt K).locks = false → (∀ w ∈ nw, va_Nw w (ks K)) → E (ks K) → lv_has ls md.2.2.1 (lv_args 0 (.ref a :: as)) → RW G K R (Aa a sz) (Fn G K a sz mc ms S) 0 0 0 ls [] [(a, .inr (ci, fs))]) : Met (gl G) md.1 (.code md.1 md.2.1 md.2.2.1 md.2.2.2 :: gw) R (Pne G a ci sz fs as E) (Qn G a sz S) mc ms (Aa a sz) := by
  refine Met.ofW (cc := md.2.1) (maxL := md.2.2.1) (ret := md.2.2.2) hp rfl ?_
  intro p e s m args below meth c s₁ B hml hv
  obtain ⟨rfl, hsz, hP, hK, hN, hE⟩ := hv
  have hts := atoms_spec (ws := .code md.1 md.2.1 md.2.2.1 md.2.2.2 :: gw) B.pre
  have hown : s.vm.findClass md.1.cls = some m.cls := findClass_of_methodNamed B.named
  have hin : meth.name = "<init>" := (name_of_methodNamed B.named B.method).1.trans hi
  have hl := lv_entry (.ref a :: as) (n := md.2.2.1) hlen
  rw [lg_entry_eq]
  have hA : ∀ q, s.heap.size ≤ q → Aa a sz q := fun q hq => Or.inr (by rw [← hsz]; exact hq)
  refine h (p, e, s, m, (.ref a :: as).toArray, below, meth, c) _ ⟨B.exec, B.bytes, hml, hown, fun w hw => hts w (List.mem_cons_of_mem _ hw), hK, hA, hin⟩ (B.returns.trans hr) B.notSynchronized hN hE hl s.heap [] hP ?_ va_S.rf
  refine ⟨fun i j p q hi hj _ => ?_, fun k q hk => ?_⟩
  · have h1 := (List.getElem?_eq_some_iff.mp hi).1
    have h2 := (List.getElem?_eq_some_iff.mp hj).1
    simp at h1 h2
    omega
  · have h1 := (List.getElem?_eq_some_iff.mp hk).1
    simp at h1
    subst h1
    cases hk
    exact Or.inl rfl
end RNQ
