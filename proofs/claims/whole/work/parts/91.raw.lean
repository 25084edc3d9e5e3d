/-! ===== the raw walk of a constructor: the world as a list ===== -/
section RAW
variable {G : Gx} {K : Kx} {md : MD} {R : Room} {A : Nat → Prop} {F : State → Prop} {cs sl pc : Nat} {ls : Array Slot} {st : List Value} {ws : va_W}
def RX (G : Gx) (K : Kx) (md : MD) (A : Nat → Prop) : Prop := (kp K).tables.exec = Jvm.exec ∧ (kc K).code = md.2.1 ∧ (kc K).maxLocals = md.2.2.1 ∧ (ks K).vm.findClass md.1.cls = some (km K).cls ∧ (∀ w ∈ gw, w.before (ka K) (ks K) = true) ∧ va_K (gD G) vwCl (tysOf (gy G)) (ks K) ∧ (∀ q, (ks K).heap.size ≤ q → A q) ∧ (kt K).name = "<init>"
def RW (G : Gx) (K : Kx) (R : Room) (A : Nat → Prop) (F : State → Prop) (cs sl pc : Nat) (ls : Array Slot) (st : List Value) (ws : va_W) : Prop := ∀ (H : Heap) (locs : List Loc), va_P (gD G) vwCl ws H → va_D A ws → va_S A (ks K).heap H locs → W (kp K) (gl G) (ke K) R (ks K) (km K) (ka K) (kb K) (kt K) (kc K) H locs cs sl F (F0 (km K) pc ls st)
theorem va_RA_inj {U : State} {c1 c2 : ClassId} {ty : FieldType} (h1 : va_RA U c1 ty) (h2 : va_RA U c2 ty) : c1 = c2 := by
  cases ty <;> first
    | exact Option.some.inj (h1.symm.trans h2)
    | (obtain ⟨_, _, _, _, _, e1⟩ := h1; obtain ⟨_, _, _, _, _, e2⟩ := h2; exact Option.some.inj (e1.symm.trans e2))
theorem rw_arr {ty : FieldType} {ci k N idx a kd j : Nat} {n : Int32} {fs : List Value} {a0 : vp_A} {atype : ArrayType} (X : RX G K md A) (d0 : decode md.2.1 pc = .ok (.newarray atype, 2)) (d1 : decode md.2.1 (pc + 2) = .ok (.putfield idx, 3)) (f : Ff md.1.cls idx ci k (.array ty)) (hty : newarray.typeOf atype = ty) (hw : Cond.arrayClass ty ∈ gw) (hj : (tysOf (gy G))[j]? = some (gy G kd, ty)) (ha : ∀ cA : ClassId, vp_cell cA a0 = arrV cA N (fun _ => defaultValue ty)) (hn : ¬ n < 0) (hN : n.toNatClampNeg = N) (hb : N * componentBytes ty ≤ 536870912) (hc : cs + 1 ≤ R.cells) (hs : sl + N ≤ R.slots) (h0 : ws[0]? = some (a, .inr (ci, fs))) (hk : k < fs.length)
    (kk : ∀ q : Nat, RW G K R A F (cs + 1) (sl + N) (pc + 5) ls st ((ws ++ [((q, Sum.inl (gy G kd, a0)) : Nat × va_E)]).set 0 (a, Sum.inr (ci, fs.set k (Value.ref q))))) : RW G K R A F cs sl pc ls (.int n :: .ref a :: st) ws := by
  intro H locs hP hD hS
  obtain ⟨x1, x2, x3, x4, x5, x6, x7, x8⟩ := X
  obtain ⟨C, T, NN, tf, f1, f2, f3, f4, f5, f6, f7, f8, f9⟩ := f
  refine va_newa x1 x2 (by rw [hty]; exact x5 _ hw) hty x6 hP hD hS x7 ha hn hN hb hc hs d0 (fun q cA H1 hK hP hD hS => ?_)
  have e1 := (hK.2 (tysOf (gy G)).length (cA, ty) (by rw [List.getElem?_append_right (Nat.le_refl _), Nat.sub_self]; rfl)).2
  have e2 := (x6.2 j (gy G kd, ty) hj).2
  have e : cA = gy G kd := va_RA_inj e1 e2
  subst e
  have h0' : (ws ++ [((q, Sum.inl (gy G kd, a0)) : Nat × va_E)])[0]? = some (a, .inr (ci, fs)) := by
    rw [List.getElem?_append_left (List.getElem?_eq_some_iff.mp h0).1]; exact h0
  exact va_putF (ci := ci) x1 x2 x5 f3 tf f5 f6 x4 x6 hP hD hS 0 h0' f1 k f2 (x5 _ f4) (fun _ h => h) f7 x8 f8 f9 rfl rfl hk d1 (fun H2 locs2 hP hD hS => kk q H2 locs2 hP hD hS)
end RAW
