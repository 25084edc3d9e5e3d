/-! ===== the two programs' objects by ids; their fields' kinds; memory as numbers ===== -/
/-- a field (or an array's element): object, field, place -/
abbrev Mem : Type := Nat → Nat → Nat → Int
/-- an int, a long, a reference (null, or a cell: (object, 99) the object itself, (object, k) the array in its field k) -/
abbrev V : Type := Int ⊕ Int ⊕ Option (Nat × Nat)
abbrev vI (x : Int) : V := .inl x
abbrev vL (x : Int) : V := .inr (.inl x)
abbrev vR (c : Option (Nat × Nat)) : V := .inr (.inr c)
abbrev vA (o k : Nat) : V := .inr (.inr (some (o, k)))
abbrev vO (o : Nat) : V := .inr (.inr (some (o, 99)))
abbrev Gx : Type := Launch × va_G × (Nat → ClassId) × (Nat × Nat → Nat) × List Nat
abbrev gl (G : Gx) : Launch := G.1
abbrev gD (G : Gx) : va_G := G.2.1
abbrev gy (G : Gx) : Nat → ClassId := G.2.2.1
abbrev gp (G : Gx) : Nat × Nat → Nat := G.2.2.2.1
abbrev gL (G : Gx) : List Nat := G.2.2.2.2
/-- the cells of the live objects -/
def cellsOf (o : Nat) : List (Nat × Nat) := (o, 99) :: ((List.range (nf (oc o))).filter (fun k => isA (fK (oc o) k))).map (fun k => (o, k))
def LC (L : List Nat) : List (Nat × Nat) := L.flatMap cellsOf
def cv (π : Nat × Nat → Nat) : V → Value
  | .inl x => .int (Int32.ofInt x)
  | .inr (.inl x) => .long (Int64.ofInt x)
  | .inr (.inr none) => .null
  | .inr (.inr (some c)) => .ref (π c)
/-- an object's field as the machine has it -/
def fv (π : Nat × Nat → Nat) (M : Mem) (o k : Nat) : Value :=
  if fK (oc o) k = 0 then .int (Int32.ofInt (M o k 0)) else if fK (oc o) k = 7 then .ref (π (lk o k, 99)) else if fK (oc o) k = 8 then (if M o k 0 = 0 then .null else .ref (π (lk o k, 99))) else .ref (π (o, k))
def fl (π : Nat × Nat → Nat) (M : Mem) (o : Nat) : List Value := (List.range (nf (oc o))).map (fv π M o)
/-- an array's contents as the machine has them -/
def av (π : Nat × Nat → Nat) (M : Mem) (o k : Nat) : (Nat → Int32) ⊕ (Nat → Int64) ⊕ (Nat → UInt32) ⊕ (Nat → UInt64) ⊕ (Nat → Option Nat) :=
  if fK (oc o) k = 4 then .inr (.inl (fun i => Int64.ofInt (M o k i))) else if 5 ≤ fK (oc o) k then .inr (.inr (.inr (.inr (fun i => if M o k i = 0 then none else some (π (el k i, 99)))))) else .inl (fun i => Int32.ofInt (M o k i))
def ce (G : Gx) (M : Mem) (c : Nat × Nat) : va_E :=
  if c.2 = 99 then .inr (oc c.1, fl (gp G) M c.1) else .inl (gy G (fK (oc c.1) c.2), aL (oc c.1) c.2, av (gp G) M c.1 c.2)
def wsOf (G : Gx) (M : Mem) : va_W := (LC (gL G)).map (fun c => (gp G c, ce G M c))
def Pic (G : Gx) (M : Mem) (H : Heap) : Prop := va_P (gD G) vwCl (wsOf G M) H
/-- the addresses of the world -/
def gA (G : Gx) : Nat → Prop := fun q => ∃ c ∈ LC (gL G), q = gp G c
def tysOf (y : Nat → ClassId) : List (ClassId × FieldType) := [(y 1, .int), (y 2, .byte), (y 3, .boolean), (y 4, .long), (y 5, .object RX6), (y 6, .object RX8)]
def KU (G : Gx) (U : State) : Prop := va_K (gD G) vwCl (tysOf (gy G)) U ∧ (∀ w ∈ nw, va_Nw w U) ∧ (∀ q ∈ strR, vk_R q.1 q.2.1 (strT.getD q.2.2 "") (gp G (1000 + q.2.2, 99)) U) ∧ vk_S 19 strL strB (fun i => gp G (1000 + i, 99)) (fun i => gp G (1000 + i, 98)) (gA G) U U.heap ∧ va_Z "java/lang/String" "COMPACT_STRINGS" "Z" (.int 1) (gA G) U U.heap ∧ (va_Z "jdk/internal/util/Preconditions" "SIOOBE_FORMATTER" "Ljava/util/function/BiFunction;" .null (gA G) U U.heap ∨ va_Z "jdk/internal/util/Preconditions" "SIOOBE_FORMATTER" "Ljava/util/function/BiFunction;" (.ref (gp G (1999, 99))) (gA G) U U.heap)
/-- the live objects' cells lie apart; what a live object holds for good is live -/
def GOK (G : Gx) : Prop := va_D (gA G) (wsOf G (fun _ _ _ => 0)) ∧ ∀ o ∈ gL G, ∀ k, fK (oc o) k = 7 → lk o k ∈ gL G
/-- numbers are in range; references are to live objects -/
def okC (G : Gx) (M : Mem) (o k i : Nat) : Prop :=
  if fK (oc o) k = 4 then inL (M o k i) else if fK (oc o) k = 2 then -128 ≤ M o k i ∧ M o k i ≤ 127 else if fK (oc o) k = 3 then 0 ≤ M o k i ∧ M o k i ≤ 1 else if fK (oc o) k = 5 ∨ fK (oc o) k = 6 then (M o k i ≠ 0 → o ∈ gL G → i < aL (oc o) k → el k i ∈ gL G) else if fK (oc o) k = 8 then (M o k i ≠ 0 → o ∈ gL G → lk o k ∈ gL G) else inI (M o k i)
def okM (G : Gx) (M : Mem) : Prop := ∀ o k i, okC G M o k i
def okV (G : Gx) : V → Prop
  | .inl x => inI x
  | .inr (.inl x) => inL x
  | .inr (.inr none) => True
  | .inr (.inr (some c)) => c ∈ LC (gL G) ∨ 1000 ≤ c.1
def okS (G : Gx) (st : List V) : Prop := ∀ v ∈ st, okV G v
def okL (G : Gx) (lo : List (Option V)) : Prop := ∀ v, some v ∈ lo → okV G v
def vcat : V → Nat
  | .inr (.inl _) => 2
  | _ => 1
def HL (π : Nat × Nat → Nat) (nL : Nat) (ls : Array Slot) (lo : List (Option V)) : Prop := ls.size = nL ∧ lv_wf ls ∧ ∀ (i : Nat) (v : V), lo[i]? = some (some v) → ls[i]? = some (Slot.val (cv π v))
/-- a store into a local of one slot, of two -/
def clr1 (lo : List (Option V)) (i : Nat) : List (Option V) := match lo[i]? with
  | some (some (.inr (.inl _))) => lo.set i none
  | _ => lo
def clr (lo : List (Option V)) : Nat → List (Option V)
  | 0 => lo
  | i + 1 => clr1 lo i
def st1 (lo : List (Option V)) (i : Nat) (v : V) : List (Option V) := (clr lo i).set i (some v)
def st2 (lo : List (Option V)) (i : Nat) (v : V) : List (Option V) := ((clr lo i).set i (some v)).set (i + 1) none
def mset (M : Mem) (o k i : Nat) (x : Int) : Mem := fun o' k' i' => if o' = o ∧ k' = k ∧ i' = i then x else M o' k' i'
abbrev Kx : Type := Program × Env × State × MethodId × Array Value × List Frame × Method × Code
abbrev kp (K : Kx) : Program := K.1
abbrev ke (K : Kx) : Env := K.2.1
abbrev ks (K : Kx) : State := K.2.2.1
abbrev km (K : Kx) : MethodId := K.2.2.2.1
abbrev ka (K : Kx) : Array Value := K.2.2.2.2.1
abbrev kb (K : Kx) : List Frame := K.2.2.2.2.2.1
abbrev kt (K : Kx) : Method := K.2.2.2.2.2.2.1
abbrev kc (K : Kx) : Code := K.2.2.2.2.2.2.2
def rm (n : Nat) : Room := { frames := n, cells := 0, slots := 0, locals := 120 * n }
def Cx (G : Gx) (K : Kx) (md : MD) : Prop :=
  (kp K).tables.exec = Jvm.exec ∧ (kc K).code = md.2.1 ∧ (kc K).maxLocals = md.2.2.1 ∧ (ks K).vm.findClass md.1.cls = some (km K).cls ∧ (∀ w ∈ gw, w.before (ka K) (ks K) = true) ∧ (kt K).sig.returnType = md.2.2.2 ∧ (kt K).locks = false ∧ KU G (ks K) ∧ GOK G
/-- a method's end -/
def Qm (G : Gx) (Q : Option V → Mem → Prop) : Array Value → State → Outcome → State → Prop := fun _ st oc t =>
  (∃ (r : Option V) (M : Mem), oc = .returned (r.map (cv (gp G))) ∧ Q r M ∧ okM G M ∧ (∀ v, r = some v → okV G v) ∧ Pic G M t.heap ∧ KU G t) ∧ va_F (gA G) st t
/-- from here (pc, locals, operands, memory) the method comes to its end with Q -/
def CW (G : Gx) (K : Kx) (md : MD) (n pc : Nat) (lo : List (Option V)) (st : List V) (M : Mem) (Q : Option V → Mem → Prop) : Prop :=
  Cx G K md → okM G M → okS G st → okL G lo → ∀ (H : Heap) (locs : List Loc) (ls : Array Slot), Pic G M H → va_S (gA G) (ks K).heap H locs → HL (gp G) md.2.2.1 ls lo →
    W (kp K) (gl G) (ke K) (rm n) (ks K) (km K) (ka K) (kb K) (kt K) (kc K) H locs 0 0 (MQ (kb K) (Qm G Q) (ka K) (ks K) 0 0 (gA G)) (F0 (km K) pc ls (st.map (cv (gp G))))
/-- the method, called with these arguments in this memory, returns with Q -/
def Ok (G : Gx) (n : Nat) (md : MD) (as : List V) (M : Mem) (Q : Option V → Mem → Prop) : Prop :=
  okM G M → okS G as → GOK G → Met (gl G) md.1 (.code md.1 md.2.1 md.2.2.1 md.2.2.2 :: gw) (rm n) (va_Pc (as.map (cv (gp G))) (fun U => Pic G M U.heap ∧ KU G U)) (Qm G Q) 0 0 (gA G)
def qI (Q : Int → Mem → Prop) : Option V → Mem → Prop := fun r M => ∃ x, r = some (vI x) ∧ Q x M
def qJ (Q : Int → Mem → Prop) : Option V → Mem → Prop := fun r M => ∃ x, r = some (vL x) ∧ Q x M
def qR (Q : Option (Nat × Nat) → Mem → Prop) : Option V → Mem → Prop := fun r M => ∃ x, r = some (vR x) ∧ Q x M
def qV (Q : Mem → Prop) : Option V → Mem → Prop := fun r M => r = none ∧ Q M
abbrev OkI (G : Gx) (n : Nat) (md : MD) (as : List V) (M : Mem) (Q : Int → Mem → Prop) : Prop := Ok G n md as M (qI Q)
abbrev OkJ (G : Gx) (n : Nat) (md : MD) (as : List V) (M : Mem) (Q : Int → Mem → Prop) : Prop := Ok G n md as M (qJ Q)
abbrev OkR (G : Gx) (n : Nat) (md : MD) (as : List V) (M : Mem) (Q : Option (Nat × Nat) → Mem → Prop) : Prop := Ok G n md as M (qR Q)
abbrev OkV (G : Gx) (n : Nat) (md : MD) (as : List V) (M : Mem) (Q : Mem → Prop) : Prop := Ok G n md as M (qV Q)
/-! the world's list -/
theorem ws_mem {G : Gx} {M : Mem} {c : Nat × Nat} (h : c ∈ LC (gL G)) : ∃ q : Nat, (LC (gL G))[q]? = some c ∧ (wsOf G M)[q]? = some (gp G c, ce G M c) := by
  obtain ⟨q, hq⟩ := List.getElem?_of_mem h
  exact ⟨q, hq, by unfold wsOf; rw [List.getElem?_map, hq]; rfl⟩
theorem ws_D {G : Gx} {A : Nat → Prop} {M M' : Mem} (h : va_D A (wsOf G M)) : va_D A (wsOf G M') := by
  have key : ∀ (M1 M2 : Mem) (i : Nat) (p : Nat × va_E), (wsOf G M1)[i]? = some p → ∃ p', (wsOf G M2)[i]? = some p' ∧ p'.1 = p.1 := by
    intro M1 M2 i p hp
    unfold wsOf at hp ⊢
    rw [List.getElem?_map] at hp ⊢
    cases hc : (LC (gL G))[i]? with
    | none => rw [hc] at hp; cases hp
    | some c => rw [hc] at hp; cases hp; exact ⟨_, rfl, rfl⟩
  refine ⟨fun i j p q hi hj e => ?_, fun k q hk => ?_⟩
  · obtain ⟨p', h1, h2⟩ := key M' M i p hi
    obtain ⟨q', h3, h4⟩ := key M' M j q hj
    exact h.1 i j p' q' h1 h3 (by rw [h2, h4]; exact e)
  · obtain ⟨q', h3, h4⟩ := key M' M k q hk
    rw [← h4]; exact h.2 k q' h3
/-- one cell's change -/
theorem ws_set {G : Gx} {A : Nat → Prop} {M M' : Mem} {c : Nat × Nat} {q : Nat} (hD : va_D A (wsOf G M)) (hq : (LC (gL G))[q]? = some c) (ho : ∀ c' ∈ LC (gL G), c' ≠ c → ce G M' c' = ce G M c') : (wsOf G M).set q (gp G c, ce G M' c) = wsOf G M' := by
  apply List.ext_getElem?
  intro i
  by_cases hi : i = q
  · subst hi
    have hl : i < (wsOf G M).length := by unfold wsOf; rw [List.length_map]; exact (List.getElem?_eq_some_iff.mp hq).1
    rw [List.getElem?_set_self hl]
    unfold wsOf; rw [List.getElem?_map, hq]; rfl
  · rw [List.getElem?_set_ne (Ne.symm hi)]
    unfold wsOf
    rw [List.getElem?_map, List.getElem?_map]
    cases hc : (LC (gL G))[i]? with
    | none => rfl
    | some c' =>
      have hne : c' ≠ c := by
        intro e
        subst e
        exact hi (hD.1 i q (gp G c', ce G M c') (gp G c', ce G M c') (by unfold wsOf; rw [List.getElem?_map, hc]; rfl) (by unfold wsOf; rw [List.getElem?_map, hq]; rfl) rfl)
      show some (gp G c', ce G M c') = some (gp G c', ce G M' c')
      rw [ho c' (List.mem_of_getElem? hc) hne]
theorem lc_obj {L : List Nat} {o : Nat} (h : o ∈ L) : (o, 99) ∈ LC L := List.mem_flatMap.mpr ⟨o, h, List.mem_cons_self⟩
theorem lc_arr {L : List Nat} {o k : Nat} (h : o ∈ L) (hk : k < nf (oc o)) (ha : isA (fK (oc o) k) = true) : (o, k) ∈ LC L :=
  List.mem_flatMap.mpr ⟨o, h, List.mem_cons_of_mem _ (List.mem_map.mpr ⟨k, List.mem_filter.mpr ⟨List.mem_range.mpr hk, ha⟩, rfl⟩)⟩
theorem lc_live {L : List Nat} {c : Nat × Nat} (h : c ∈ LC L) : c.1 ∈ L := by
  obtain ⟨o, ho, hc⟩ := List.mem_flatMap.mp h
  rcases List.mem_cons.mp hc with rfl | hc
  · exact ho
  · obtain ⟨k, -, rfl⟩ := List.mem_map.mp hc
    exact ho
theorem lc_kind {L : List Nat} {c : Nat × Nat} (h : c ∈ LC L) (hn : c.2 ≠ 99) : c.2 < nf (oc c.1) ∧ isA (fK (oc c.1) c.2) = true := by
  obtain ⟨o, ho, hc⟩ := List.mem_flatMap.mp h
  rcases List.mem_cons.mp hc with rfl | hc
  · exact absurd rfl hn
  · obtain ⟨k, hk, rfl⟩ := List.mem_map.mp hc
    obtain ⟨h1, h2⟩ := List.mem_filter.mp hk
    exact ⟨List.mem_range.mp h1, h2⟩
theorem nf_99 (c : Nat) : nf c < 99 := by
  by_cases h : c < 13
  · have : ∀ c, c < 13 → nf c < 99 := by decide
    exact this c h
  · unfold nf
    have : fKL.length = 13 := rfl
    rw [List.getD_eq_getElem?_getD, List.getElem?_eq_none (by omega)]
    decide
theorem mset_self (M : Mem) (o k i : Nat) (x : Int) : mset M o k i x o k i = x := by simp [mset]
theorem mset_ne {M : Mem} {o k i o' k' i' : Nat} {x : Int} (h : ¬ (o' = o ∧ k' = k ∧ i' = i)) : mset M o k i x o' k' i' = M o' k' i' := by simp [mset, h]
