/-! ===== objects come to the world ===== -/
section GRO
variable {G : Gx} {K : Kx} {md : MD} {R : Room} {A : Nat → Prop} {cs sl mc ms pc : Nat} {lo : List (Option V)} {st : List V} {M : Mem} {F : State → Prop}
/-- the set of cells that may be written: the world's and the new ones -/
def AZ (G : Gx) (K : Kx) (A : Nat → Prop) : Prop := (∀ q, gA G q → A q) ∧ (∀ q, (ks K).heap.size ≤ q → A q) ∧ (∀ q, q < (ks K).heap.size → A q → gA G q)
def MN (M : Mem) (L : List Nat) : Mem := fun o k i => if o ∈ L then 0 else M o k i
theorem MN_in {L : List Nat} {o k i : Nat} (h : o ∈ L) : MN M L o k i = 0 := if_pos h
theorem MN_out {L : List Nat} {o k i : Nat} (h : o ∉ L) : MN M L o k i = M o k i := if_neg h
theorem okC_new {π : Nat × Nat → Nat} {L1 : List Nat} (hM : okM G M) : ∀ o, o ∉ gL G → ∀ k i, okC (gx G π (gL G ++ L1)) (MN M L1) o k i := by
  intro o ho k i
  by_cases e : o ∈ L1
  · have z : MN M L1 o k i = 0 := MN_in e
    unfold okC inI inL
    rw [z]
    repeat' split
    all_goals first | exact ⟨by decide, by decide⟩ | exact fun a => absurd rfl a
  · have z : MN M L1 o k i = M o k i := MN_out e
    have no : o ∉ gL G ++ L1 := fun b => by
      rcases List.mem_append.mp b with y | y
      · exact ho y
      · exact e y
    have h := hM o k i
    unfold okC at h ⊢
    rw [z]
    split
    · rename_i w; rw [if_pos w] at h; exact h
    rename_i w; rw [if_neg w] at h
    split
    · rename_i w; rw [if_pos w] at h; exact h
    rename_i w; rw [if_neg w] at h
    split
    · rename_i w; rw [if_pos w] at h; exact h
    rename_i w; rw [if_neg w] at h
    split
    · exact fun _ b => absurd b no
    rename_i w; rw [if_neg w] at h
    split
    · exact fun _ b => absurd b no
    rename_i w; rw [if_neg w] at h
    exact h
theorem NoR_new {π : Nat × Nat → Nat} {L1 : List Nat} (hn : ∀ o ∈ L1, o ∉ gL G) (h : NoR G M) : NoR (gx G π (gL G ++ L1)) (MN M L1) := by
  intro o ho k i hk hz
  by_cases e : o ∈ L1
  · exact absurd (MN_in e) hz
  · rw [MN_out e] at hz
    rcases List.mem_append.mp ho with y | y
    · exact List.mem_append_left _ (h o y k i hk hz)
    · exact absurd y e
theorem P_ix {D : va_G} {cl : List vw_C} {ws ws' : va_W} {H : Heap} {is : List Nat} (h : va_P D cl ws H) (e : is.map (fun i => ws[i]?) = ws'.map some) : va_P D cl ws' H := by
  intro k q hk
  have hm : some q ∈ ws'.map some := List.mem_map.mpr ⟨q, List.mem_of_getElem? hk, rfl⟩
  rw [← e] at hm
  obtain ⟨i, -, hi⟩ := List.mem_map.mp hm
  exact h i q hi
theorem grow_core {e0 : va_E} {q o1 : Nat} {H1 : Heap} {locs : List Loc} {ls : Array Slot} {st0 : List Value} {a : Array Value} {S' : va_W → Prop} {L1 : List Nat}
    (hr : va_Run (kp K) (gl G) (ke K) R (ks K) (km K) (ka K) (kb K) (kt K) (kc K) H1 locs cs sl mc ms (F0 (km K) pc ls st0) (.ref q :: st.map (cv (gp G))) (Qn G q H1.size S' a) (Aa q H1.size))
    (C : Cx G K md) (hM : okM G M) (hst : okS G st) (hl : okL G lo) (hL : HL (gp G) md.2.2.1 ls lo) (hA : AZ G K A) (hE : NoR G M)
    (hP1 : va_P (gD G) vwCl (wsOf G M ++ [((q, e0) : Nat × va_E)]) H1) (hD1 : va_D A (wsOf G M ++ [((q, e0) : Nat × va_E)])) (hS1 : va_S A (ks K).heap H1 locs)
    (hn : ∀ o ∈ L1, o ∉ gL G) (hb : ∀ o ∈ L1, o < 1000) (ho : o1 ∈ L1) (h7 : ∀ o ∈ L1, ∀ k, fK (oc o) k = 7 → lk o k ∈ gL G ++ L1)
    (hs : ∀ ws', S' ws' → ∃ (π : Nat × Nat → Nat) (is : List Nat), (∀ c, c ∉ LC L1 → π c = gp G c) ∧ π (o1, 99) = q ∧ va_nd is = true ∧ is.map (fun i => ws'[i]?) = ((LC L1).map (fun c => ((π c, ce (gx G π (gL G ++ L1)) (MN M L1) c) : Nat × va_E))).map some)
    (kk : ∀ π : Nat × Nat → Nat, (∀ c, c ∉ LC L1 → π c = gp G c) → AZ (gx G π (gL G ++ L1)) K A → CX (gx G π (gL G ++ L1)) K md (R, A, cs + mc, sl + ms) (pc + 3) lo (vO o1 :: st) (MN M L1) F) :
    W (kp K) (gl G) (ke K) R (ks K) (km K) (ka K) (kb K) (kt K) (kc K) H1 locs cs sl F (F0 (km K) pc ls st0) := by
  have hG := C.2.2.2.2.2.2.2.2
  have hlast : (wsOf G M ++ [((q, e0) : Nat × va_E)])[(wsOf G M).length]? = some (q, e0) := by rw [List.getElem?_append_right (Nat.le_refl _), Nat.sub_self]; rfl
  have hlt1 : ∀ (k : Nat) (x : Nat × va_E), (wsOf G M)[k]? = some x → x.1 < H1.size := fun k x hx => (hP1 k x (by rw [List.getElem?_append_left (List.getElem?_eq_some_iff.mp hx).1]; exact hx)).lt
  have hqn : ∀ (k : Nat) (x : Nat × va_E), (wsOf G M)[k]? = some x → x.1 ≠ q := by
    intro k x hx e
    have hlt' := (List.getElem?_eq_some_iff.mp hx).1
    have := hD1.1 k (wsOf G M).length x _ (by rw [List.getElem?_append_left hlt']; exact hx) hlast e
    omega
  intro T0 hT X0
  obtain ⟨v, st₀, t, T', L, h0, X', hLo, e1, e2, ⟨⟨hv, ws', hS', hP', hD'⟩, hz, hk⟩, stp⟩ := hr T0 hT X0
  cases hv
  rw [h0] at hz hk
  obtain ⟨π, is, hoff, hq, hnd, hix⟩ := hs ws' hS'
  have hAq : A q := hD1.2 _ _ hlast
  have hAll : ∀ x, Aa q H1.size x → A x := fun x hx => by
    rcases hx with z | z
    · rw [z]; exact hAq
    · exact hA.2.1 x (Nat.le_trans hS1.1 z)
  have hPo : va_P (gD G) vwCl (wsOf G M) t.heap := by
    have hPw : va_P (gD G) vwCl (wsOf G M) H1 := fun k x hx => hP1 k x (by rw [List.getElem?_append_left (List.getElem?_eq_some_iff.mp hx).1]; exact hx)
    refine hPw.kept (fun k x hx => hk x.1 (hlt1 k x hx) (fun z => ?_))
    rcases z with z | z
    · exact hqn k x hx z
    · have := hlt1 k x hx; omega
  have nin : ∀ c ∈ LC (gL G), c ∉ LC L1 := fun c hc e => hn _ (lc_live e) (lc_live hc)
  have hπ : ∀ c ∈ LC (gL G), π c = gp G c := fun c hc => hoff c (nin c hc)
  have hπ' : ∀ c : Nat × Nat, 1000 ≤ c.1 → π c = gp G c := fun c hc => hoff c (fun e => by have := hb _ (lc_live e); omega)
  have hM' : ∀ o ∈ gL G, ∀ k i, MN M L1 o k i = M o k i := fun o ho k i => MN_out (fun e => hn o e ho)
  have hPN := P_ix hP' hix
  have hDN := hD'.sub is hnd hix
  have hPic : Pic (gx G π (gL G ++ L1)) (MN M L1) t.heap := Pic_ext hPo hG hM hE hπ hM' hPN
  have hws : wsOf (gx G π (gL G ++ L1)) (MN M L1) = wsOf G M ++ (LC L1).map (fun c => ((π c, ce (gx G π (gL G ++ L1)) (MN M L1) c) : Nat × va_E)) := by
    unfold wsOf
    rw [show gL (gx G π (gL G ++ L1)) = gL G ++ L1 from rfl, LC_app, List.map_append]
    congr 1
    apply List.map_congr_left
    intro c hc
    rw [ce_ext hG hM hE hπ hM' hc]
    show (π c, _) = _
    rw [hπ c hc]
  have hDn : va_D A (wsOf (gx G π (gL G ++ L1)) (MN M L1)) := by
    rw [hws]
    exact D_join hD1 hlt1 (fun x hx => hAll x (Or.inr hx)) hDN
  have hGn : GOK (gx G π (gL G ++ L1)) := GOK_mk hDn (fun o ho k h7' => by
    rcases List.mem_append.mp ho with z | z
    · exact List.mem_append_left _ (hG.2 o z k h7')
    · exact h7 o z k h7')
  have hAZ : AZ (gx G π (gL G ++ L1)) K A := by
    refine ⟨fun x hx => ?_, hA.2.1, fun x hx ha => ?_⟩
    · obtain ⟨c, hc, e⟩ := hx
      obtain ⟨i, hi, hw⟩ := ws_mem (G := gx G π (gL G ++ L1)) (M := MN M L1) hc
      rw [e]
      exact hDn.2 _ _ hw
    · obtain ⟨c, hc, e⟩ := hA.2.2 x hx ha
      exact ⟨c, by show c ∈ LC (gL G ++ L1); rw [LC_app]; exact List.mem_append_left _ hc, by rw [e]; exact (hπ c hc).symm⟩
  have hCn : Cx (gx G π (gL G ++ L1)) K md := Cx_ext C hπ' (fun x hx hg => hA.2.2 x hx (hAZ.1 x hg)) hGn
  have hSn : va_S A (ks K).heap T'.heap (locs ++ L) := ⟨Nat.le_trans hS1.1 (by rw [e1]; exact hz), fun x h1 h2 => by
      rw [e1, hk x (Nat.lt_of_lt_of_le h1 hS1.1) (fun z => h2 (hAll x z))]; exact hS1.2.1 x h1 h2, fun x hx => by
      rcases List.mem_append.mp hx with h | h
      · exact hS1.2.2 x h
      · exact hAll _ (hLo x h)⟩
  have kq := kk π hoff hAZ hCn (okM_ext hM hM' (okC_new hM)) (fun v hv => by
    rcases List.mem_cons.mp hv with z | z
    · rw [z]
      exact Or.inl (lc_obj (List.mem_append_right _ ho))
    · exact okV_ext (hst v z)) (fun v hv => okV_ext (hl v hv)) T'.heap (locs ++ L) ls (by rw [e1]; exact hPic) hSn (HL_ext hL hl hπ hπ')
  have est : (vO o1 :: st).map (cv π) = .ref q :: st.map (cv (gp G)) := by
    rw [List.map_cons]
    show Value.ref (π (o1, 99)) :: _ = _
    rw [hq]
    congr 1
    exact List.map_congr_left (fun v hv => cv_ext (hst v hv) hπ hπ')
  have kq' := kq
  rw [show gp (gx G π (gL G ++ L1)) = π from rfl, est] at kq'
  obtain ⟨t2, a1, b1⟩ := kq' T' rfl X'
  exact ⟨t2, stp t2 a1, b1⟩
end GRO
