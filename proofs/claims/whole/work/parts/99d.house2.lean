section HM2
variable {G : Gx} {K : Kx} {M : Mem} {F : State → Prop} {R : Room} {sz : Nat}
theorem wH_cl : Cond.classLink RX11 91 RX2 ∈ gw := gt2 (i := 172) (by decide +kernel) rfl
theorem wH_in : Cond.instantiable RX2 3 ∈ gw := gt2 (i := 173) (by decide +kernel) rfl
theorem wH_ini : Cond.initialized RX2 ∈ gw := gt1 (i := 10) (by decide +kernel) rfl
theorem wH_ml : Cond.methodLink RX11 93 yX2_init ∈ gw := gt2 (i := 174) (by decide +kernel) rfl
theorem wH_im : Cond.instanceMethod yX2_init ∈ gw := gt2 (i := 175) (by decide +kernel) rfl
theorem wH_co : Cond.code yX2_init cX2_init 3 none ∈ gw := gt2 (i := 176) (by decide +kernel) rfl
abbrev πH (G : Gx) (q : Nat) : Nat × Nat → Nat := fun c => if c = (14, 99) then q else gp G c
abbrev GH (G : Gx) (q : Nat) : Gx := gx G (πH G q) (gL G ++ [14])
abbrev MH (M : Mem) : Mem := fun o k i => if o = 14 then 0 else M o k i
theorem okC_14 {π : Nat × Nat → Nat} (hM : okM G M) : ∀ o, o ∉ gL G → ∀ k i, okC (gx G π (gL G ++ [14])) (MH M) o k i := by
  intro o ho k i
  by_cases e : o = 14
  · subst e
    have z : MH M 14 k i = 0 := if_pos rfl
    unfold okC inI inL
    rw [z]
    repeat' split
    all_goals first | exact ⟨by decide, by decide⟩ | exact fun a => absurd rfl a
  · have z : MH M o k i = M o k i := if_neg e
    have no : o ∉ gL G ++ [14] := fun b => by
      rcases List.mem_append.mp b with y | y
      · exact ho y
      · exact e (List.mem_singleton.mp y)
    have h := hM o k i
    unfold okC at h ⊢
    rw [z]
    split
    · rename_i w; rw [if_pos w] at h; exact h
    rename_i w; rw [if_neg w] at h
    split
    · rename_i w; rw [if_pos w] at h; exact h
    rename_i w; rw [if_neg w] at h
    split
    · rename_i w; rw [if_pos w] at h; exact h
    rename_i w; rw [if_neg w] at h
    split
    · exact fun _ b => absurd b no
    rename_i w; rw [if_neg w] at h
    split
    · exact fun _ b => absurd b no
    rename_i w; rw [if_neg w] at h
    exact h
theorem h_window (hsz : (ks K).heap.size = sz) (h1 : 1 ∈ gL G) (h2 : 2 ∈ gL G) (h7 : 7 ∈ gL G) (h14 : 14 ∉ gL G) (hE : ∀ o ∈ gL G, ∀ k i, (fK (oc o) k = 5 ∨ fK (oc o) k = 6) → M o k i ≠ 0 → el k i ∈ gL G) (hR : 2 ≤ R.frames ∧ 150 ≤ R.locals ∧ 1 ≤ R.cells ∧ 3 ≤ R.slots)
    (kk : ∀ q, sz ≤ q → CX (GH G q) K mX11_house (R, Az G sz, 1, 3) 15 [some (vO 1), none, none] [vO 14] (MH M) F) : CX G K mX11_house (R, Az G sz, 0, 0) 0 [some (vO 1), none, none] [] M F := by
  intro C hM hs hl H locs ls hP hS hL
  have hts := C.2.2.2.2.1
  have hKU := C.2.2.2.2.2.2.2.1
  have hG := C.2.2.2.2.2.2.2.2
  have hD : va_D (Az G sz) (wsOf G M) := ws_DZ (fun q h => Or.inl h) hG
  have hA : ∀ q, (ks K).heap.size ≤ q → Az G sz q := fun q h => Or.inr (by rw [← hsz]; exact h)
  have hszH : sz ≤ H.size := by rw [← hsz]; exact hS.1
  refine va_new (ci := 2) (fs := [.null, .null, .int 0]) (C := RX2) (T := TX2) (N := 3) C.1 C.2.1 hts gX2 tyX2 tyX2_ok C.2.2.2.1 (hts _ wH_cl) (hts _ wH_in) (hts _ wH_ini) hKU.1 hP hD hS hA rfl (fun j hj => by rcases (show j = 0 ∨ j = 1 ∨ j = 2 by omega) with rfl|rfl|rfl <;> rfl) hR.2.2.1 hR.2.2.2 dX11_house_0 (fun q H1 hP1 hD1 hS1 => ?_)
  have hlast : (wsOf G M ++ [((q, .inr (2, [.null, .null, .int 0])) : Nat × va_E)])[(wsOf G M).length]? = some (q, .inr (2, [.null, .null, .int 0])) := by rw [List.getElem?_append_right (Nat.le_refl _), Nat.sub_self]; rfl
  have hlt1 : ∀ (k : Nat) (x : Nat × va_E), (wsOf G M)[k]? = some x → x.1 < H1.size := fun k x hx => (hP1 k x (by rw [List.getElem?_append_left (List.getElem?_eq_some_iff.mp hx).1]; exact hx)).lt
  have hqn : ∀ (k : Nat) (x : Nat × va_E), (wsOf G M)[k]? = some x → x.1 ≠ q := by
    intro k x hx e
    have hlt' := (List.getElem?_eq_some_iff.mp hx).1
    have := hD1.1 k (wsOf G M).length x _ (by rw [List.getElem?_append_left hlt']; exact hx) hlast e
    omega
  obtain ⟨q1, hq1, hw1⟩ := ws_mem (M := M) (lc_obj h1)
  have hw1' : (wsOf G M ++ [((q, .inr (2, [.null, .null, .int 0])) : Nat × va_E)])[q1]? = some (gp G (1, 99), .inr (11, fl (gp G) M 1)) := by
    rw [List.getElem?_append_left (List.getElem?_eq_some_iff.mp hw1).1, hw1, ce_obj]; rfl
  refine lv_dup C.1 C.2.1 dX11_house_3 rfl ?_
  refine lv_aload_n C.1 C.2.1 dX11_house_4 rfl (hL.2.2 0 (vO 1) rfl) ?_
  refine g_get (v := vO 2) C dX11_house_5 fX11_10 rfl hw1' hP1 rfl ?_
  refine lv_aload_n C.1 C.2.1 dX11_house_8 rfl (hL.2.2 0 (vO 1) rfl) ?_
  refine g_get (v := vO 7) C dX11_house_9 fX11_19 rfl hw1' hP1 rfl ?_
  have hcw : CallB R (ks K) (ka K) RX11 93 yX2_init cX2_init 3 none (.code yX2_init cX2_init 3 none :: gw) { frames := 1, cells := 0, slots := 0, locals := 120 } 0 0 2 := callB_of 2 hts (gw_good wH_co) rfl rfl rfl (hts _ wH_ini) (hts _ wH_ml) ⟨by decide, by decide, by decide +kernel⟩ ⟨hR.1, by have := hR.2.1; show 8 + (3 + 11) + 120 ≤ _; omega⟩
  have hpre : PreS (ks K) H1 (Pn G q 2 H1.size [.null, .null, .int 0] [.ref (gp G (2, 99)), .ref (gp G (7, 99))]) [.ref q, .ref (gp G (2, 99)), .ref (gp G (7, 99))] := ⟨Pn_blind, fun U hU hW => ⟨rfl, by rw [hU], by
    rw [hU]
    intro k x hk
    have h1 := (List.getElem?_eq_some_iff.mp hk).1
    simp at h1
    subst h1
    cases hk
    exact hP1 _ _ hlast, va_K.moved hW.alike hKU.1, Nw_warm hW hKU.2.1⟩⟩
  have hrun := va_runI (e := ke K) (below := kb K) (meth := kt K) (locs := locs) (cells := 1) (slots := 3) (As := [.ref (gp G (2, 99)), .ref (gp G (7, 99))]) (rest := [.ref q]) (g := F0 (km K) 12 ls [.ref (gp G (7, 99)), .ref (gp G (2, 99)), .ref q, .ref q]) ⟨C.1, C.2.1, C.2.2.1, C.2.2.2.1, hts⟩ (nX2 (G := G) (a := q) (sz := H1.size) (x1 := gp G (2, 99)) (x2 := gp G (7, 99))) ⟨hcw, rfl, hts _ wH_im⟩ hpre rfl rfl hL.1 rfl (lv_room (Nat.le_of_ble_eq_true rfl)) dX11_house_12 ⟨hR.2.2.1, hR.2.2.2⟩
  intro T0 hT X0
  obtain ⟨v, st₀, t, T', L, h0, X', hLo, e1, e2, ⟨⟨hv, ws', hS', hP', hD'⟩, hz, hk⟩, stp⟩ := hrun T0 hT X0
  cases hv
  rw [h0] at hz hk
  subst hS'
  have hAq : Az G sz q := hD1.2 _ _ hlast
  have hqsz : sz ≤ q := by
    rcases hAq with ⟨c, hc, hcq⟩ | z
    · obtain ⟨q2, _, hw2⟩ := ws_mem (M := M) hc
      exact absurd hcq.symm (hqn q2 _ hw2)
    · exact z
  have hAll : ∀ x, Aa q H1.size x → Az G sz x := fun x hx => by
    rcases hx with z | z
    · rw [z]; exact hAq
    · exact Or.inr (Nat.le_trans (by rw [← hsz]; exact hS1.1) z)
  have hPo : va_P (gD G) vwCl (wsOf G M) t.heap := by
    have hPw : va_P (gD G) vwCl (wsOf G M) H1 := fun k x hx => hP1 k x (by rw [List.getElem?_append_left (List.getElem?_eq_some_iff.mp hx).1]; exact hx)
    refine hPw.kept (fun k x hx => hk x.1 (hlt1 k x hx) (fun z => ?_))
    rcases z with z | z
    · exact hqn k x hx z
    · have := hlt1 k x hx; omega
  have n14 : ∀ c ∈ LC (gL G), c ≠ (14, 99) := fun c hc e => h14 (by have := lc_live hc; rw [e] at this; exact this)
  have hπ : ∀ c ∈ LC (gL G), πH G q c = gp G c := fun c hc => if_neg (n14 c hc)
  have hπ' : ∀ c : Nat × Nat, 1000 ≤ c.1 → πH G q c = gp G c := fun c hc => if_neg (fun e => by rw [e] at hc; exact absurd hc (by decide))
  have hM' : ∀ o ∈ gL G, ∀ k i, MH M o k i = M o k i := fun o ho k i => if_neg (fun e => h14 (by rw [← e]; exact ho))
  have hshape : (LC [14]).map (fun c => (πH G q c, ce (GH G q) (MH M) c)) = [(q, .inr (2, [.ref (gp G (2, 99)), .ref (gp G (7, 99)), .int 0]))] := by
    rw [sh_14]; rfl
  have hPic : Pic (GH G q) (MH M) t.heap := Pic_ext hPo hG hM hE hπ hM' (by rw [hshape]; exact hP')
  have hws : wsOf (GH G q) (MH M) = wsOf G M ++ [(q, .inr (2, [.ref (gp G (2, 99)), .ref (gp G (7, 99)), .int 0]))] := by
    unfold wsOf
    rw [show gL (GH G q) = gL G ++ [14] from rfl, LC_app, List.map_append]
    congr 1
    apply List.map_congr_left
    intro c hc
    rw [ce_ext hG hM hE hπ hM' hc]
    show (πH G q c, _) = _
    rw [hπ c hc]
  have hDn : va_D (Az G sz) (wsOf (GH G q) (MH M)) := by
    rw [hws]
    exact D_join hD1 hlt1 (fun x hx => hAll x (Or.inr hx)) hD'
  have hGn : GOK (GH G q) := GOK_mk hDn (fun o ho k h7' => by
    rcases List.mem_append.mp ho with z | z
    · exact List.mem_append_left _ (hG.2 o z k h7')
    · rw [List.mem_singleton.mp z] at h7' ⊢
      by_cases e : k = 0
      · subst e; exact List.mem_append_left _ h2
      · by_cases e' : k = 1
        · subst e'; exact List.mem_append_left _ h7
        · exfalso
          have h7'' : fK 2 k = 7 := h7'
          match k, e, e', h7'' with
          | 0, e, _, _ => exact e rfl
          | 1, _, e', _ => exact e' rfl
          | 2, _, _, h => exact absurd h (by decide)
          | k + 3, _, _, h => exact absurd (show (0 : Nat) = 7 from h) (by decide))
  have hCn : Cx (GH G q) K mX11_house := Cx_ext C hπ' (fun x hx hg => by
    obtain ⟨c, hc, e⟩ := hg
    have hc' : c ∈ LC (gL G ++ [14]) := hc
    rw [LC_app] at hc'
    rcases List.mem_append.mp hc' with z | z
    · exact ⟨c, z, by rw [e]; exact hπ c z⟩
    · exfalso
      have : c = (14, 99) := by
        have h : LC [14] = [(14, 99)] := rfl
        rw [h] at z
        exact List.mem_singleton.mp z
      rw [this] at e
      have e' : x = q := e
      omega) hGn
  have hSn : va_S (Az G sz) (ks K).heap T'.heap (locs ++ L) := ⟨Nat.le_trans hS1.1 (by rw [e1]; exact hz), fun x h1 h2 => by
      rw [e1, hk x (Nat.lt_of_lt_of_le h1 hS1.1) (fun z => h2 (hAll x z))]; exact hS1.2.1 x h1 h2, fun x hx => by
      rcases List.mem_append.mp hx with h | h
      · exact hS1.2.2 x h
      · exact hAll _ (hLo x h)⟩
  have kq := kk q hqsz hCn (okM_ext hM hM' (okC_14 hM)) (fun v hv => by
    rw [List.mem_singleton.mp hv]
    exact Or.inl (by show (14, 99) ∈ LC (gL G ++ [14]); rw [LC_app]; exact List.mem_append_right _ List.mem_cons_self)) (fun v hv => okV_ext (hl v hv)) T'.heap (locs ++ L) ls (by rw [e1]; exact hPic) hSn (HL_ext hL hl hπ hπ')
  obtain ⟨t2, a1, b1⟩ := kq T' rfl X'
  exact ⟨t2, stp t2 a1, b1⟩
end HM2
