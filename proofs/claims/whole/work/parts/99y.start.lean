/-! ===== the start: nothing told yet ===== -/
section LWS
theorem Inv_0 : Inv (fun _ _ _ => 0) := by
  have h0 : sd (fun _ _ _ => 0) = fun _ => 0 := rfl
  refine ⟨?_, ?_, ?_, ?_⟩
  · rw [h0]
    refine ⟨?_, ?_, ?_, ?_, ?_, ?_⟩
    · exact ⟨rfl, rfl, rfl, rfl, rfl, rfl, fun r a b => rfl, fun w a b => ⟨rfl, rfl, rfl, rfl, rfl, rfl⟩, fun p a b => rfl, fun h => absurd h (by decide)⟩
    · exact ⟨by decide, by decide, by decide, by decide, by decide, by decide, fun _ => ⟨rfl, rfl, rfl⟩, Or.inl ⟨rfl, rfl, rfl⟩, fun r a b => absurd b (by show ¬ r < 0; omega), fun w a b => absurd b (by show ¬ w < 0; omega), fun p a b => absurd b (by show ¬ p < 0; omega)⟩
    · exact ⟨rfl, rfl, fun p a b => absurd b (by show ¬ p < 0; omega)⟩
    · exact ⟨⟨by decide, by decide, fun p a b => absurd b (by show ¬ p < 0; omega)⟩, by decide⟩
    · exact ⟨rfl, rfl, rfl, rfl, rfl, fun e a b => absurd b (by show ¬ e < 0; omega), fun e a b => absurd b (by show ¬ e < 0; omega), fun e a b => absurd b (by show ¬ e < 0; omega), fun e a b => absurd b (by show ¬ e < 0; omega)⟩
    · exact ⟨⟨by decide, by decide⟩, ⟨by decide, by decide⟩, ⟨by decide, by decide⟩, ⟨by decide, by decide⟩, by decide, fun e a b => absurd b (by show ¬ e < 0; omega), fun e a b => absurd b (by show ¬ e < 0; omega), fun e a b => absurd b (by show ¬ e < 0; omega), fun e a b => absurd b (by show ¬ e < 0; omega)⟩
  · exact ⟨rfl, by decide, by decide, fun i _ => ⟨by show (0 : Int) ≤ 0; decide, by show (0 : Int) ≤ 255; decide, by show (-128 : Int) ≤ 0; decide, by show (0 : Int) ≤ 127; decide, Or.inl rfl⟩⟩
  · exact ⟨rfl, by decide, by decide, fun k hk => absurd hk (by show ¬ (k : Int) < 0; omega)⟩
  · exact fun k _ => ⟨fun _ => rfl, fun h => absurd rfl h⟩
theorem WG_0 {G : Gx} (hL : gL G = [1, 2, 3, 4, 5, 6, 7, 8, 9, 10, 11, 0]) : WG G (fun _ _ _ => 0) := by
  unfold WG
  rw [hL]
  refine ⟨fun o ho => ?_, fun i h => absurd rfl h, fun i h => absurd rfl h, by decide, fun k hk e => ?_, fun k hk _ e => ?_, fun _ => ⟨by decide, by decide⟩, fun k hk _ o ho e => ?_, fun h => absurd rfl h⟩
  · have all : ∀ o, o < 12 → o ∈ [1, 2, 3, 4, 5, 6, 7, 8, 9, 10, 11, 0] := by decide
    exact all o (by omega)
  all_goals have all : ∀ o ∈ [1, 2, 3, 4, 5, 6, 7, 8, 9, 10, 11, 0], o < 12 := by decide
  · have := all _ e; omega
  · have := all _ e; omega
  · have h1 := all _ e
    simp at ho
    omega
/-- YOUR PART: from the entry, for every script of at most 3584 ints, the law comes to its end with true -/
theorem whole_start {p : Program} {e : Env} {s : State} {m : MethodId} {below : List Frame} {meth : Method} {c : Code} (l : Launch) {b L : Nat} {xs : Nat → Int32} (hL : L ≤ 3584) (C0 : lw_At p s m meth c b L xs) : W p l e room_1 s m #[Value.ref b] below meth c s.heap [] 0 0 (lw_Z below #[Value.ref b] s) (entryFrame m ([Value.ref b] : List Value).toArray 4) := by
  obtain ⟨hx, hb, hr, hml, hown, hts, hX, hbl, hlocks, hgv⟩ := C0
  obtain ⟨G, rfl, hGL, hGb, hKU⟩ := start_KU l hts hgv b
  have hg : ∀ w ∈ gw, w.before #[Value.ref b] s = true := fun w hw => hts w (List.mem_filter.mp hw).1
  obtain ⟨K, hK⟩ : ∃ K : Kx, K = (p, e, s, m, #[Value.ref b], below, meth, c) := ⟨_, rfl⟩
  have fin : ∀ (G : Gx) (M : Mem) (cs sl i : Nat), cs ≤ 600000 → sl ≤ 7302250 → CX G K mL (room_1, aN K, cs, sl) 1270 (LO i) [] M (lw_Z below #[Value.ref b] s) := by
    intro G M cs sl i h1 h2
    refine xr_iconst dL_law_1270 (by decide) ?_
    intro C hM hs hl H locs ls hP hS hL
    subst hK
    exact va_forget (fun q hq => hS.2.2 q hq) (W.widen (k := 600000) (n := 7302250) h1 h2 (lw_ret C.1 C.2.1 C.2.2.2.2.2.1 C.2.2.2.2.2.2.1 dL_law_1271))
  have hlc : LC (gL G) = [] := by rw [hGL]; rfl
  have hga : ∀ q, ¬ gA G q := fun q hq => by
    obtain ⟨c, hc, _⟩ := hq
    rw [hlc] at hc
    cases hc
  have hws : ∀ M, wsOf G M = [] := fun M => by unfold wsOf; rw [hlc]; rfl
  have hGO : GOK G := ⟨by rw [hws]; exact ⟨fun i j p q h => by simp at h, fun k q h => by simp at h⟩, fun o ho => by rw [hGL] at ho; cases ho⟩
  have hM0 : okM G (fun _ _ _ => 0) := by
    intro o k i
    unfold okC inI inL
    dsimp only
    repeat' split
    all_goals first | exact ⟨by decide, by decide⟩ | exact fun a => absurd rfl a
  have hA0 : AZ G K (aN K) := ⟨fun q hq => absurd hq (hga q), fun q hq => hq, fun q h1 h2 => absurd h1 (Nat.not_lt.mpr h2)⟩
  have hE0 : NoR G (fun _ _ _ => 0) := fun o ho k i _ hz => absurd rfl hz
  have hS0 : Sc K G L xs := by subst hK; unfold Sc; rw [hGb]; exact ⟨hX, hbl, hL⟩
  have hO : va_AO RX6 (ks K) ∧ va_AO RX8 (ks K) := by subst hK; exact ⟨va_AO.of (hts _ tO_6), va_AO.of (hts _ tO_8)⟩
  have main : CX G K mL (room_1, aN K, 0, 0) 0 [some (vA 2000 1), none, none, none] [] (fun _ _ _ => 0) (lw_Z below #[Value.ref b] s) := by
    have n1 : ∀ o ∈ [1, 2, 3, 4, 5, 6, 7, 8, 9, 10, 11], o ∉ gL G := fun o _ h => by rw [hGL] at h; cases h
    have b1 : ∀ o ∈ [1, 2, 3, 4, 5, 6, 7, 8, 9, 10, 11], o < 1000 := by decide
    refine xw_newP (md' := mX11_init) (fs' := eF_11) (L1 := [1, 2, 3, 4, 5, 6, 7, 8, 9, 10, 11]) (o1 := 1) (mc := 57) (ms := 1243) (T := TX11) (tf := tyX11) hA0 hE0 dL_law_0 dL_law_3 dL_law_4 rfl gX11 tyX11_ok eC_11 eI_11 eN_11 eD_11 eL_11 eM_11 eN_11 eO_11 (by decide) (by decide +kernel) rfl rfl (by decide) (fun q z => nX11 (G := G) (a := q) (sz := z)) (fun q H1 h1 h2 => pre_11 hO h1 h2) ⟨rfl, rfl, by show 3 + 1 ≤ 2048; decide, by show 24 + 450 ≤ 84000; decide⟩ (Nat.le_of_ble_eq_true rfl) (by show 0 + 1 + 57 ≤ 600000; decide) (by show 0 + 17 + 1243 ≤ 7302250; decide) n1 b1 List.mem_cons_self (fun o ho j h7 => ?_) (fun q ws' h => ms_1 q ws' h) (fun π hoff hA1 => ?_)
    · have all : ∀ o ∈ [1, 2, 3, 4, 5, 6, 7, 8, 9, 10, 11], ∀ j, j < 48 → fK (oc o) j = 7 → lk o j ∈ [1, 2, 3, 4, 5, 6, 7, 8, 9, 10, 11] := by decide +kernel
      exact List.mem_append_right _ (all o ho j (fK_7 h7) h7)
    have g1 : Gr G (gx G π (gL G ++ [1, 2, 3, 4, 5, 6, 7, 8, 9, 10, 11])) := Gr.mk hoff n1 b1
    have S1 := Sc_gr g1 hS0
    have L1 : gL (gx G π (gL G ++ [1, 2, 3, 4, 5, 6, 7, 8, 9, 10, 11])) = [1, 2, 3, 4, 5, 6, 7, 8, 9, 10, 11] := by show gL G ++ _ = _; rw [hGL]; rfl
    have E1 := NoR_new (π := π) n1 hE0
    generalize gx G π (gL G ++ [1, 2, 3, 4, 5, 6, 7, 8, 9, 10, 11]) = G1 at hA1 g1 S1 L1 E1 ⊢
    have m1 : MN (fun _ _ _ => 0) [1, 2, 3, 4, 5, 6, 7, 8, 9, 10, 11] = fun _ _ _ => 0 := by funext o k i; unfold MN; split <;> rfl
    rw [m1] at E1 ⊢
    refine xr_astore_n dL_law_7 (by decide) rfl ?_
    have n2 : ∀ o ∈ [0], o ∉ gL G1 := fun o ho h => by rw [L1, List.mem_singleton.mp ho] at h; exact absurd h (by decide)
    have b2 : ∀ o ∈ [0], o < 1000 := by decide
    refine xw_newP (md' := mX12_init) (fs' := eF_12) (L1 := [0]) (o1 := 0) (mc := 32) (ms := 33572) (T := TX12) (tf := tyX12) hA1 E1 dL_law_8 dL_law_11 dL_law_12 rfl gX12 tyX12_ok eC_12 eI_12 eN_12 eD_12 eL_12 eM_12 eN_12 eO_12 (by decide) (by decide +kernel) rfl rfl (by decide) (fun q z => nX12 (G := G1) (a := q) (sz := z)) (fun q H1 h1 h2 => pre_12 h1 h2) ⟨rfl, rfl, by show 1 + 1 ≤ 2048; decide, by show 24 + 120 ≤ 84000; decide⟩ (Nat.le_of_ble_eq_true rfl) (by show 0 + 1 + 57 + 1 + 32 ≤ 600000; decide) (by show 0 + 17 + 1243 + 47 + 33572 ≤ 7302250; decide) n2 b2 List.mem_cons_self (fun o ho j h7 => ?_) (fun q ws' h => ms_0 q ws' h) (fun π2 hoff2 hA2 => ?_)
    · exfalso
      rw [List.mem_singleton.mp ho] at h7
      have all : ∀ j, j < 48 → ¬ fK (oc 0) j = 7 := by decide +kernel
      exact all j (fK_7 h7) h7
    have g2 : Gr G1 (gx G1 π2 (gL G1 ++ [0])) := Gr.mk hoff2 n2 b2
    have S2 := Sc_gr g2 S1
    have L2 : gL (gx G1 π2 (gL G1 ++ [0])) = [1, 2, 3, 4, 5, 6, 7, 8, 9, 10, 11, 0] := by show gL G1 ++ _ = _; rw [L1]; rfl
    generalize gx G1 π2 (gL G1 ++ [0]) = G2 at hA2 g2 S2 L2 ⊢
    have m2 : MN (fun _ _ _ => 0) [0] = fun _ _ _ => 0 := by funext o k i; unfold MN; split <;> rfl
    rw [m2]
    refine xr_astore_n dL_law_15 (by decide) rfl ?_
    refine xr_iconst dL_law_16 (by decide) ?_
    refine xr_istore_n dL_law_17 (by decide) rfl ?_
    have p1 : pC G2 = 4 := if_neg (by rw [L2]; decide)
    have p2 : pS G2 = 20518 := if_neg (by rw [L2]; decide)
    refine law_loop fin 512 G2 (fun _ _ _ => 0) _ _ 0 (by omega) (Nat.zero_le _) ⟨⟨Inv_0, WG_0 L2⟩, hA2, S2, ?_, ?_⟩
    · rw [p1]; show 0 + 1 + 57 + 1 + 32 + 40 * 512 + 4 ≤ 600000; decide
    · rw [p2]; show 0 + 17 + 1243 + 47 + 33572 + 600 * 512 + 20518 ≤ 7302250; decide
  have C : Cx G K mL := by subst hK; exact ⟨hx, hb, hml, hown, hg, hr, hlocks, hKU, hGO⟩
  have hl := lv_entry ([.ref b]) (n := 4) (Nat.le_of_ble_eq_true rfl)
  rw [lg_entry_eq]
  generalize (lg_sl ([.ref b]) ++ List.replicate (4 - (lg_sl ([.ref b])).length) Slot.unset).toArray = ls at hl ⊢
  have h0 : ls[0]? = some (.val (.ref b)) := lv_at hl 0 rfl
  have hP0 : Pic G (fun _ _ _ => 0) s.heap := by unfold Pic; rw [hws]; exact fun k q h => by simp at h
  have := main C hM0 (fun v hv => by cases hv) (fun v hv => by
    simp at hv
    rw [hv]
    exact Or.inr (by decide)) s.heap [] ls hP0 (by subst hK; exact va_S.rf) ⟨hl.1, hl.2.1, fun i v hi => by
      match i, hi with
      | 0, hi =>
        cases hi
        show ls[0]? = some (Slot.val (Value.ref (gp G (2000, 1))))
        rw [hGb]; exact h0
      | 1, hi => cases hi
      | 2, hi => cases hi
      | 3, hi => cases hi
      | i + 4, hi => cases hi⟩
  subst hK
  exact this
end LWS
