/-! ===== what is known of the machine at the start ===== -/
section LST
variable {s : State} {args : Array Value} {b : Nat}
theorem arr_p {ty : FieldType} (h : (Cond.arrayClass ty).before args s = true) (hra : ∀ cA, s.vm.findClass ("[" ++ ty.toString) = some cA → va_RA s cA ty) : ∃ cA : ClassId, ArrOfT s cA ty ∧ va_RA s cA ty := by
  obtain ⟨cA, kA, comp, h1, h2, h3⟩ := Cond.arrayClass_spec h
  exact ⟨cA, fun n z => ⟨fun k h => (by cases h), kA, h2, comp, h3⟩, hra cA h1⟩
theorem arr_o {C : String} (h : (Cond.arrayOver (.object C)).before args s = true) : ∃ cA : ClassId, ArrOfT s cA (.object C) ∧ va_RA s cA (.object C) := by
  obtain ⟨comp, c, k, h1, h2, h3, h4, h5⟩ := Cond.arrayOver_spec h
  exact ⟨c, fun N z => ⟨(fun k h => by cases h), k, h3, comp, h4⟩, k, comp, h3, h4, h1, h5⟩
theorem start_K (hts : ∀ w ∈ lw_tbl, w.before args s = true) : ∃ (dC : Nat → ClassId) (dI : Nat → Nat → Nat) (y : Nat → ClassId), va_K (dC, dI) vwCl (tysOf y) s := by
  have hg : ∀ w ∈ gw, w.before args s = true := fun w hw => hts w (List.mem_filter.mp hw).1
  obtain ⟨a1, r1, q1⟩ := arr_p (hg _ wA_int) (fun _ h => h)
  obtain ⟨a2, r2, q2⟩ := arr_p (hg _ wA_byte) (fun _ h => h)
  obtain ⟨a3, r3, q3⟩ := arr_p (hg _ wA_boolean) (fun _ h => h)
  obtain ⟨a4, r4, q4⟩ := arr_p (hg _ wA_long) (fun _ h => h)
  obtain ⟨a5, r5, q5⟩ := arr_o (hts _ tO_6)
  obtain ⟨a6, r6, q6⟩ := arr_o (hts _ tO_8)
  obtain ⟨c0, i0, k0⟩ := u_known (C := RX0) (T := TX0) (N := 6) (n := 6) hg gX0 (hts _ tI_0)
  obtain ⟨c1, i1, k1⟩ := u_known (C := RX1) (T := TX1) (N := 15) (n := 15) hg gX1 (hts _ tI_1)
  obtain ⟨c2, i2, k2⟩ := u_known (C := RX2) (T := TX2) (N := 3) (n := 3) hg gX2 (hts _ tI_2)
  obtain ⟨c3, i3, k3⟩ := u_known (C := RX3) (T := TX3) (N := 16) (n := 16) hg gX3 (hts _ tI_3)
  obtain ⟨c4, i4, k4⟩ := u_known (C := RX4) (T := TX4) (N := 5) (n := 5) hg gX4 (hts _ tI_4)
  obtain ⟨c5, i5, k5⟩ := u_known (C := RX5) (T := TX5) (N := 1) (n := 1) hg gX5 (hts _ tI_5)
  obtain ⟨c6, i6, k6⟩ := u_known (C := RX6) (T := TX6) (N := 8) (n := 8) hg gX6 (hts _ tI_6)
  obtain ⟨c7, i7, k7⟩ := u_known (C := RX7) (T := TX7) (N := 4) (n := 4) hg gX7 (hts _ tI_7)
  obtain ⟨c8, i8, k8⟩ := u_known (C := RX8) (T := TX8) (N := 3) (n := 3) hg gX8 (hts _ tI_8)
  obtain ⟨c9, i9, k9⟩ := u_known (C := RX9) (T := TX9) (N := 8) (n := 8) hg gX9 (hts _ tI_9)
  obtain ⟨c10, i10, k10⟩ := u_known (C := RX10) (T := TX10) (N := 6) (n := 6) hg gX10 (hts _ tI_10)
  obtain ⟨c11, i11, k11⟩ := u_known (C := RX11) (T := TX11) (N := 17) (n := 17) hg gX11 (hts _ tI_11)
  obtain ⟨c12, i12, k12⟩ := u_known (C := RX12) (T := TX12) (N := 47) (n := 47) hg gX12 (hts _ tI_12)
  refine ⟨fun k => [c0, c1, c2, c3, c4, c5, c6, c7, c8, c9, c10, c11, c12].getD k c0, fun k => [i0, i1, i2, i3, i4, i5, i6, i7, i8, i9, i10, i11, i12].getD k i0, fun k => [a1, a1, a2, a3, a4, a5, a6].getD k a1, fun k q hq => ?_, fun k q hq => ?_⟩
  · have hk : k < 13 := (List.getElem?_eq_some_iff.mp hq).1
    match k, hq, hk with
    | 0, hq, _ => cases hq; exact k0
    | 1, hq, _ => cases hq; exact k1
    | 2, hq, _ => cases hq; exact k2
    | 3, hq, _ => cases hq; exact k3
    | 4, hq, _ => cases hq; exact k4
    | 5, hq, _ => cases hq; exact k5
    | 6, hq, _ => cases hq; exact k6
    | 7, hq, _ => cases hq; exact k7
    | 8, hq, _ => cases hq; exact k8
    | 9, hq, _ => cases hq; exact k9
    | 10, hq, _ => cases hq; exact k10
    | 11, hq, _ => cases hq; exact k11
    | 12, hq, _ => cases hq; exact k12
    | k + 13, _, hk => omega
  · have hk : k < 6 := (List.getElem?_eq_some_iff.mp hq).1
    match k, hq, hk with
    | 0, hq, _ => cases hq; exact ⟨r1, q1⟩
    | 1, hq, _ => cases hq; exact ⟨r2, q2⟩
    | 2, hq, _ => cases hq; exact ⟨r3, q3⟩
    | 3, hq, _ => cases hq; exact ⟨r4, q4⟩
    | 4, hq, _ => cases hq; exact ⟨r5, q5⟩
    | 5, hq, _ => cases hq; exact ⟨r6, q6⟩
    | k + 6, _, hk => omega
/-- the addresses of what is there before the law begins: the String constants, the formatter, the script -/
def π0 (adK adV : Nat → Nat) (t b : Nat) : Nat × Nat → Nat := fun c => if c = (2000, 1) then b else if c = (1999, 99) then t else if c.2 = 99 then adK (c.1 - 1000) else adV (c.1 - 1000)
theorem π0_k {adK adV : Nat → Nat} {t : Nat} {i : Nat} (h : i < 19) : π0 adK adV t b (1000 + i, 99) = adK i := by
  unfold π0
  rw [if_neg (fun e => by have := congrArg Prod.snd e; have h : (99 : Nat) = 1 := this; omega), if_neg (fun e => by have := congrArg Prod.fst e; have h : 1000 + i = 1999 := this; omega), if_pos rfl]
  show adK (1000 + i - 1000) = adK i
  rw [Nat.add_sub_cancel_left]
theorem π0_v {adK adV : Nat → Nat} {t : Nat} {i : Nat} : π0 adK adV t b (1000 + i, 98) = adV i := by
  unfold π0
  rw [if_neg (fun e => by have := congrArg Prod.snd e; have h : (98 : Nat) = 1 := this; omega), if_neg (fun e => by have := congrArg Prod.snd e; have h : (98 : Nat) = 99 := this; omega), if_neg (show ¬ (98 : Nat) = 99 by decide)]
  show adV (1000 + i - 1000) = adV i
  rw [Nat.add_sub_cancel_left]
theorem start_KU (l : Launch) (hts : ∀ w ∈ lw_tbl, w.before args s = true) (hgv : (Jvm.Cond.and given_1 narrow_1).before args s = true) (b : Nat) : ∃ G : Gx, gl G = l ∧ gL G = [] ∧ gp G (2000, 1) = b ∧ KU G s := by
  obtain ⟨dC, dI, y, hK⟩ := start_K hts
  have hf := flat_of_before _ hgv
  have hf : ∀ c ∈ fLs, c.before args s = true := hf
  have hno : ∀ a : Nat, a < s.heap.size → ¬ (fun _ : Nat => False) a := fun _ _ h => h
  obtain ⟨adK, adV, hS, hev⟩ := vk_Sof (args := args) (s := s) (N := 19) (tm := tm) (len := strL) (byt := strB) (A := fun _ => False) (by decide) (fun i hi => hf _ (pm_ex i hi)) (fun i hi => hf _ (pm_co i hi)) (fun i hi => hf _ (pm_ar i hi)) (fun i hi => hf _ (pm_le i hi)) (fun i hi j hj => hf _ (pm_el i hi j hj)) (fun i j hi hj hn => (pm_ne i j hi hj hn).imp (hf _) (hf _)) hno
  have hZ := va_Zof (A := fun _ => False) (hts _ tZ_s) (hts _ tN_s) (va_eqi (hf _ pm_cs)) hno
  have hq := va_Zqof (A := fun _ => False) (hts _ tZ_p) (hts _ tN_p) (hf _ pm_si) hno
  obtain ⟨t, hq⟩ : ∃ t : Nat, va_Z "jdk/internal/util/Preconditions" "SIOOBE_FORMATTER" "Ljava/util/function/BiFunction;" .null (fun _ => False) s s.heap ∨ va_Z "jdk/internal/util/Preconditions" "SIOOBE_FORMATTER" "Ljava/util/function/BiFunction;" (.ref t) (fun _ => False) s s.heap := by
    rcases hq with h | ⟨t, h⟩
    · exact ⟨0, Or.inl h⟩
    · exact ⟨t, Or.inr h⟩
  have hgA : gA ((l, (dC, dI), y, π0 adK adV t b, []) : Gx) = fun _ => False := by
    funext q
    apply propext
    exact ⟨fun ⟨c, hc, _⟩ => (by cases hc), fun h => h.elim⟩
  have e87 := va_eqR (hf _ pm_q1) (hev 5 (by decide))
  have e51 := va_eqR (hf _ pm_q2) (hev 0 (by decide))
  refine ⟨(l, (dC, dI), y, π0 adK adV t b, []), rfl, rfl, (show π0 adK adV t b (2000, 1) = b from if_pos rfl), hK, fun w hw => ?_, ?_, ?_, ?_, ?_⟩
  · have h1 := List.mem_filter.mp hw
    have h2 := hts w (List.mem_append_right _ h1.1)
    have h3 := h1.2
    cases w <;> first | (simp [isNest] at h3; done) | exact va_Nw.of rfl h2
  · have hk : ∀ i, i < 19 → gp ((l, (dC, dI), y, π0 adK adV t b, []) : Gx) (1000 + i, 99) = adK i := fun i hi => π0_k hi
    have key : ∀ q ∈ strR, q.2.2 < 19 ∧ (Term.string q.1 q.2.1).eval args s none [] s = some (.ref (adK q.2.2)) := by
      intro q hq
      have all : ∀ q ∈ strR, q.2.2 < 19 ∧ (((q.1, q.2.1) = tmL.getD q.2.2 ("", 0)) ∨ q = ("DownOnly$RuleReader", 143, 5) ∨ q = ("DownOnly$RuleReader", 145, 0)) := by decide +kernel
      obtain ⟨h1, h2⟩ := all q hq
      refine ⟨h1, ?_⟩
      rcases h2 with h2 | h2 | h2
      · have := hev q.2.2 h1
        unfold tm at this
        rw [← h2] at this
        exact this
      · rw [h2]; exact e87
      · rw [h2]; exact e51
    intro q hq
    obtain ⟨h1, h2⟩ := key q hq
    rw [hk _ h1]
    exact vk_R.of (hts _ (tR_all q hq)) h2
  · rw [hgA]
    refine ⟨fun i hi => ?_, fun i j hi hj e => hS.2 i j hi hj ?_⟩
    · show va_O "java/lang/String" (π0 adK adV t b (1000 + i, 99)) _ s s.heap ∧ va_OF "java/lang/String" "coder" "B" (.int 0) (π0 adK adV t b (1000 + i, 99)) _ s s.heap ∧ va_OF "java/lang/String" "value" "[B" (.ref (π0 adK adV t b (1000 + i, 98))) (π0 adK adV t b (1000 + i, 99)) _ s s.heap ∧ va_T .byte (π0 adK adV t b (1000 + i, 98)) _ _ _ s s.heap
      rw [π0_k hi, π0_v]
      exact hS.1 i hi
    · have e : π0 adK adV t b (1000 + i, 99) = π0 adK adV t b (1000 + j, 99) := e
      rw [π0_k hi, π0_k hj] at e
      exact e
  · rw [hgA]; exact hZ
  · rw [hgA]
    have e : gp ((l, (dC, dI), y, π0 adK adV t b, []) : Gx) (1999, 99) = t := rfl
    rw [e]
    exact hq
end LST
