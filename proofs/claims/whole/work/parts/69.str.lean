/-! ===== String constants: length, charAt; the class's isWord ===== -/
section STR
variable {G : Gx} {K : Kx} {md : MD} {n pc : Nat} {lo : List (Option V)} {st : List V} {M : Mem} {Q : Option V → Mem → Prop}
def sLn (j : Nat) : Nat := strL.getD j 0
def sBy (j k : Nat) : Int := ((strB.getD j []).getD k 0).toInt
theorem s_ok {j : Nat} (hj : j < 19) : Int32.ofNat (sLn j) = Int32.ofInt ((sLn j : Nat) : Int) ∧ bShr ((sLn j : Nat) : Int) 0 = ((sLn j : Nat) : Int) ∧ sLn j ≤ 7 ∧ sLn j = (wI j).length ∧ ∀ k, k < sLn j → sBy j k = (wI j).getD k 0 ∧ 97 ≤ sBy j k ∧ sBy j k ≤ 122 := by
  have : ∀ j, j < 19 → Int32.ofNat (sLn j) = Int32.ofInt ((sLn j : Nat) : Int) ∧ bShr ((sLn j : Nat) : Int) 0 = ((sLn j : Nat) : Int) ∧ sLn j ≤ 7 ∧ sLn j = (wI j).length ∧ ∀ k, k < sLn j → sBy j k = (wI j).getD k 0 ∧ 97 ≤ sBy j k ∧ sBy j k ≤ 122 := by decide +kernel
  exact this j hj
theorem ok_str {j k : Nat} : okV G (vA (1000 + j) k) := Or.inr (Nat.le_add_right _ _)
theorem r_strG {j idx : Nat} (d : decode md.2.1 pc = .ok (.getfield idx, 3)) (hw : Cond.fieldLink md.1.cls idx "java/lang/String" "value" "[B" ∈ gw) (hj : j < 19) (kk : CW G K md n (pc + 3) lo (vA (1000 + j) 98 :: st) M Q) : CW G K md n pc lo (vO (1000 + j) :: st) M Q := by
  intro C hM hs hl H locs ls hP hS hL
  have hE := (C.2.2.2.2.2.2.2.1.2.2.2.1.1 j hj).2.2.1
  exact vk_getf C.1 C.2.1 hE hS C.2.2.2.1 (C.2.2.2.2.1 _ hw) (fun _ h => h) d (kk C hM (okS_cons.mpr ⟨ok_str, (okS_cons.mp hs).2⟩) hl H locs ls hP hS hL)
theorem r_strC {j idx : Nat} (d : decode md.2.1 pc = .ok (.getfield idx, 3)) (hw : Cond.fieldLink md.1.cls idx "java/lang/String" "coder" "B" ∈ gw) (hj : j < 19) (kk : CW G K md n (pc + 3) lo (vI 0 :: st) M Q) : CW G K md n pc lo (vO (1000 + j) :: st) M Q := by
  intro C hM hs hl H locs ls hP hS hL
  have hE := (C.2.2.2.2.2.2.2.1.2.2.2.1.1 j hj).2.1
  exact vk_getf C.1 C.2.1 hE hS C.2.2.2.1 (C.2.2.2.2.1 _ hw) (fun _ h => h) d (kk C hM (okS_cons.mpr ⟨in0, (okS_cons.mp hs).2⟩) hl H locs ls hP hS hL)
theorem r_strL {j : Nat} (d : decode md.2.1 pc = .ok (.arraylength, 1)) (hj : j < 19) (kk : CW G K md n (pc + 1) lo (vI ((sLn j : Nat) : Int) :: st) M Q) : CW G K md n pc lo (vA (1000 + j) 98 :: st) M Q := by
  intro C hM hs hl H locs ls hP hS hL
  have hE := (C.2.2.2.2.2.2.2.1.2.2.2.1.1 j hj).2.2.2
  obtain ⟨a1, a2, a3, a4, a5⟩ := s_ok hj
  exact va_tlen C.1 C.2.1 hE hS a1 d (kk C hM (okS_cons.mpr ⟨⟨by omega, by omega⟩, (okS_cons.mp hs).2⟩) hl H locs ls hP hS hL)
theorem r_strB {j k : Nat} (d : decode md.2.1 pc = .ok (.baload, 1)) (hj : j < 19) (hk : k < sLn j) (kk : CW G K md n (pc + 1) lo (vI (sBy j k) :: st) M Q) : CW G K md n pc lo (vI (k : Int) :: vA (1000 + j) 98 :: st) M Q := by
  intro C hM hs hl H locs ls hP hS hL
  have hE := (C.2.2.2.2.2.2.2.1.2.2.2.1.1 j hj).2.2.2
  obtain ⟨a1, a2, a3, a4, a5⟩ := s_ok hj
  obtain ⟨b1, b2, b3⟩ := a5 k hk
  have hi : inI (k : Int) := ⟨by omega, by omega⟩
  have h1 := okS_cons.mp hs
  have h2 := okS_cons.mp h1.2
  refine va_tb C.1 C.2.1 hE hS (i := Int32.ofInt (k : Int)) ((i32_vp hi).mpr ⟨by omega, by show (k : Int) < ((sLn j : Nat) : Int); omega⟩) (v := .int (Int32.ofInt (sBy j k))) ?_ d (kk C hM (okS_cons.mpr ⟨⟨by omega, by omega⟩, h2.2⟩) hl H locs ls hP hS hL)
  rw [i32_nat hi, Int.toNat_natCast]
  show Value.int ((strB.getD j []).getD k 0) = _
  unfold sBy
  rw [i32_of]
theorem r_gsC {idx : Nat} (d : decode md.2.1 pc = .ok (.getstatic idx, 3)) (hw : Cond.fieldLink md.1.cls idx "java/lang/String" "COMPACT_STRINGS" "Z" ∈ gw) (kk : CW G K md n (pc + 3) lo (vI 1 :: st) M Q) : CW G K md n pc lo st M Q := by
  intro C hM hs hl H locs ls hP hS hL
  exact va_gets C.1 C.2.1 C.2.2.2.2.2.2.2.1.2.2.2.2.1 hS C.2.2.2.1 (C.2.2.2.2.1 _ hw) (fun _ h => h) d (kk C hM (okS_cons.mpr ⟨⟨by omega, by omega⟩, hs⟩) hl H locs ls hP hS hL)
theorem r_gsF {idx : Nat} (d : decode md.2.1 pc = .ok (.getstatic idx, 3)) (hw : Cond.fieldLink md.1.cls idx "jdk/internal/util/Preconditions" "SIOOBE_FORMATTER" "Ljava/util/function/BiFunction;" ∈ gw) (kk : ∀ q : Option (Nat × Nat), CW G K md n (pc + 3) lo (vR q :: st) M Q) : CW G K md n pc lo st M Q := by
  intro C hM hs hl H locs ls hP hS hL
  rcases C.2.2.2.2.2.2.2.1.2.2.2.2.2 with z | z
  · exact va_gets C.1 C.2.1 z hS C.2.2.2.1 (C.2.2.2.2.1 _ hw) (fun _ h => h) d (kk none C hM (okS_cons.mpr ⟨trivial, hs⟩) hl H locs ls hP hS hL)
  · exact va_gets C.1 C.2.1 z hS C.2.2.2.1 (C.2.2.2.2.1 _ hw) (fun _ h => h) d (kk (some (1999, 99)) C hM (okS_cons.mpr ⟨Or.inr (by decide), hs⟩) hl H locs ls hP hS hL)
theorem i2c_ok {a : Nat} (h : a < 256) : ((Int32.ofInt (a : Int)).toUInt32 % 65536).toInt32 = Int32.ofInt (a : Int) := by
  have : ∀ a, a < 256 → ((Int32.ofInt ((a : Nat) : Int)).toUInt32 % 65536).toInt32 = Int32.ofInt (a : Int) := by decide +kernel
  exact this a h
theorem r_i2c {a : Nat} (d : decode md.2.1 pc = .ok (.i2c, 1)) (h : a < 256) (kk : CW G K md n (pc + 1) lo (vI (a : Int) :: st) M Q) : CW G K md n pc lo (vI (a : Int) :: st) M Q := by
  intro C hM hs hl H locs ls hP hS hL
  exact lv_i2c C.1 C.2.1 d (i2c_ok h) (kk C hM hs hl H locs ls hP hS hL)
theorem cn_ok {a : Nat} (h : a < 128) : narrow .char (.int (Int32.ofInt (a : Int))) = .int (Int32.ofInt (a : Int)) ∧ narrow .byte (.int (Int32.ofInt (a : Int))) = .int (Int32.ofInt (a : Int)) := by
  have : ∀ a, a < 128 → narrow .char (.int (Int32.ofInt ((a : Nat) : Int))) = .int (Int32.ofInt (a : Int)) ∧ narrow .byte (.int (Int32.ofInt (a : Int))) = .int (Int32.ofInt (a : Int)) := by decide +kernel
  exact this a h
theorem r_nreturn {a : Nat} (d : decode md.2.1 pc = .ok (.ireturn, 1)) (hr : md.2.2.2 = some .char ∨ md.2.2.2 = some .byte) (ha : a < 128) (T : Q (some (vI (a : Int))) M) : CW G K md n pc lo [vI (a : Int)] M Q := by
  intro C hM hs hl H locs ls hP hS hL
  have h1 := okS_cons.mp hs
  rcases hr with hr | hr
  · exact W.zret C.1 C.2.1 (C.2.2.2.2.2.1.trans hr) (cn_ok ha).1 (q_end (r := some (vI (a : Int))) C hM (fun v e => by cases e; exact h1.1) hP hS T) hS.2.2 d C.2.2.2.2.2.2.1
  · exact W.zret C.1 C.2.1 (C.2.2.2.2.2.1.trans hr) (cn_ok ha).2 (q_end (r := some (vI (a : Int))) C hM (fun v e => by cases e; exact h1.1) hP hS T) hS.2.2 d C.2.2.2.2.2.2.1
/-- a method of String's own, called on a constant -/
def Mq (md : MD) (na : Nat) : Prop := Cond.instanceMethod md.1 ∈ gw ∧ Cond.selects md.1.cls md.1 md.1 ∈ gw ∧ Cond.initialized md.1.cls ∈ gw ∧ Cond.code md.1 md.2.1 md.2.2.1 md.2.2.2 ∈ gw ∧ (md.1.cls ≠ "java/lang/invoke/MethodHandle" ∧ md.1.cls ≠ "java/lang/invoke/VarHandle") ∧ (parseMethodDescriptor md.1.desc).map (fun d => d.parameters.length) = some na ∧ md.2.2.1 ≤ 100 ∧ md.1.cls = "java/lang/String"
theorem r_callSt {md' : MD} {idx j na : Nat} {as stk : List V} {Q1 : Int → Mem → Prop} (d : decode md.2.1 pc = .ok (.invokevirtual idx, 3)) (hl : Cond.methodLink md.1.cls idx md'.1 ∈ gw) (hm : Mq md' na) (hj : j < 19) (hn : as.length = na) (hk : stk = as.reverse ++ vO (1000 + j) :: st) (hw : (st.map vcat).sum ≤ 8) (h : OkI G n md' (vO (1000 + j) :: as) M Q1)
    (kk : ∀ (x : Int) (M1 : Mem), Q1 x M1 → CW G K md (n + 1) (pc + 3) lo (vI x :: st) M1 Q) : CW G K md (n + 1) pc lo stk M Q := by
  intro C hM hs hlo H locs ls hP hS hL
  subst hk
  obtain ⟨m1, m2, m3, m4, m5, m6, m7, m8⟩ := hm
  have hs1 : okS G as := fun v hv => hs v (List.mem_append_left _ (List.mem_reverse.mpr hv))
  have hs2 : okV G (vO (1000 + j)) := ok_str
  have hs3 : okS G st := fun v hv => hs v (List.mem_append_right _ (List.mem_cons_of_mem _ hv))
  have hts := C.2.2.2.2.1
  have hKU := C.2.2.2.2.2.2.2.1
  have hG := C.2.2.2.2.2.2.2.2
  have hMet := h hM (okS_cons.mpr ⟨hs2, hs1⟩) hG
  have hcw : CallW (rm (n + 1)) (ks K) (ka K) md.1.cls md'.1.cls idx md'.1 md'.2.1 md'.2.2.1 md'.2.2.2 (.code md'.1 md'.2.1 md'.2.2.1 md'.2.2.2 :: gw) (rm n) 0 0 na :=
    ⟨callB_of na hts (gw_good m4) rfl rfl rfl (hts _ m3) (hts _ hl) ⟨m5.1, m5.2, m6⟩ (room_ok m7), hts _ m1, hts _ m2⟩
  have hpre : PreV (ks K) H md'.1.cls (gp G (1000 + j, 99)) (va_Pc ((vO (1000 + j) :: as).map (cv (gp G))) (fun U => Pic G M U.heap ∧ KU G U)) (as.map (cv (gp G))) :=
    ⟨blind, by rw [m8]; exact vk_recv hKU.2.2.2.1 hj hS, fun U hU hW => ⟨rfl, by rw [hU]; exact hP, KU_moved hKU hW (by rw [hU]; exact hS)⟩⟩
  have hrun := va_runV (e := ke K) (below := kb K) (meth := kt K) (locs := locs) (cells := 0) (slots := 0) (rest := st.map (cv (gp G))) (g := F0 (km K) pc ls ((as.reverse ++ vO (1000 + j) :: st).map (cv (gp G)))) ⟨C.1, C.2.1, C.2.2.1, C.2.2.2.1, hts⟩ hMet hcw hpre rfl (by rw [List.length_map]; exact hn) hL.1 (by show List.map _ _ = _; rw [List.map_append, List.map_reverse, List.map_cons]; rfl) (lv_room (by rw [sum_cat]; exact hw)) d ⟨Nat.le_refl _, Nat.le_refl _⟩
  refine w_call hrun hS (fun r M1 H1 locs1 g1 g2 g3 g4 g5 => ?_)
  obtain ⟨x, rfl, hx⟩ := g1
  exact kk x M1 hx C g2 (okS_cons.mpr ⟨g3 _ rfl, hs3⟩) hlo H1 locs1 ls g4 g5 hL
end STR
abbrev mJ0_length : MD := (yJ0_length_8abf5, cJ0_length_8abf5, 1, some .int)
abbrev mJ0_coder : MD := (yJ0_coder_7d493, cJ0_coder_7d493, 1, some .byte)
abbrev mJ0_isLatin1 : MD := (yJ0_isLatin1_aae02, cJ0_isLatin1_aae02, 1, some .boolean)
abbrev mJ0_charAt : MD := (yJ0_charAt_5068e, cJ0_charAt_5068e, 2, some .char)
abbrev mJ1_charAt : MD := (yJ1_charAt_3b067, cJ1_charAt_3b067, 2, some .char)
abbrev mJ0_checkIndex : MD := (yJ0_checkIndex_df160, cJ0_checkIndex_df160, 2, none)
abbrev mJ3_checkIndex : MD := (yJ3_checkIndex_8e157, cJ3_checkIndex_8e157, 3, some .int)
theorem iJ0_length : Mq mJ0_length 0 := ⟨gt2 (i := 228) (by decide +kernel) rfl, gt2 (i := 229) (by decide +kernel) rfl, gt1 (i := 11) (by decide +kernel) rfl, gt2 (i := 230) (by decide +kernel) rfl, ⟨by decide, by decide⟩, by decide +kernel, by decide, rfl⟩
theorem iJ0_coder : Mq mJ0_coder 0 := ⟨gt2 (i := 232) (by decide +kernel) rfl, gt2 (i := 233) (by decide +kernel) rfl, gt1 (i := 11) (by decide +kernel) rfl, gt2 (i := 234) (by decide +kernel) rfl, ⟨by decide, by decide⟩, by decide +kernel, by decide, rfl⟩
theorem iJ0_isLatin1 : Mq mJ0_isLatin1 0 := ⟨gt3 (i := 2) (by decide +kernel) rfl, gt3 (i := 3) (by decide +kernel) rfl, gt1 (i := 11) (by decide +kernel) rfl, gt3 (i := 4) (by decide +kernel) rfl, ⟨by decide, by decide⟩, by decide +kernel, by decide, rfl⟩
theorem iJ0_charAt : Mq mJ0_charAt 1 := ⟨gt2 (i := 238) (by decide +kernel) rfl, gt2 (i := 239) (by decide +kernel) rfl, gt1 (i := 11) (by decide +kernel) rfl, gt3 (i := 0) (by decide +kernel) rfl, ⟨by decide, by decide⟩, by decide +kernel, by decide, rfl⟩
theorem iJ1_charAt : Ms mJ1_charAt 2 := ⟨gt3 (i := 6) (by decide +kernel) rfl, gt1 (i := 12) (by decide +kernel) rfl, gt3 (i := 7) (by decide +kernel) rfl, ⟨by decide, by decide⟩, by decide +kernel, by decide⟩
theorem iJ0_checkIndex : Ms mJ0_checkIndex 2 := ⟨gt3 (i := 9) (by decide +kernel) rfl, gt1 (i := 11) (by decide +kernel) rfl, gt3 (i := 10) (by decide +kernel) rfl, ⟨by decide, by decide⟩, by decide +kernel, by decide⟩
theorem iJ3_checkIndex : Ms mJ3_checkIndex 3 := ⟨gt3 (i := 14) (by decide +kernel) rfl, gt1 (i := 13) (by decide +kernel) rfl, gt3 (i := 15) (by decide +kernel) rfl, ⟨by decide, by decide⟩, by decide +kernel, by decide⟩
theorem fJ0_9 : Cond.fieldLink RJ0 9 "java/lang/String" "value" "[B" ∈ gw := gt8 (i := 135) (by decide +kernel) rfl
theorem fJ0_15 : Cond.fieldLink RJ0 15 "java/lang/String" "coder" "B" ∈ gw := gt8 (i := 136) (by decide +kernel) rfl
theorem fJ0_38 : Cond.fieldLink RJ0 38 "java/lang/String" "COMPACT_STRINGS" "Z" ∈ gw := gt2 (i := 235) (by decide +kernel) rfl
theorem fJ0_1053 : Cond.fieldLink RJ0 1053 "jdk/internal/util/Preconditions" "SIOOBE_FORMATTER" "Ljava/util/function/BiFunction;" ∈ gw := gt3 (i := 11) (by decide +kernel) rfl
theorem lJ0_335 : Cond.methodLink RJ0 335 yJ0_coder_7d493 ∈ gw := gt2 (i := 231) (by decide +kernel) rfl
theorem lJ0_492 : Cond.methodLink RJ0 492 yJ0_isLatin1_aae02 ∈ gw := gt3 (i := 1) (by decide +kernel) rfl
theorem lJ0_495 : Cond.methodLink RJ0 495 yJ1_charAt_3b067 ∈ gw := gt3 (i := 5) (by decide +kernel) rfl
theorem lJ1_9 : Cond.methodLink RJ1 9 yJ0_checkIndex_df160 ∈ gw := gt3 (i := 8) (by decide +kernel) rfl
theorem lJ0_1059 : Cond.methodLink RJ0 1059 yJ3_checkIndex_8e157 ∈ gw := gt3 (i := 13) (by decide +kernel) rfl
section STC
variable {G : Gx} {n : Nat} {M : Mem} {Q : Int → Mem → Prop} {j : Nat}
theorem cJ_coder (hj : j < 19) (h : Q 0 M) : OkI G n mJ0_coder [vO (1000 + j)] M Q := by
  refine Ok_of (by decide) (Nat.le_of_ble_eq_true rfl) rfl (fun K => ?_)
  refine r_gsC dJ0_coder_7d493_0 fJ0_38 ?_
  refine r_if_eq (tgt := 13) dJ0_coder_7d493_3 (by decide) (fun z => absurd z (by decide)) (fun _ => ?_)
  refine r_aload_n dJ0_coder_7d493_6 rfl ?_
  refine r_strC dJ0_coder_7d493_7 fJ0_15 hj ?_
  refine r_goto (tgt := 14) dJ0_coder_7d493_10 (by decide) ?_
  exact r_nreturn (a := 0) dJ0_coder_7d493_14 (Or.inr rfl) (by decide) ⟨_, rfl, h⟩
theorem cJ_isLatin1 (hj : j < 19) (h : Q 1 M) : OkI G n mJ0_isLatin1 [vO (1000 + j)] M Q := by
  refine Ok_of (by decide) (Nat.le_of_ble_eq_true rfl) rfl (fun K => ?_)
  refine r_gsC dJ0_isLatin1_aae02_0 fJ0_38 ?_
  refine r_if_eq (tgt := 17) dJ0_isLatin1_aae02_3 (by decide) (fun z => absurd z (by decide)) (fun _ => ?_)
  refine r_aload_n dJ0_isLatin1_aae02_6 rfl ?_
  refine r_strC dJ0_isLatin1_aae02_7 fJ0_15 hj ?_
  refine r_if_ne (tgt := 17) dJ0_isLatin1_aae02_10 (by decide) (fun z => absurd rfl z) (fun _ => ?_)
  refine r_iconst dJ0_isLatin1_aae02_13 (by decide) ?_
  refine r_goto (tgt := 18) dJ0_isLatin1_aae02_14 (by decide) ?_
  exact r_zreturn dJ0_isLatin1_aae02_18 rfl (by decide) ⟨_, rfl, h⟩
theorem cJ_length (hj : j < 19) (h : Q ((sLn j : Nat) : Int) M) : OkI G (n + 1) mJ0_length [vO (1000 + j)] M Q := by
  refine Ok_of (by decide) (Nat.le_of_ble_eq_true rfl) rfl (fun K => ?_)
  refine r_aload_n dJ0_length_8abf5_0 rfl ?_
  refine r_strG dJ0_length_8abf5_1 fJ0_9 hj ?_
  refine r_strL dJ0_length_8abf5_4 hj ?_
  refine r_aload_n dJ0_length_8abf5_5 rfl ?_
  refine r_callSt (md' := mJ0_coder) (as := []) (j := j) (Q1 := fun x M1 => x = 0 ∧ M = M1) dJ0_length_8abf5_6 lJ0_335 iJ0_coder hj rfl rfl (Nat.le_of_ble_eq_true rfl) (cJ_coder hj ⟨rfl, rfl⟩) (fun x M1 hx => ?_)
  obtain ⟨rfl, rfl⟩ := hx
  refine r_ishr dJ0_length_8abf5_9 ?_
  rw [(s_ok hj).2.1]
  exact r_ireturn dJ0_length_8abf5_10 rfl ⟨_, rfl, h⟩
theorem cJ3_checkIndex {i l : Int} {q : Option (Nat × Nat)} (h0 : 0 ≤ i) (h1 : i < l) (h : Q i M) : OkI G n mJ3_checkIndex [vI i, vI l, vR q] M Q := by
  refine Ok_of (by decide) (Nat.le_of_ble_eq_true rfl) rfl (fun K => ?_)
  refine r_iload_n dJ3_checkIndex_8e157_0 rfl ?_
  refine r_if_lt (tgt := 9) dJ3_checkIndex_8e157_1 (by decide) (fun z => absurd z (by omega)) (fun _ => ?_)
  refine r_iload_n dJ3_checkIndex_8e157_4 rfl ?_
  refine r_iload_n dJ3_checkIndex_8e157_5 rfl ?_
  refine r_icmp_lt (tgt := 16) dJ3_checkIndex_8e157_6 (by decide) (fun _ => ?_) (fun z => absurd h1 z)
  refine r_iload_n dJ3_checkIndex_8e157_16 rfl ?_
  exact r_ireturn dJ3_checkIndex_8e157_17 rfl ⟨_, rfl, h⟩
theorem cJ0_checkIndex {Q : Mem → Prop} {i l : Int} (h0 : 0 ≤ i) (h1 : i < l) (h : Q M) : OkV G (n + 1) mJ0_checkIndex [vI i, vI l] M Q := by
  refine Ok_of (by decide) (Nat.le_of_ble_eq_true rfl) rfl (fun K => ?_)
  refine r_iload_n dJ0_checkIndex_df160_0 rfl ?_
  refine r_iload_n dJ0_checkIndex_df160_1 rfl ?_
  refine r_gsF dJ0_checkIndex_df160_2 fJ0_1053 (fun q => ?_)
  refine r_callSI (md' := mJ3_checkIndex) (as := [vI i, vI l, vR q]) (Q1 := fun _ M1 => M = M1) dJ0_checkIndex_df160_5 lJ0_1059 iJ3_checkIndex rfl rfl (Nat.le_of_ble_eq_true rfl) (cJ3_checkIndex h0 h1 rfl) (fun x M1 hx => ?_)
  subst hx
  refine r_pop dJ0_checkIndex_df160_8 rfl ?_
  exact r_return dJ0_checkIndex_df160_9 rfl ⟨rfl, h⟩
theorem cJ1_charAt {k : Nat} (hj : j < 19) (hk : k < sLn j) (h : Q (sBy j k) M) : OkI G (n + 2) mJ1_charAt [vA (1000 + j) 98, vI (k : Int)] M Q := by
  obtain ⟨a1, a2, a3, a4, a5⟩ := s_ok hj
  obtain ⟨b1, b2, b3⟩ := a5 k hk
  refine Ok_of (by decide) (Nat.le_of_ble_eq_true rfl) rfl (fun K => ?_)
  refine r_iload_n dJ1_charAt_3b067_0 rfl ?_
  refine r_aload_n dJ1_charAt_3b067_1 rfl ?_
  refine r_strL dJ1_charAt_3b067_2 hj ?_
  refine r_callSV (md' := mJ0_checkIndex) (as := [vI (k : Int), vI ((sLn j : Nat) : Int)]) (Q1 := fun M1 => M = M1) dJ1_charAt_3b067_3 lJ1_9 iJ0_checkIndex rfl rfl (Nat.le_of_ble_eq_true rfl) (cJ0_checkIndex (by omega) (by omega) rfl) (fun M1 hx => ?_)
  subst hx
  refine r_aload_n dJ1_charAt_3b067_6 rfl ?_
  refine r_iload_n dJ1_charAt_3b067_7 rfl ?_
  refine r_strB dJ1_charAt_3b067_8 hj hk ?_
  refine r_sipush dJ1_charAt_3b067_9 (by decide) (by decide) ?_
  refine r_iand dJ1_charAt_3b067_12 ?_
  rw [bAnd255 (x := sBy j k) ⟨by omega, by omega⟩, show sBy j k % 256 = (((sBy j k).toNat : Nat) : Int) by omega]
  refine r_i2c dJ1_charAt_3b067_13 (by omega) ?_
  refine r_nreturn dJ1_charAt_3b067_14 (Or.inl rfl) (by omega) ⟨_, rfl, ?_⟩
  rw [show (((sBy j k).toNat : Nat) : Int) = sBy j k by omega]
  exact h
theorem cJ_charAt {k : Nat} (hj : j < 19) (hk : k < sLn j) (h : Q (sBy j k) M) : OkI G (n + 3) mJ0_charAt [vO (1000 + j), vI (k : Int)] M Q := by
  obtain ⟨a1, a2, a3, a4, a5⟩ := s_ok hj
  obtain ⟨b1, b2, b3⟩ := a5 k hk
  refine Ok_of (by decide) (Nat.le_of_ble_eq_true rfl) rfl (fun K => ?_)
  refine r_aload_n dJ0_charAt_5068e_0 rfl ?_
  refine r_callSt (md' := mJ0_isLatin1) (as := []) (j := j) (Q1 := fun x M1 => x = 1 ∧ M = M1) dJ0_charAt_5068e_1 lJ0_492 iJ0_isLatin1 hj rfl rfl (Nat.le_of_ble_eq_true rfl) (cJ_isLatin1 hj ⟨rfl, rfl⟩) (fun x M1 hx => ?_)
  obtain ⟨rfl, rfl⟩ := hx
  refine r_if_eq (tgt := 16) dJ0_charAt_5068e_4 (by decide) (fun z => absurd z (by decide)) (fun _ => ?_)
  refine r_aload_n dJ0_charAt_5068e_7 rfl ?_
  refine r_strG dJ0_charAt_5068e_8 fJ0_9 hj ?_
  refine r_iload_n dJ0_charAt_5068e_11 rfl ?_
  refine r_callSI (md' := mJ1_charAt) (as := [vA (1000 + j) 98, vI (k : Int)]) (Q1 := fun x M1 => x = sBy j k ∧ M = M1) dJ0_charAt_5068e_12 lJ0_495 iJ1_charAt rfl rfl (Nat.le_of_ble_eq_true rfl) (cJ1_charAt hj hk ⟨rfl, rfl⟩) (fun x M1 hx => ?_)
  obtain ⟨rfl, rfl⟩ := hx
  rw [show sBy j k = (((sBy j k).toNat : Nat) : Int) by omega]
  refine r_nreturn dJ0_charAt_5068e_15 (Or.inl rfl) (by omega) ⟨_, rfl, ?_⟩
  rw [show (((sBy j k).toNat : Nat) : Int) = sBy j k by omega]
  exact h
/-- the class's isWord -/
theorem c9_isWord {b : Nat → Int} {L f : Nat} (hj : j < 19) (T : Tk b L M f) (ht : wq b L f j → Q 1 M) (hf : ¬ wq b L f j → Q 0 M) : OkI G (n + 4) mX9_isWord [vO 2, vO (1000 + j)] M Q := by
  obtain ⟨a1, a2, a3, a4, a5⟩ := s_ok hj
  obtain ⟨t0, t1, t2, t3, t4, t5, t6, -⟩ := T
  have hbr := bh_rng (b := b) t3
  refine Ok_of (lo' := [some (vO 2), some (vO (1000 + j)), none, none]) (by decide) (Nat.le_of_ble_eq_true rfl) rfl (fun K => ?_)
  have no : ∀ {lo : List (Option V)}, ¬ wq b L f j → CW G K mX9_isWord (n + 4) 24 lo [] M (qI Q) := fun z => by
    refine r_iconst dX9_isWord_24 (by decide) ?_
    exact r_zreturn dX9_isWord_25 rfl (by decide) ⟨_, rfl, hf z⟩
  refine r_aload_n dX9_isWord_0 rfl ?_
  refine r_getI dX9_isWord_1 fX9_35 rfl tX9_2 ?_
  refine r_iconst dX9_isWord_4 (by decide) ?_
  rw [t4]
  refine r_icmp_ne (tgt := 24) dX9_isWord_5 (by decide) (fun z => no (fun q => z q.1)) (fun z => ?_)
  have hk1 : kd b L f = 1 := z
  have hbh : bh b L f = run pL b L f := by
    obtain ⟨w1, w2⟩ := kd_1.mp hk1
    unfold bh; rw [if_neg (by omega), if_pos w2]
  refine r_aload_n dX9_isWord_8 rfl ?_
  refine r_getI dX9_isWord_9 fX9_22 rfl tX9_4 ?_
  refine r_aload_n dX9_isWord_12 rfl ?_
  refine r_getI dX9_isWord_13 fX9_32 rfl tX9_3 ?_
  refine r_isub dX9_isWord_16 ?_
  rw [t5, t6, wrs (x := ((bh b L f : Nat) : Int) - (f : Int)) (by omega) (by omega)]
  refine r_aload_n dX9_isWord_17 rfl ?_
  refine r_callSt (md' := mJ0_length) (as := []) (j := j) (Q1 := fun x M1 => x = ((sLn j : Nat) : Int) ∧ M = M1) dX9_isWord_18 lX9_54 iJ0_length hj rfl rfl (Nat.le_of_ble_eq_true rfl) (cJ_length hj ⟨rfl, rfl⟩) (fun x M1 hx => ?_)
  obtain ⟨rfl, rfl⟩ := hx
  refine r_icmp_eq (tgt := 26) dX9_isWord_21 (by decide) (fun z => ?_) (fun z => no (fun q => z (by have := q.2.1; omega)))
  refine r_iconst dX9_isWord_26 (by decide) ?_
  refine r_istore_n dX9_isWord_27 (by decide) rfl ?_
  have hlen : run pL b L f = f + (wI j).length := by omega
  have loop : ∀ (c k : Nat) (v3 : Option V), sLn j - k ≤ c → k ≤ sLn j → (∀ i, i < k → b (f + i) = (wI j).getD i 0) → CW G K mX9_isWord (n + 4) 28 [some (vO 2), some (vO (1000 + j)), some (vI (k : Int)), v3] [] M (qI Q) := by
    intro c
    induction c with
    | zero =>
      intro k v3 hc hk hall
      have ek : k = sLn j := by omega
      refine r_iload_n dX9_isWord_28 rfl ?_
      refine r_aload_n dX9_isWord_29 rfl ?_
      refine r_callSt (md' := mJ0_length) (as := []) (j := j) (Q1 := fun x M1 => x = ((sLn j : Nat) : Int) ∧ M = M1) dX9_isWord_30 lX9_54 iJ0_length hj rfl rfl (Nat.le_of_ble_eq_true rfl) (cJ_length hj ⟨rfl, rfl⟩) (fun x M1 hx => ?_)
      obtain ⟨rfl, rfl⟩ := hx
      refine r_icmp_ge (tgt := 78) dX9_isWord_33 (by decide) (fun _ => ?_) (fun z => absurd (by omega) z)
      refine r_iconst dX9_isWord_78 (by decide) ?_
      exact r_zreturn dX9_isWord_79 rfl (by decide) ⟨_, rfl, ht ⟨hk1, hlen, fun i hi => hall i (by omega)⟩⟩
    | succ c ih =>
      intro k v3 hc hk hall
      refine r_iload_n dX9_isWord_28 rfl ?_
      refine r_aload_n dX9_isWord_29 rfl ?_
      refine r_callSt (md' := mJ0_length) (as := []) (j := j) (Q1 := fun x M1 => x = ((sLn j : Nat) : Int) ∧ M = M1) dX9_isWord_30 lX9_54 iJ0_length hj rfl rfl (Nat.le_of_ble_eq_true rfl) (cJ_length hj ⟨rfl, rfl⟩) (fun x M1 hx => ?_)
      obtain ⟨rfl, rfl⟩ := hx
      refine r_icmp_ge (tgt := 78) dX9_isWord_33 (by decide) (fun z => ?_) (fun z => ?_)
      · refine r_iconst dX9_isWord_78 (by decide) ?_
        exact r_zreturn dX9_isWord_79 rfl (by decide) ⟨_, rfl, ht ⟨hk1, hlen, fun i hi => hall i (by omega)⟩⟩
      · have hkl : k < sLn j := by omega
        have hfk : f + k < L := by
          have := run_le (p := pL) (b := b) (L := L) (i := f) t3
          omega
        refine r_aload_n dX9_isWord_36 rfl ?_
        refine r_getI dX9_isWord_37 fX9_32 rfl tX9_3 ?_
        refine r_iload_n dX9_isWord_40 rfl ?_
        refine r_iadd dX9_isWord_41 ?_
        rw [t5, wrs (x := (f : Int) + (k : Int)) (by omega) (by omega), show (f : Int) + (k : Int) = ((f + k : Nat) : Int) by omega]
        refine r_istore_n dX9_isWord_42 (by decide) rfl ?_
        refine r_iload_n dX9_isWord_43 rfl ?_
        refine r_if_lt (tgt := 70) dX9_isWord_44 (by decide) (fun z => absurd z (by omega)) (fun _ => ?_)
        refine r_iload_n dX9_isWord_47 rfl ?_
        refine r_aload_n dX9_isWord_48 rfl ?_
        refine r_getA dX9_isWord_49 fX9_9 rfl rfl ?_
        refine s_alen (z := 400) dX9_isWord_52 rfl rfl rfl ⟨by decide, by decide⟩ ?_
        refine r_icmp_ge (tgt := 70) dX9_isWord_53 (by decide) (fun z => absurd z (by omega)) (fun _ => ?_)
        refine r_aload_n dX9_isWord_56 rfl ?_
        refine r_getA dX9_isWord_57 fX9_9 rfl rfl ?_
        refine r_iload_n dX9_isWord_60 rfl ?_
        refine s_iald (N := 400) dX9_isWord_61 rfl rfl rfl ⟨by omega, by omega⟩ ?_
        rw [Int.toNat_natCast, t0]
        refine r_aload_n dX9_isWord_62 rfl ?_
        refine r_iload_n dX9_isWord_63 rfl ?_
        refine r_callSt (md' := mJ0_charAt) (as := [vI (k : Int)]) (j := j) (Q1 := fun x M1 => x = sBy j k ∧ M = M1) dX9_isWord_64 lX9_59 iJ0_charAt hj rfl rfl (Nat.le_of_ble_eq_true rfl) (cJ_charAt hj hkl ⟨rfl, rfl⟩) (fun x M1 hx => ?_)
        obtain ⟨rfl, rfl⟩ := hx
        refine r_icmp_eq (tgt := 72) dX9_isWord_67 (by decide) (fun z => ?_) (fun z => ?_)
        · refine r_iinc dX9_isWord_72 rfl (by decide) rfl ?_
          rw [wr_nat (j := k) (by omega)]
          refine r_goto (tgt := 28) dX9_isWord_75 (by decide) ?_
          refine ih (k + 1) _ (by omega) (by omega) (fun i hi => ?_)
          by_cases q : i = k
          · rw [q, z]; exact (a5 k hkl).1
          · exact hall i (by omega)
        · refine r_iconst dX9_isWord_70 (by decide) ?_
          exact r_zreturn dX9_isWord_71 rfl (by decide) ⟨_, rfl, hf (fun q => z (by rw [(a5 k hkl).1]; exact q.2.2 k (by omega)))⟩
  exact loop (sLn j) 0 _ (by omega) (by omega) (fun i hi => by omega)
end STC
