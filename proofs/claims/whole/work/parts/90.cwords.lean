/-! ===== words of the constructors ===== -/
/-- a final field's link, in its own class -/
def Ff (own : String) (idx ci k : Nat) (ty : FieldType) : Prop := ∃ (C : String) (T : u_T) (N : Nat) (tf : Nat → FieldType), vwCl[ci]? = some (C, T, N) ∧ k < N ∧ (∀ w ∈ u_ws C T N, w ∈ gw) ∧ Cond.fieldLink own idx (T k).1 (T k).2.1 (T k).2.2.1 ∈ gw ∧ (∀ j, j < N → parseFieldDescriptor (T j).2.2.1 = some (tf j)) ∧ (∀ a, a < N → ∀ b, b < N → a ≠ b → (T a).2.1 ≠ (T b).2.1) ∧ (T k).2.2.2 = true ∧ (T k).1 = own ∧ parseFieldDescriptor (T k).2.2.1 = some ty
theorem wA_int : Cond.arrayClass .int ∈ gw := gt1 (i := 69) (by decide +kernel) rfl
theorem wA_long : Cond.arrayClass .long ∈ gw := gt3 (i := 167) (by decide +kernel) rfl
theorem wA_byte : Cond.arrayClass .byte ∈ gw := gt3 (i := 123) (by decide +kernel) rfl
theorem wA_boolean : Cond.arrayClass .boolean ∈ gw := gt6 (i := 123) (by decide +kernel) rfl
theorem wO_i : Cond.instanceMethod objectInit ∈ gw := gt1 (i := 28) (by decide +kernel) rfl
theorem wO_c : Cond.code objectInit ⟨#[0xb1]⟩ 1 none ∈ gw := gt1 (i := 29) (by decide +kernel) rfl
theorem wO_0 : Cond.methodLink RX0 3 objectInit ∈ gw := gt1 (i := 188) (by decide +kernel) rfl
theorem qX0_9 : Ff RX0 9 0 2 (.array .int) := ⟨RX0, TX0, 6, tyX0, rfl, by decide, gX0, gt1 (i := 192) (by decide +kernel) rfl, tyX0_ok, nmX0, rfl, rfl, (by decide +kernel)⟩
theorem qX0_15 : Ff RX0 15 0 3 (.array .int) := ⟨RX0, TX0, 6, tyX0, rfl, by decide, gX0, gt1 (i := 194) (by decide +kernel) rfl, tyX0_ok, nmX0, rfl, rfl, (by decide +kernel)⟩
theorem qX0_18 : Ff RX0 18 0 4 (.array .int) := ⟨RX0, TX0, 6, tyX0, rfl, by decide, gX0, gt1 (i := 196) (by decide +kernel) rfl, tyX0_ok, nmX0, rfl, rfl, (by decide +kernel)⟩
theorem qX0_21 : Ff RX0 21 0 5 (.array .int) := ⟨RX0, TX0, 6, tyX0, rfl, by decide, gX0, gt1 (i := 198) (by decide +kernel) rfl, tyX0_ok, nmX0, rfl, rfl, (by decide +kernel)⟩
theorem wO_1 : Cond.methodLink RX1 3 objectInit ∈ gw := gt1 (i := 75) (by decide +kernel) rfl
theorem qX1_9 : Ff RX1 9 1 7 (.array .int) := ⟨RX1, TX1, 15, tyX1, rfl, by decide, gX1, gt1 (i := 107) (by decide +kernel) rfl, tyX1_ok, nmX1, rfl, rfl, (by decide +kernel)⟩
theorem qX1_15 : Ff RX1 15 1 8 (.array .int) := ⟨RX1, TX1, 15, tyX1, rfl, by decide, gX1, gt1 (i := 111) (by decide +kernel) rfl, tyX1_ok, nmX1, rfl, rfl, (by decide +kernel)⟩
theorem qX1_18 : Ff RX1 18 1 9 (.array .int) := ⟨RX1, TX1, 15, tyX1, rfl, by decide, gX1, gt1 (i := 116) (by decide +kernel) rfl, tyX1_ok, nmX1, rfl, rfl, (by decide +kernel)⟩
theorem qX1_21 : Ff RX1 21 1 10 (.array .int) := ⟨RX1, TX1, 15, tyX1, rfl, by decide, gX1, gt1 (i := 121) (by decide +kernel) rfl, tyX1_ok, nmX1, rfl, rfl, (by decide +kernel)⟩
theorem qX1_24 : Ff RX1 24 1 11 (.array .int) := ⟨RX1, TX1, 15, tyX1, rfl, by decide, gX1, gt1 (i := 127) (by decide +kernel) rfl, tyX1_ok, nmX1, rfl, rfl, (by decide +kernel)⟩
theorem qX1_27 : Ff RX1 27 1 12 (.array .int) := ⟨RX1, TX1, 15, tyX1, rfl, by decide, gX1, gt1 (i := 130) (by decide +kernel) rfl, tyX1_ok, nmX1, rfl, rfl, (by decide +kernel)⟩
theorem qX1_30 : Ff RX1 30 1 13 (.array .int) := ⟨RX1, TX1, 15, tyX1, rfl, by decide, gX1, gt1 (i := 134) (by decide +kernel) rfl, tyX1_ok, nmX1, rfl, rfl, (by decide +kernel)⟩
theorem qX1_33 : Ff RX1 33 1 14 (.array .int) := ⟨RX1, TX1, 15, tyX1, rfl, by decide, gX1, gt1 (i := 138) (by decide +kernel) rfl, tyX1_ok, nmX1, rfl, rfl, (by decide +kernel)⟩
theorem wO_2 : Cond.methodLink RX2 3 objectInit ∈ gw := gt2 (i := 177) (by decide +kernel) rfl
theorem qX2_9 : Ff RX2 9 2 0 (.object "DownOnly$Tape") := ⟨RX2, TX2, 3, tyX2, rfl, by decide, gX2, gt2 (i := 178) (by decide +kernel) rfl, tyX2_ok, nmX2, rfl, rfl, (by decide +kernel)⟩
theorem qX2_15 : Ff RX2 15 2 1 (.object "DownOnly$House") := ⟨RX2, TX2, 3, tyX2, rfl, by decide, gX2, gt2 (i := 179) (by decide +kernel) rfl, tyX2_ok, nmX2, rfl, rfl, (by decide +kernel)⟩
theorem wO_3 : Cond.methodLink RX3 3 objectInit ∈ gw := gt1 (i := 218) (by decide +kernel) rfl
theorem qX3_9 : Ff RX3 9 3 5 (.array .int) := ⟨RX3, TX3, 16, tyX3, rfl, by decide, gX3, gt1 (i := 233) (by decide +kernel) rfl, tyX3_ok, nmX3, rfl, rfl, (by decide +kernel)⟩
theorem qX3_15 : Ff RX3 15 3 6 (.array .int) := ⟨RX3, TX3, 16, tyX3, rfl, by decide, gX3, gt1 (i := 235) (by decide +kernel) rfl, tyX3_ok, nmX3, rfl, rfl, (by decide +kernel)⟩
theorem qX3_18 : Ff RX3 18 3 7 (.array .int) := ⟨RX3, TX3, 16, tyX3, rfl, by decide, gX3, gt1 (i := 237) (by decide +kernel) rfl, tyX3_ok, nmX3, rfl, rfl, (by decide +kernel)⟩
theorem qX3_21 : Ff RX3 21 3 8 (.array .int) := ⟨RX3, TX3, 16, tyX3, rfl, by decide, gX3, gt1 (i := 239) (by decide +kernel) rfl, tyX3_ok, nmX3, rfl, rfl, (by decide +kernel)⟩
theorem qX3_24 : Ff RX3 24 3 9 (.array .int) := ⟨RX3, TX3, 16, tyX3, rfl, by decide, gX3, gt2 (i := 1) (by decide +kernel) rfl, tyX3_ok, nmX3, rfl, rfl, (by decide +kernel)⟩
theorem qX3_27 : Ff RX3 27 3 10 (.array .int) := ⟨RX3, TX3, 16, tyX3, rfl, by decide, gX3, gt2 (i := 3) (by decide +kernel) rfl, tyX3_ok, nmX3, rfl, rfl, (by decide +kernel)⟩
theorem qX3_30 : Ff RX3 30 3 11 (.array .int) := ⟨RX3, TX3, 16, tyX3, rfl, by decide, gX3, gt2 (i := 5) (by decide +kernel) rfl, tyX3_ok, nmX3, rfl, rfl, (by decide +kernel)⟩
theorem qX3_33 : Ff RX3 33 3 12 (.array .int) := ⟨RX3, TX3, 16, tyX3, rfl, by decide, gX3, gt2 (i := 7) (by decide +kernel) rfl, tyX3_ok, nmX3, rfl, rfl, (by decide +kernel)⟩
theorem qX3_36 : Ff RX3 36 3 13 (.array .int) := ⟨RX3, TX3, 16, tyX3, rfl, by decide, gX3, gt2 (i := 10) (by decide +kernel) rfl, tyX3_ok, nmX3, rfl, rfl, (by decide +kernel)⟩
theorem qX3_39 : Ff RX3 39 3 14 (.array .int) := ⟨RX3, TX3, 16, tyX3, rfl, by decide, gX3, gt2 (i := 12) (by decide +kernel) rfl, tyX3_ok, nmX3, rfl, rfl, (by decide +kernel)⟩
theorem qX3_42 : Ff RX3 42 3 15 (.array .int) := ⟨RX3, TX3, 16, tyX3, rfl, by decide, gX3, gt2 (i := 13) (by decide +kernel) rfl, tyX3_ok, nmX3, rfl, rfl, (by decide +kernel)⟩
theorem wO_4 : Cond.methodLink RX4 3 objectInit ∈ gw := gt5 (i := 5) (by decide +kernel) rfl
theorem qX4_12 : Ff RX4 12 4 0 (.object "DownOnly$Reach") := ⟨RX4, TX4, 5, tyX4, rfl, by decide, gX4, gt5 (i := 8) (by decide +kernel) rfl, tyX4_ok, nmX4, rfl, rfl, (by decide +kernel)⟩
theorem qX4_18 : Ff RX4 18 4 1 (.array .int) := ⟨RX4, TX4, 5, tyX4, rfl, by decide, gX4, gt5 (i := 9) (by decide +kernel) rfl, tyX4_ok, nmX4, rfl, rfl, (by decide +kernel)⟩
theorem wO_5 : Cond.methodLink RX5 3 objectInit ∈ gw := gt2 (i := 70) (by decide +kernel) rfl
theorem qX5_9 : Ff RX5 9 5 0 (.array .int) := ⟨RX5, TX5, 1, tyX5, rfl, by decide, gX5, gt2 (i := 71) (by decide +kernel) rfl, tyX5_ok, nmX5, rfl, rfl, (by decide +kernel)⟩
theorem wO_6 : Cond.methodLink RX6 3 objectInit ∈ gw := gt3 (i := 132) (by decide +kernel) rfl
theorem qX6_11 : Ff RX6 11 6 1 (.array .int) := ⟨RX6, TX6, 8, tyX6, rfl, by decide, gX6, gt3 (i := 136) (by decide +kernel) rfl, tyX6_ok, nmX6, rfl, rfl, (by decide +kernel)⟩
theorem qX6_15 : Ff RX6 15 6 2 (.array .int) := ⟨RX6, TX6, 8, tyX6, rfl, by decide, gX6, gt3 (i := 139) (by decide +kernel) rfl, tyX6_ok, nmX6, rfl, rfl, (by decide +kernel)⟩
theorem qX6_18 : Ff RX6 18 6 3 (.array .int) := ⟨RX6, TX6, 8, tyX6, rfl, by decide, gX6, gt3 (i := 142) (by decide +kernel) rfl, tyX6_ok, nmX6, rfl, rfl, (by decide +kernel)⟩
theorem qX6_21 : Ff RX6 21 6 4 (.array .int) := ⟨RX6, TX6, 8, tyX6, rfl, by decide, gX6, gt3 (i := 144) (by decide +kernel) rfl, tyX6_ok, nmX6, rfl, rfl, (by decide +kernel)⟩
theorem qX6_24 : Ff RX6 24 6 5 (.array .int) := ⟨RX6, TX6, 8, tyX6, rfl, by decide, gX6, gt3 (i := 146) (by decide +kernel) rfl, tyX6_ok, nmX6, rfl, rfl, (by decide +kernel)⟩
theorem qX6_27 : Ff RX6 27 6 7 (.array .long) := ⟨RX6, TX6, 8, tyX6, rfl, by decide, gX6, gt3 (i := 149) (by decide +kernel) rfl, tyX6_ok, nmX6, rfl, rfl, (by decide +kernel)⟩
theorem wO_7 : Cond.methodLink RX7 3 objectInit ∈ gw := gt3 (i := 173) (by decide +kernel) rfl
theorem qX7_9 : Ff RX7 9 7 0 (.object "DownOnly$Tape") := ⟨RX7, TX7, 4, tyX7, rfl, by decide, gX7, gt3 (i := 174) (by decide +kernel) rfl, tyX7_ok, nmX7, rfl, rfl, (by decide +kernel)⟩
theorem qX7_15 : Ff RX7 15 7 1 (.object "DownOnly$Rule") := ⟨RX7, TX7, 4, tyX7, rfl, by decide, gX7, gt3 (i := 175) (by decide +kernel) rfl, tyX7_ok, nmX7, rfl, rfl, (by decide +kernel)⟩
theorem wO_8 : Cond.methodLink RX8 1 objectInit ∈ gw := gt1 (i := 180) (by decide +kernel) rfl
theorem qX8_10 : Ff RX8 10 8 0 (.object "DownOnly$House") := ⟨RX8, TX8, 3, tyX8, rfl, by decide, gX8, gt2 (i := 47) (by decide +kernel) rfl, tyX8_ok, nmX8, rfl, rfl, (by decide +kernel)⟩
theorem qX8_19 : Ff RX8 19 8 1 (.object "DownOnly$Day") := ⟨RX8, TX8, 3, tyX8, rfl, by decide, gX8, gt2 (i := 50) (by decide +kernel) rfl, tyX8_ok, nmX8, rfl, rfl, (by decide +kernel)⟩
theorem qX8_26 : Ff RX8 26 8 2 (.object "DownOnly$Lists") := ⟨RX8, TX8, 3, tyX8, rfl, by decide, gX8, gt2 (i := 52) (by decide +kernel) rfl, tyX8_ok, nmX8, rfl, rfl, (by decide +kernel)⟩
theorem wO_9 : Cond.methodLink RX9 3 objectInit ∈ gw := gt1 (i := 35) (by decide +kernel) rfl
theorem qX9_9 : Ff RX9 9 9 0 (.array .int) := ⟨RX9, TX9, 8, tyX9, rfl, by decide, gX9, gt1 (i := 36) (by decide +kernel) rfl, tyX9_ok, nmX9, rfl, rfl, (by decide +kernel)⟩
theorem wO_10 : Cond.methodLink RX10 3 objectInit ∈ gw := gt2 (i := 80) (by decide +kernel) rfl
theorem qX10_9 : Ff RX10 9 10 0 (.array .int) := ⟨RX10, TX10, 6, tyX10, rfl, by decide, gX10, gt2 (i := 81) (by decide +kernel) rfl, tyX10_ok, nmX10, rfl, rfl, (by decide +kernel)⟩
theorem wO_11 : Cond.methodLink RX11 1 objectInit ∈ gw := gt1 (i := 27) (by decide +kernel) rfl
theorem qX11_10 : Ff RX11 10 11 0 (.object "DownOnly$Tape") := ⟨RX11, TX11, 17, tyX11, rfl, by decide, gX11, gt2 (i := 104) (by decide +kernel) rfl, tyX11_ok, nmX11, rfl, rfl, (by decide +kernel)⟩
theorem qX11_19 : Ff RX11 19 11 1 (.object "DownOnly$House") := ⟨RX11, TX11, 17, tyX11, rfl, by decide, gX11, gt2 (i := 105) (by decide +kernel) rfl, tyX11_ok, nmX11, rfl, rfl, (by decide +kernel)⟩
theorem qX11_25 : Ff RX11 25 11 2 (.array (.object "DownOnly$Rule")) := ⟨RX11, TX11, 17, tyX11, rfl, by decide, gX11, gt2 (i := 106) (by decide +kernel) rfl, tyX11_ok, nmX11, rfl, rfl, (by decide +kernel)⟩
theorem qX11_32 : Ff RX11 32 11 4 (.object "DownOnly$State") := ⟨RX11, TX11, 17, tyX11, rfl, by decide, gX11, gt2 (i := 108) (by decide +kernel) rfl, tyX11_ok, nmX11, rfl, rfl, (by decide +kernel)⟩
theorem qX11_36 : Ff RX11 36 11 5 (.array (.object "DownOnly$State")) := ⟨RX11, TX11, 17, tyX11, rfl, by decide, gX11, gt2 (i := 109) (by decide +kernel) rfl, tyX11_ok, nmX11, rfl, rfl, (by decide +kernel)⟩
theorem qX11_43 : Ff RX11 43 11 6 (.object "DownOnly$Day") := ⟨RX11, TX11, 17, tyX11, rfl, by decide, gX11, gt2 (i := 110) (by decide +kernel) rfl, tyX11_ok, nmX11, rfl, rfl, (by decide +kernel)⟩
theorem qX11_50 : Ff RX11 50 11 7 (.object "DownOnly$Reach") := ⟨RX11, TX11, 17, tyX11, rfl, by decide, gX11, gt2 (i := 111) (by decide +kernel) rfl, tyX11_ok, nmX11, rfl, rfl, (by decide +kernel)⟩
theorem qX11_54 : Ff RX11 54 11 8 (.object "DownOnly$Reach") := ⟨RX11, TX11, 17, tyX11, rfl, by decide, gX11, gt2 (i := 112) (by decide +kernel) rfl, tyX11_ok, nmX11, rfl, rfl, (by decide +kernel)⟩
theorem qX11_60 : Ff RX11 60 11 9 (.object "DownOnly$Walk") := ⟨RX11, TX11, 17, tyX11, rfl, by decide, gX11, gt2 (i := 113) (by decide +kernel) rfl, tyX11_ok, nmX11, rfl, rfl, (by decide +kernel)⟩
theorem qX11_64 : Ff RX11 64 11 11 (.array .int) := ⟨RX11, TX11, 17, tyX11, rfl, by decide, gX11, gt2 (i := 115) (by decide +kernel) rfl, tyX11_ok, nmX11, rfl, rfl, (by decide +kernel)⟩
theorem qX11_68 : Ff RX11 68 11 12 (.array .int) := ⟨RX11, TX11, 17, tyX11, rfl, by decide, gX11, gt2 (i := 116) (by decide +kernel) rfl, tyX11_ok, nmX11, rfl, rfl, (by decide +kernel)⟩
theorem qX11_71 : Ff RX11 71 11 13 (.array .int) := ⟨RX11, TX11, 17, tyX11, rfl, by decide, gX11, gt2 (i := 117) (by decide +kernel) rfl, tyX11_ok, nmX11, rfl, rfl, (by decide +kernel)⟩
theorem qX11_74 : Ff RX11 74 11 14 (.array .int) := ⟨RX11, TX11, 17, tyX11, rfl, by decide, gX11, gt2 (i := 118) (by decide +kernel) rfl, tyX11_ok, nmX11, rfl, rfl, (by decide +kernel)⟩
theorem qX11_77 : Ff RX11 77 11 15 (.array .int) := ⟨RX11, TX11, 17, tyX11, rfl, by decide, gX11, gt2 (i := 119) (by decide +kernel) rfl, tyX11_ok, nmX11, rfl, rfl, (by decide +kernel)⟩
theorem qX11_80 : Ff RX11 80 11 16 (.array .int) := ⟨RX11, TX11, 17, tyX11, rfl, by decide, gX11, gt2 (i := 120) (by decide +kernel) rfl, tyX11_ok, nmX11, rfl, rfl, (by decide +kernel)⟩
theorem wO_12 : Cond.methodLink RX12 1 objectInit ∈ gw := gt5 (i := 220) (by decide +kernel) rfl
theorem qX12_7 : Ff RX12 7 12 0 (.array .byte) := ⟨RX12, TX12, 47, tyX12, rfl, by decide, gX12, gt5 (i := 221) (by decide +kernel) rfl, tyX12_ok, nmX12, rfl, rfl, (by decide +kernel)⟩
theorem qX12_13 : Ff RX12 13 12 3 (.array .int) := ⟨RX12, TX12, 47, tyX12, rfl, by decide, gX12, gt5 (i := 224) (by decide +kernel) rfl, tyX12_ok, nmX12, rfl, rfl, (by decide +kernel)⟩
theorem qX12_17 : Ff RX12 17 12 4 (.array .int) := ⟨RX12, TX12, 47, tyX12, rfl, by decide, gX12, gt5 (i := 225) (by decide +kernel) rfl, tyX12_ok, nmX12, rfl, rfl, (by decide +kernel)⟩
theorem qX12_20 : Ff RX12 20 12 5 (.array .int) := ⟨RX12, TX12, 47, tyX12, rfl, by decide, gX12, gt5 (i := 226) (by decide +kernel) rfl, tyX12_ok, nmX12, rfl, rfl, (by decide +kernel)⟩
theorem qX12_23 : Ff RX12 23 12 6 (.array .int) := ⟨RX12, TX12, 47, tyX12, rfl, by decide, gX12, gt5 (i := 227) (by decide +kernel) rfl, tyX12_ok, nmX12, rfl, rfl, (by decide +kernel)⟩
theorem qX12_26 : Ff RX12 26 12 10 (.array .int) := ⟨RX12, TX12, 47, tyX12, rfl, by decide, gX12, gt5 (i := 231) (by decide +kernel) rfl, tyX12_ok, nmX12, rfl, rfl, (by decide +kernel)⟩
theorem qX12_29 : Ff RX12 29 12 11 (.array .int) := ⟨RX12, TX12, 47, tyX12, rfl, by decide, gX12, gt5 (i := 232) (by decide +kernel) rfl, tyX12_ok, nmX12, rfl, rfl, (by decide +kernel)⟩
theorem qX12_32 : Ff RX12 32 12 12 (.array .int) := ⟨RX12, TX12, 47, tyX12, rfl, by decide, gX12, gt5 (i := 233) (by decide +kernel) rfl, tyX12_ok, nmX12, rfl, rfl, (by decide +kernel)⟩
theorem qX12_35 : Ff RX12 35 12 13 (.array .int) := ⟨RX12, TX12, 47, tyX12, rfl, by decide, gX12, gt5 (i := 234) (by decide +kernel) rfl, tyX12_ok, nmX12, rfl, rfl, (by decide +kernel)⟩
theorem qX12_38 : Ff RX12 38 12 21 (.array .int) := ⟨RX12, TX12, 47, tyX12, rfl, by decide, gX12, gt6 (i := 2) (by decide +kernel) rfl, tyX12_ok, nmX12, rfl, rfl, (by decide +kernel)⟩
theorem qX12_41 : Ff RX12 41 12 23 (.array .long) := ⟨RX12, TX12, 47, tyX12, rfl, by decide, gX12, gt6 (i := 4) (by decide +kernel) rfl, tyX12_ok, nmX12, rfl, rfl, (by decide +kernel)⟩
theorem qX12_45 : Ff RX12 45 12 25 (.array .long) := ⟨RX12, TX12, 47, tyX12, rfl, by decide, gX12, gt6 (i := 6) (by decide +kernel) rfl, tyX12_ok, nmX12, rfl, rfl, (by decide +kernel)⟩
theorem qX12_48 : Ff RX12 48 12 26 (.array .int) := ⟨RX12, TX12, 47, tyX12, rfl, by decide, gX12, gt6 (i := 7) (by decide +kernel) rfl, tyX12_ok, nmX12, rfl, rfl, (by decide +kernel)⟩
theorem qX12_51 : Ff RX12 51 12 27 (.array .int) := ⟨RX12, TX12, 47, tyX12, rfl, by decide, gX12, gt6 (i := 8) (by decide +kernel) rfl, tyX12_ok, nmX12, rfl, rfl, (by decide +kernel)⟩
theorem qX12_54 : Ff RX12 54 12 28 (.array .int) := ⟨RX12, TX12, 47, tyX12, rfl, by decide, gX12, gt6 (i := 9) (by decide +kernel) rfl, tyX12_ok, nmX12, rfl, rfl, (by decide +kernel)⟩
theorem qX12_57 : Ff RX12 57 12 29 (.array .boolean) := ⟨RX12, TX12, 47, tyX12, rfl, by decide, gX12, gt6 (i := 10) (by decide +kernel) rfl, tyX12_ok, nmX12, rfl, rfl, (by decide +kernel)⟩
theorem qX12_61 : Ff RX12 61 12 30 (.array .int) := ⟨RX12, TX12, 47, tyX12, rfl, by decide, gX12, gt6 (i := 11) (by decide +kernel) rfl, tyX12_ok, nmX12, rfl, rfl, (by decide +kernel)⟩
theorem qX12_64 : Ff RX12 64 12 31 (.array .int) := ⟨RX12, TX12, 47, tyX12, rfl, by decide, gX12, gt6 (i := 12) (by decide +kernel) rfl, tyX12_ok, nmX12, rfl, rfl, (by decide +kernel)⟩
theorem qX12_67 : Ff RX12 67 12 32 (.array .int) := ⟨RX12, TX12, 47, tyX12, rfl, by decide, gX12, gt6 (i := 13) (by decide +kernel) rfl, tyX12_ok, nmX12, rfl, rfl, (by decide +kernel)⟩
theorem qX12_70 : Ff RX12 70 12 33 (.array .int) := ⟨RX12, TX12, 47, tyX12, rfl, by decide, gX12, gt6 (i := 14) (by decide +kernel) rfl, tyX12_ok, nmX12, rfl, rfl, (by decide +kernel)⟩
theorem qX12_73 : Ff RX12 73 12 34 (.array .int) := ⟨RX12, TX12, 47, tyX12, rfl, by decide, gX12, gt6 (i := 15) (by decide +kernel) rfl, tyX12_ok, nmX12, rfl, rfl, (by decide +kernel)⟩
theorem qX12_76 : Ff RX12 76 12 35 (.array .int) := ⟨RX12, TX12, 47, tyX12, rfl, by decide, gX12, gt6 (i := 16) (by decide +kernel) rfl, tyX12_ok, nmX12, rfl, rfl, (by decide +kernel)⟩
theorem qX12_79 : Ff RX12 79 12 36 (.array .int) := ⟨RX12, TX12, 47, tyX12, rfl, by decide, gX12, gt6 (i := 17) (by decide +kernel) rfl, tyX12_ok, nmX12, rfl, rfl, (by decide +kernel)⟩
theorem qX12_82 : Ff RX12 82 12 37 (.array .int) := ⟨RX12, TX12, 47, tyX12, rfl, by decide, gX12, gt6 (i := 18) (by decide +kernel) rfl, tyX12_ok, nmX12, rfl, rfl, (by decide +kernel)⟩
theorem qX12_85 : Ff RX12 85 12 38 (.array .int) := ⟨RX12, TX12, 47, tyX12, rfl, by decide, gX12, gt6 (i := 19) (by decide +kernel) rfl, tyX12_ok, nmX12, rfl, rfl, (by decide +kernel)⟩
theorem qX12_88 : Ff RX12 88 12 40 (.array .int) := ⟨RX12, TX12, 47, tyX12, rfl, by decide, gX12, gt6 (i := 21) (by decide +kernel) rfl, tyX12_ok, nmX12, rfl, rfl, (by decide +kernel)⟩
theorem qX12_91 : Ff RX12 91 12 41 (.array .int) := ⟨RX12, TX12, 47, tyX12, rfl, by decide, gX12, gt6 (i := 22) (by decide +kernel) rfl, tyX12_ok, nmX12, rfl, rfl, (by decide +kernel)⟩
theorem qX12_94 : Ff RX12 94 12 42 (.array .int) := ⟨RX12, TX12, 47, tyX12, rfl, by decide, gX12, gt6 (i := 23) (by decide +kernel) rfl, tyX12_ok, nmX12, rfl, rfl, (by decide +kernel)⟩
theorem qX12_97 : Ff RX12 97 12 43 (.array .int) := ⟨RX12, TX12, 47, tyX12, rfl, by decide, gX12, gt6 (i := 24) (by decide +kernel) rfl, tyX12_ok, nmX12, rfl, rfl, (by decide +kernel)⟩
theorem qX12_100 : Ff RX12 100 12 44 (.array .int) := ⟨RX12, TX12, 47, tyX12, rfl, by decide, gX12, gt6 (i := 25) (by decide +kernel) rfl, tyX12_ok, nmX12, rfl, rfl, (by decide +kernel)⟩
theorem qX12_103 : Ff RX12 103 12 45 (.array .int) := ⟨RX12, TX12, 47, tyX12, rfl, by decide, gX12, gt6 (i := 26) (by decide +kernel) rfl, tyX12_ok, nmX12, rfl, rfl, (by decide +kernel)⟩
theorem qX12_106 : Ff RX12 106 12 46 (.array .boolean) := ⟨RX12, TX12, 47, tyX12, rfl, by decide, gX12, gt6 (i := 27) (by decide +kernel) rfl, tyX12_ok, nmX12, rfl, rfl, (by decide +kernel)⟩
