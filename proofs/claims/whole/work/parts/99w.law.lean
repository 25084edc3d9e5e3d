/-! ===== the law, case by case ===== -/
theorem lL_143 : Cond.methodLink RL 143 yX12_back ∈ gw := gt8 (i := 131) (by decide +kernel) rfl
theorem lL_140 : Cond.methodLink RL 140 yX11_back ∈ gw := gt5 (i := 211) (by decide +kernel) rfl
theorem lL_139 : Cond.methodLink RL 139 yX12_image ∈ gw := gt8 (i := 126) (by decide +kernel) rfl
theorem lL_136 : Cond.methodLink RL 136 yX11_image ∈ gw := gt5 (i := 197) (by decide +kernel) rfl
theorem lL_135 : Cond.methodLink RL 135 yX12_count ∈ gw := gt8 (i := 122) (by decide +kernel) rfl
theorem lL_132 : Cond.methodLink RL 132 yX11_count ∈ gw := gt5 (i := 193) (by decide +kernel) rfl
theorem lL_131 : Cond.methodLink RL 131 yX12_drawn ∈ gw := gt8 (i := 114) (by decide +kernel) rfl
theorem lL_128 : Cond.methodLink RL 128 yX11_drawn ∈ gw := gt5 (i := 180) (by decide +kernel) rfl
theorem lL_127 : Cond.methodLink RL 127 yX12_seed ∈ gw := gt8 (i := 110) (by decide +kernel) rfl
theorem lL_124 : Cond.methodLink RL 124 yX11_seed ∈ gw := gt5 (i := 176) (by decide +kernel) rfl
theorem lL_123 : Cond.methodLink RL 123 yX12_upward ∈ gw := gt8 (i := 102) (by decide +kernel) rfl
theorem lL_120 : Cond.methodLink RL 120 yX11_upward ∈ gw := gt5 (i := 164) (by decide +kernel) rfl
theorem lL_119 : Cond.methodLink RL 119 yX12_beds ∈ gw := gt8 (i := 94) (by decide +kernel) rfl
theorem lL_116 : Cond.methodLink RL 116 yX11_beds ∈ gw := gt5 (i := 156) (by decide +kernel) rfl
theorem lL_115 : Cond.methodLink RL 115 yX12_order ∈ gw := gt8 (i := 81) (by decide +kernel) rfl
theorem lL_112 : Cond.methodLink RL 112 yX11_order ∈ gw := gt5 (i := 136) (by decide +kernel) rfl
theorem lL_111 : Cond.methodLink RL 111 yX12_customer ∈ gw := gt8 (i := 77) (by decide +kernel) rfl
theorem lL_108 : Cond.methodLink RL 108 yX11_customer ∈ gw := gt5 (i := 128) (by decide +kernel) rfl
theorem lL_107 : Cond.methodLink RL 107 yX12_rides ∈ gw := gt8 (i := 64) (by decide +kernel) rfl
theorem lL_104 : Cond.methodLink RL 104 yX11_rides ∈ gw := gt5 (i := 115) (by decide +kernel) rfl
theorem lL_103 : Cond.methodLink RL 103 yX12_rider ∈ gw := gt8 (i := 60) (by decide +kernel) rfl
theorem lL_100 : Cond.methodLink RL 100 yX11_rider ∈ gw := gt5 (i := 107) (by decide +kernel) rfl
theorem lL_99 : Cond.methodLink RL 99 yX12_brought ∈ gw := gt8 (i := 52) (by decide +kernel) rfl
theorem lL_96 : Cond.methodLink RL 96 yX11_brought ∈ gw := gt5 (i := 98) (by decide +kernel) rfl
theorem lL_95 : Cond.methodLink RL 95 yX12_trips ∈ gw := gt8 (i := 44) (by decide +kernel) rfl
theorem lL_92 : Cond.methodLink RL 92 yX11_trips ∈ gw := gt5 (i := 70) (by decide +kernel) rfl
theorem lL_91 : Cond.methodLink RL 91 yX12_trip ∈ gw := gt8 (i := 32) (by decide +kernel) rfl
theorem lL_88 : Cond.methodLink RL 88 yX11_trip ∈ gw := gt5 (i := 62) (by decide +kernel) rfl
theorem lL_87 : Cond.methodLink RL 87 yX12_meeting ∈ gw := gt8 (i := 28) (by decide +kernel) rfl
theorem lL_83 : Cond.methodLink RL 83 yX11_meeting ∈ gw := gt5 (i := 56) (by decide +kernel) rfl
theorem lL_82 : Cond.methodLink RL 82 yX12_best ∈ gw := gt8 (i := 5) (by decide +kernel) rfl
theorem lL_78 : Cond.methodLink RL 78 yX11_best ∈ gw := gt4 (i := 236) (by decide +kernel) rfl
theorem lL_77 : Cond.methodLink RL 77 yX12_errand ∈ gw := gt7 (i := 239) (by decide +kernel) rfl
theorem lL_73 : Cond.methodLink RL 73 yX11_errand ∈ gw := gt4 (i := 228) (by decide +kernel) rfl
theorem lL_72 : Cond.methodLink RL 72 yX12_downs ∈ gw := gt7 (i := 230) (by decide +kernel) rfl
theorem lL_68 : Cond.methodLink RL 68 yX11_downs ∈ gw := gt4 (i := 205) (by decide +kernel) rfl
theorem lL_67 : Cond.methodLink RL 67 yX12_still ∈ gw := gt7 (i := 226) (by decide +kernel) rfl
theorem lL_63 : Cond.methodLink RL 63 yX11_still ∈ gw := gt4 (i := 201) (by decide +kernel) rfl
theorem lL_62 : Cond.methodLink RL 62 yX12_soonest ∈ gw := gt7 (i := 196) (by decide +kernel) rfl
theorem lL_58 : Cond.methodLink RL 58 yX11_soonest ∈ gw := gt4 (i := 149) (by decide +kernel) rfl
theorem lL_57 : Cond.methodLink RL 57 yX12_ahead ∈ gw := gt7 (i := 172) (by decide +kernel) rfl
theorem lL_54 : Cond.methodLink RL 54 yX11_ahead ∈ gw := gt4 (i := 137) (by decide +kernel) rfl
theorem lL_53 : Cond.methodLink RL 53 yX12_tick ∈ gw := gt7 (i := 133) (by decide +kernel) rfl
theorem lL_50 : Cond.methodLink RL 50 yX11_tick ∈ gw := gt4 (i := 88) (by decide +kernel) rfl
theorem lL_49 : Cond.methodLink RL 49 yX12_go ∈ gw := gt7 (i := 105) (by decide +kernel) rfl
theorem lL_45 : Cond.methodLink RL 45 yX11_go ∈ gw := gt4 (i := 46) (by decide +kernel) rfl
theorem lL_44 : Cond.methodLink RL 44 yX12_person ∈ gw := gt7 (i := 92) (by decide +kernel) rfl
theorem lL_41 : Cond.methodLink RL 41 yX11_person ∈ gw := gt4 (i := 38) (by decide +kernel) rfl
theorem lL_40 : Cond.methodLink RL 40 yX12_way ∈ gw := gt7 (i := 79) (by decide +kernel) rfl
theorem lL_37 : Cond.methodLink RL 37 yX11_way ∈ gw := gt4 (i := 33) (by decide +kernel) rfl
theorem lL_36 : Cond.methodLink RL 36 yX12_room ∈ gw := gt7 (i := 58) (by decide +kernel) rfl
theorem lL_32 : Cond.methodLink RL 32 yX11_room ∈ gw := gt4 (i := 24) (by decide +kernel) rfl
theorem lL_31 : Cond.methodLink RL 31 yX12_rule ∈ gw := gt6 (i := 136) (by decide +kernel) rfl
theorem lL_28 : Cond.methodLink RL 28 yX11_rule ∈ gw := gt3 (i := 124) (by decide +kernel) rfl
theorem lL_27 : Cond.methodLink RL 27 yX12_house ∈ gw := gt7 (i := 50) (by decide +kernel) rfl
theorem lL_23 : Cond.methodLink RL 23 yX11_house ∈ gw := gt2 (i := 168) (by decide +kernel) rfl
theorem lL_22 : Cond.methodLink RL 22 yX12_end ∈ gw := gt6 (i := 132) (by decide +kernel) rfl
theorem lL_18 : Cond.methodLink RL 18 yX11_end ∈ gw := gt2 (i := 164) (by decide +kernel) rfl
theorem lL_17 : Cond.methodLink RL 17 yX12_feed ∈ gw := gt6 (i := 124) (by decide +kernel) rfl
theorem lL_13 : Cond.methodLink RL 13 yX11_feed ∈ gw := gt2 (i := 156) (by decide +kernel) rfl
section LWA
variable {G : Gx} {K : Kx} {L cs sl i t : Nat} {xs : Nat → Int32} {M : Mem} {F : State → Prop}
abbrev Nxt (K : Kx) (L : Nat) (xs : Nat → Int32) (i t : Nat) (F : State → Prop) : Prop := ∀ (G : Gx) (M : Mem) (cs sl : Nat), Lst K L xs G M cs sl t → CX G K mL (room_1, aN K, cs, sl) 1264 (LO i) [] M F
theorem law_feed (h : Lst K L xs G M cs sl (t + 1)) (hi : i + 7 ≤ L) (nx : Nxt K L xs i t F) : CX G K mL (room_1, aN K, cs, sl) 168 (LO i) [] M F := by
  have S := h.2.2.1
  refine xr_aload_n (x := some (1, 99)) dL_law_168 rfl ?_
  refine xl_arg 1 S rfl (by omega) (by decide) dL_law_169 dL_law_170 dL_law_171 dL_law_172 dL_law_173 ?_
  refine xl_arg 2 S rfl (by omega) (by decide) dL_law_174 dL_law_175 dL_law_176 dL_law_177 dL_law_178 ?_
  refine xl_arg 3 S rfl (by omega) (by decide) dL_law_179 dL_law_180 dL_law_181 dL_law_182 dL_law_183 ?_
  refine xl_arg 4 S rfl (by omega) (by decide) dL_law_184 dL_law_185 dL_law_186 dL_law_187 dL_law_188 ?_
  refine xl_arg 5 S rfl (by omega) (by decide) dL_law_189 dL_law_190 dL_law_191 dL_law_192 dL_law_193 ?_
  refine xr_callV (n := 60) (md' := mX11_feed) (o := 1) (as := [vI (sc xs (i + 1)), vI (sc xs (i + 2)), vI (sc xs (i + 3)), vI (sc xs (i + 4)), vI (sc xs (i + 5))]) h.2.1.1 h.2.1.2.2 (Lst_rm h) dL_law_194 lL_13 iX11_feed rfl rfl rfl (Nat.le_of_ble_eq_true rfl) (lw_feed h.1) (fun r_1 M1 T => ?_)
  obtain ⟨r1, rfl, T⟩ := T
  refine xr_aload_n (x := some (0, 99)) dL_law_197 rfl ?_
  refine xl_arg 1 S rfl (by omega) (by decide) dL_law_198 dL_law_199 dL_law_200 dL_law_201 dL_law_202 ?_
  refine xl_arg 2 S rfl (by omega) (by decide) dL_law_203 dL_law_204 dL_law_205 dL_law_206 dL_law_207 ?_
  refine xl_arg 3 S rfl (by omega) (by decide) dL_law_208 dL_law_209 dL_law_210 dL_law_211 dL_law_212 ?_
  refine xl_arg 4 S rfl (by omega) (by decide) dL_law_213 dL_law_214 dL_law_215 dL_law_216 dL_law_217 ?_
  refine xl_arg 5 S rfl (by omega) (by decide) dL_law_218 dL_law_219 dL_law_220 dL_law_221 dL_law_222 ?_
  refine xr_callV (n := 60) (md' := mX12_feed) (o := 0) (as := [vI (sc xs (i + 1)), vI (sc xs (i + 2)), vI (sc xs (i + 3)), vI (sc xs (i + 4)), vI (sc xs (i + 5))]) (st := [vI r1]) h.2.1.1 h.2.1.2.2 (Lst_rm h) dL_law_223 lL_17 iX12_feed rfl rfl rfl (Nat.le_of_ble_eq_true rfl) T (fun r_1 M2 T => ?_)
  obtain ⟨r2, rfl, rfl, I2⟩ := T
  exact xl_eq dL_law_226 (by decide) (nx G M2 cs sl (Lst_same h I2))
theorem law_end (h : Lst K L xs G M cs sl (t + 1)) (hi : i + 7 ≤ L) (nx : Nxt K L xs i t F) : CX G K mL (room_1, aN K, cs, sl) 231 (LO i) [] M F := by
  have S := h.2.2.1
  refine xr_aload_n (x := some (1, 99)) dL_law_231 rfl ?_
  refine xl_arg 1 S rfl (by omega) (by decide) dL_law_232 dL_law_233 dL_law_234 dL_law_235 dL_law_236 ?_
  refine xr_callV (n := 60) (md' := mX11_end) (o := 1) (as := [vI (sc xs (i + 1))]) h.2.1.1 h.2.1.2.2 (Lst_rm h) dL_law_237 lL_18 iX11_end rfl rfl rfl (Nat.le_of_ble_eq_true rfl) (lw_end h.1) (fun r_1 M1 T => ?_)
  obtain ⟨r1, rfl, T⟩ := T
  refine xr_aload_n (x := some (0, 99)) dL_law_240 rfl ?_
  refine xl_arg 1 S rfl (by omega) (by decide) dL_law_241 dL_law_242 dL_law_243 dL_law_244 dL_law_245 ?_
  refine xr_callV (n := 60) (md' := mX12_end) (o := 0) (as := [vI (sc xs (i + 1))]) (st := [vI r1]) h.2.1.1 h.2.1.2.2 (Lst_rm h) dL_law_246 lL_22 iX12_end rfl rfl rfl (Nat.le_of_ble_eq_true rfl) T (fun r_1 M2 T => ?_)
  obtain ⟨r2, rfl, rfl, I2⟩ := T
  exact xl_eq dL_law_249 (by decide) (nx G M2 cs sl (Lst_same h I2))
theorem law_house (h : Lst K L xs G M cs sl (t + 1)) (hi : i + 7 ≤ L) (nx : Nxt K L xs i t F) : CX G K mL (room_1, aN K, cs, sl) 254 (LO i) [] M F := by
  have S := h.2.2.1
  have b1 := h.2.2.2.1
  have b2 := h.2.2.2.2
  refine xr_aload_n (x := some (1, 99)) dL_law_254 rfl ?_
  refine xr_callZ (n := 60) (mc := 1) (ms := 3) (md' := mX11_house) (o := 1) (as := []) h.2.1.1 h.2.1.2.1 h.2.1.2.2 ⟨by show 60 + 1 ≤ 2048; decide, by show 119 + 120 * 60 ≤ 84000; decide, by show cs + 1 ≤ 600000; omega, by show sl + 3 ≤ 7302250; omega⟩ dL_law_255 lL_23 iX11_house rfl rfl rfl (Nat.le_of_ble_eq_true rfl) (lw_house h.1) (fun r_1 M1 T => ?_)
  obtain ⟨r1, rfl, T⟩ := T
  refine xr_aload_n (x := some (0, 99)) dL_law_258 rfl ?_
  refine xr_callV (n := 60) (md' := mX12_house) (o := 0) (as := []) (st := [vI r1]) h.2.1.1 h.2.1.2.2 ⟨by show 60 + 1 ≤ 2048; decide, by show 119 + 120 * 60 ≤ 84000; decide, by show cs + 1 ≤ 600000; omega, by show sl + 3 ≤ 7302250; omega⟩ dL_law_259 lL_27 iX12_house rfl rfl rfl (Nat.le_of_ble_eq_true rfl) T (fun r_1 M2 T => ?_)
  obtain ⟨r2, rfl, rfl, I2⟩ := T
  exact xl_eq dL_law_262 (by decide) (nx G M2 _ _ (Lst_gr h Gr.rf h.2.1 I2 (by decide) (by decide)))
theorem law_rule (h : Lst K L xs G M cs sl (t + 1)) (hi : i + 7 ≤ L) (nx : Nxt K L xs i t F) : CX G K mL (room_1, aN K, cs, sl) 267 (LO i) [] M F := by
  have S0 := h.2.2.1
  have hc : cs + 8 ≤ 600000 := by have := h.2.2.2.1; omega
  have hs : sl + 524 ≤ 7302250 := by have := h.2.2.2.2; omega
  refine xr_aload_n (x := some (1, 99)) dL_law_267 rfl ?_
  refine xr_callN (n := 60) (mc := 8) (ms := 524) (md' := mX11_rule) (o := 1) (as := []) h.2.1 ⟨by show 60 + 1 ≤ 2048; decide, by show 119 + 120 * 60 ≤ 84000; decide, hc, hs⟩ dL_law_268 lL_28 iX11_rule rfl rfl rfl (Nat.le_of_ble_eq_true rfl) (lw_rule h.1) (fun G1 r1 M1 g hA1 T => ?_)
  have S := Sc_gr g S0
  refine xr_aload_n (x := some (0, 99)) dL_law_271 rfl ?_
  refine xr_callV (n := 60) (md' := mX12_rule) (o := 0) (as := []) (st := [vI r1]) hA1.1 hA1.2.2 ⟨by show 60 + 1 ≤ 2048; decide, by show 119 + 120 * 60 ≤ 84000; decide, hc, hs⟩ dL_law_272 lL_31 iX12_rule rfl rfl rfl (Nat.le_of_ble_eq_true rfl) T (fun r_1 M2 T => ?_)
  obtain ⟨r2, rfl, rfl, I2⟩ := T
  exact xl_eq dL_law_275 (by decide) (nx G1 M2 _ _ (Lst_gr h g hA1 I2 (by decide) (by decide)))
theorem law_room (h : Lst K L xs G M cs sl (t + 1)) (hi : i + 7 ≤ L) (nx : Nxt K L xs i t F) : CX G K mL (room_1, aN K, cs, sl) 280 (LO i) [] M F := by
  have S := h.2.2.1
  refine xr_aload_n (x := some (1, 99)) dL_law_280 rfl ?_
  refine xl_arg 1 S rfl (by omega) (by decide) dL_law_281 dL_law_282 dL_law_283 dL_law_284 dL_law_285 ?_
  refine xl_arg 2 S rfl (by omega) (by decide) dL_law_286 dL_law_287 dL_law_288 dL_law_289 dL_law_290 ?_
  refine xr_callV (n := 60) (md' := mX11_room) (o := 1) (as := [vI (sc xs (i + 1)), vI (sc xs (i + 2))]) h.2.1.1 h.2.1.2.2 (Lst_rm h) dL_law_291 lL_32 iX11_room rfl rfl rfl (Nat.le_of_ble_eq_true rfl) (lw_room h.1) (fun r_1 M1 T => ?_)
  obtain ⟨r1, rfl, T⟩ := T
  refine xr_aload_n (x := some (0, 99)) dL_law_294 rfl ?_
  refine xl_arg 1 S rfl (by omega) (by decide) dL_law_295 dL_law_296 dL_law_297 dL_law_298 dL_law_299 ?_
  refine xl_arg 2 S rfl (by omega) (by decide) dL_law_300 dL_law_301 dL_law_302 dL_law_303 dL_law_304 ?_
  refine xr_callV (n := 60) (md' := mX12_room) (o := 0) (as := [vI (sc xs (i + 1)), vI (sc xs (i + 2))]) (st := [vI r1]) h.2.1.1 h.2.1.2.2 (Lst_rm h) dL_law_305 lL_36 iX12_room rfl rfl rfl (Nat.le_of_ble_eq_true rfl) T (fun r_1 M2 T => ?_)
  obtain ⟨r2, rfl, rfl, I2⟩ := T
  exact xl_eq dL_law_308 (by decide) (nx G M2 cs sl (Lst_same h I2))
theorem law_way (h : Lst K L xs G M cs sl (t + 1)) (hi : i + 7 ≤ L) (nx : Nxt K L xs i t F) : CX G K mL (room_1, aN K, cs, sl) 313 (LO i) [] M F := by
  have S := h.2.2.1
  refine xr_aload_n (x := some (1, 99)) dL_law_313 rfl ?_
  refine xl_arg 1 S rfl (by omega) (by decide) dL_law_314 dL_law_315 dL_law_316 dL_law_317 dL_law_318 ?_
  refine xl_arg 2 S rfl (by omega) (by decide) dL_law_319 dL_law_320 dL_law_321 dL_law_322 dL_law_323 ?_
  refine xr_callV (n := 60) (md' := mX11_way) (o := 1) (as := [vI (sc xs (i + 1)), vI (sc xs (i + 2))]) h.2.1.1 h.2.1.2.2 (Lst_rm h) dL_law_324 lL_37 iX11_way rfl rfl rfl (Nat.le_of_ble_eq_true rfl) (lw_way h.1) (fun r_1 M1 T => ?_)
  obtain ⟨r1, rfl, T⟩ := T
  refine xr_aload_n (x := some (0, 99)) dL_law_327 rfl ?_
  refine xl_arg 1 S rfl (by omega) (by decide) dL_law_328 dL_law_329 dL_law_330 dL_law_331 dL_law_332 ?_
  refine xl_arg 2 S rfl (by omega) (by decide) dL_law_333 dL_law_334 dL_law_335 dL_law_336 dL_law_337 ?_
  refine xr_callV (n := 60) (md' := mX12_way) (o := 0) (as := [vI (sc xs (i + 1)), vI (sc xs (i + 2))]) (st := [vI r1]) h.2.1.1 h.2.1.2.2 (Lst_rm h) dL_law_338 lL_40 iX12_way rfl rfl rfl (Nat.le_of_ble_eq_true rfl) T (fun r_1 M2 T => ?_)
  obtain ⟨r2, rfl, rfl, I2⟩ := T
  exact xl_eq dL_law_341 (by decide) (nx G M2 cs sl (Lst_same h I2))
theorem law_person (h : Lst K L xs G M cs sl (t + 1)) (hi : i + 7 ≤ L) (nx : Nxt K L xs i t F) : CX G K mL (room_1, aN K, cs, sl) 346 (LO i) [] M F := by
  have S := h.2.2.1
  refine xr_aload_n (x := some (1, 99)) dL_law_346 rfl ?_
  refine xl_arg 1 S rfl (by omega) (by decide) dL_law_347 dL_law_348 dL_law_349 dL_law_350 dL_law_351 ?_
  refine xl_arg 2 S rfl (by omega) (by decide) dL_law_352 dL_law_353 dL_law_354 dL_law_355 dL_law_356 ?_
  refine xr_callV (n := 60) (md' := mX11_person) (o := 1) (as := [vI (sc xs (i + 1)), vI (sc xs (i + 2))]) h.2.1.1 h.2.1.2.2 (Lst_rm h) dL_law_357 lL_41 iX11_person rfl rfl rfl (Nat.le_of_ble_eq_true rfl) (lw_person h.1) (fun r_1 M1 T => ?_)
  obtain ⟨r1, rfl, T⟩ := T
  refine xr_aload_n (x := some (0, 99)) dL_law_360 rfl ?_
  refine xl_arg 1 S rfl (by omega) (by decide) dL_law_361 dL_law_362 dL_law_363 dL_law_364 dL_law_365 ?_
  refine xl_arg 2 S rfl (by omega) (by decide) dL_law_366 dL_law_367 dL_law_368 dL_law_369 dL_law_370 ?_
  refine xr_callV (n := 60) (md' := mX12_person) (o := 0) (as := [vI (sc xs (i + 1)), vI (sc xs (i + 2))]) (st := [vI r1]) h.2.1.1 h.2.1.2.2 (Lst_rm h) dL_law_371 lL_44 iX12_person rfl rfl rfl (Nat.le_of_ble_eq_true rfl) T (fun r_1 M2 T => ?_)
  obtain ⟨r2, rfl, rfl, I2⟩ := T
  exact xl_eq dL_law_374 (by decide) (nx G M2 cs sl (Lst_same h I2))
theorem law_go (h : Lst K L xs G M cs sl (t + 1)) (hi : i + 7 ≤ L) (nx : Nxt K L xs i t F) : CX G K mL (room_1, aN K, cs, sl) 379 (LO i) [] M F := by
  have S := h.2.2.1
  refine xr_aload_n (x := some (1, 99)) dL_law_379 rfl ?_
  refine xl_arg 1 S rfl (by omega) (by decide) dL_law_380 dL_law_381 dL_law_382 dL_law_383 dL_law_384 ?_
  refine xl_arg 2 S rfl (by omega) (by decide) dL_law_385 dL_law_386 dL_law_387 dL_law_388 dL_law_389 ?_
  refine xr_callV (n := 60) (md' := mX11_go) (o := 1) (as := [vI (sc xs (i + 1)), vI (sc xs (i + 2))]) h.2.1.1 h.2.1.2.2 (Lst_rm h) dL_law_390 lL_45 iX11_go rfl rfl rfl (Nat.le_of_ble_eq_true rfl) (lw_go h.1) (fun r_1 M1 T => ?_)
  obtain ⟨r1, rfl, T⟩ := T
  refine xr_aload_n (x := some (0, 99)) dL_law_393 rfl ?_
  refine xl_arg 1 S rfl (by omega) (by decide) dL_law_394 dL_law_395 dL_law_396 dL_law_397 dL_law_398 ?_
  refine xl_arg 2 S rfl (by omega) (by decide) dL_law_399 dL_law_400 dL_law_401 dL_law_402 dL_law_403 ?_
  refine xr_callV (n := 60) (md' := mX12_go) (o := 0) (as := [vI (sc xs (i + 1)), vI (sc xs (i + 2))]) (st := [vI r1]) h.2.1.1 h.2.1.2.2 (Lst_rm h) dL_law_404 lL_49 iX12_go rfl rfl rfl (Nat.le_of_ble_eq_true rfl) T (fun r_1 M2 T => ?_)
  obtain ⟨r2, rfl, rfl, I2⟩ := T
  exact xl_eq dL_law_407 (by decide) (nx G M2 cs sl (Lst_same h I2))
theorem law_tick (h : Lst K L xs G M cs sl (t + 1)) (hi : i + 7 ≤ L) (nx : Nxt K L xs i t F) : CX G K mL (room_1, aN K, cs, sl) 412 (LO i) [] M F := by
  have S := h.2.2.1
  refine xr_aload_n (x := some (1, 99)) dL_law_412 rfl ?_
  refine xl_arg 1 S rfl (by omega) (by decide) dL_law_413 dL_law_414 dL_law_415 dL_law_416 dL_law_417 ?_
  refine xl_arg 2 S rfl (by omega) (by decide) dL_law_418 dL_law_419 dL_law_420 dL_law_421 dL_law_422 ?_
  refine xr_callV (n := 60) (md' := mX11_tick) (o := 1) (as := [vI (sc xs (i + 1)), vI (sc xs (i + 2))]) h.2.1.1 h.2.1.2.2 (Lst_rm h) dL_law_423 lL_50 iX11_tick rfl rfl rfl (Nat.le_of_ble_eq_true rfl) (lw_tick h.1) (fun r_1 M1 T => ?_)
  obtain ⟨r1, rfl, T⟩ := T
  refine xr_aload_n (x := some (0, 99)) dL_law_426 rfl ?_
  refine xl_arg 1 S rfl (by omega) (by decide) dL_law_427 dL_law_428 dL_law_429 dL_law_430 dL_law_431 ?_
  refine xl_arg 2 S rfl (by omega) (by decide) dL_law_432 dL_law_433 dL_law_434 dL_law_435 dL_law_436 ?_
  refine xr_callV (n := 60) (md' := mX12_tick) (o := 0) (as := [vI (sc xs (i + 1)), vI (sc xs (i + 2))]) (st := [vI r1]) h.2.1.1 h.2.1.2.2 (Lst_rm h) dL_law_437 lL_53 iX12_tick rfl rfl rfl (Nat.le_of_ble_eq_true rfl) T (fun r_1 M2 T => ?_)
  obtain ⟨r2, rfl, rfl, I2⟩ := T
  exact xl_eq dL_law_440 (by decide) (nx G M2 cs sl (Lst_same h I2))
theorem law_ahead (h : Lst K L xs G M cs sl (t + 1)) (hi : i + 7 ≤ L) (nx : Nxt K L xs i t F) : CX G K mL (room_1, aN K, cs, sl) 445 (LO i) [] M F := by
  have S := h.2.2.1
  refine xr_aload_n (x := some (1, 99)) dL_law_445 rfl ?_
  refine xl_arg 1 S rfl (by omega) (by decide) dL_law_446 dL_law_447 dL_law_448 dL_law_449 dL_law_450 ?_
  refine xl_arg 2 S rfl (by omega) (by decide) dL_law_451 dL_law_452 dL_law_453 dL_law_454 dL_law_455 ?_
  refine xr_callV (n := 60) (md' := mX11_ahead) (o := 1) (as := [vI (sc xs (i + 1)), vI (sc xs (i + 2))]) h.2.1.1 h.2.1.2.2 (Lst_rm h) dL_law_456 lL_54 iX11_ahead rfl rfl rfl (Nat.le_of_ble_eq_true rfl) (lw_ahead h.1) (fun r_1 M1 T => ?_)
  obtain ⟨r1, rfl, T⟩ := T
  refine xr_aload_n (x := some (0, 99)) dL_law_459 rfl ?_
  refine xl_arg 1 S rfl (by omega) (by decide) dL_law_460 dL_law_461 dL_law_462 dL_law_463 dL_law_464 ?_
  refine xl_arg 2 S rfl (by omega) (by decide) dL_law_465 dL_law_466 dL_law_467 dL_law_468 dL_law_469 ?_
  refine xr_callV (n := 60) (md' := mX12_ahead) (o := 0) (as := [vI (sc xs (i + 1)), vI (sc xs (i + 2))]) (st := [vI r1]) h.2.1.1 h.2.1.2.2 (Lst_rm h) dL_law_470 lL_57 iX12_ahead rfl rfl rfl (Nat.le_of_ble_eq_true rfl) T (fun r_1 M2 T => ?_)
  obtain ⟨r2, rfl, rfl, I2⟩ := T
  exact xl_eq dL_law_473 (by decide) (nx G M2 cs sl (Lst_same h I2))
theorem law_soonest (h : Lst K L xs G M cs sl (t + 1)) (hi : i + 7 ≤ L) (nx : Nxt K L xs i t F) : CX G K mL (room_1, aN K, cs, sl) 478 (LO i) [] M F := by
  have S := h.2.2.1
  refine xr_aload_n (x := some (1, 99)) dL_law_478 rfl ?_
  refine xl_arg 1 S rfl (by omega) (by decide) dL_law_479 dL_law_480 dL_law_481 dL_law_482 dL_law_483 ?_
  refine xl_arg 2 S rfl (by omega) (by decide) dL_law_484 dL_law_485 dL_law_486 dL_law_487 dL_law_488 ?_
  refine xl_arg 3 S rfl (by omega) (by decide) dL_law_489 dL_law_490 dL_law_491 dL_law_492 dL_law_493 ?_
  refine xl_arg 4 S rfl (by omega) (by decide) dL_law_494 dL_law_495 dL_law_496 dL_law_497 dL_law_498 ?_
  refine xl_bool dL_law_499 dL_law_502 dL_law_503 dL_law_506 ?_
  refine xr_callV (n := 60) (md' := mX11_soonest) (o := 1) (as := [vI (sc xs (i + 1)), vI (sc xs (i + 2)), vI (sc xs (i + 3)), vI (bz (sc xs (i + 4)))]) h.2.1.1 h.2.1.2.2 (Lst_rm h) dL_law_507 lL_58 iX11_soonest rfl rfl rfl (Nat.le_of_ble_eq_true rfl) (lw_soonest h.1) (fun r_1 M1 T => ?_)
  obtain ⟨r1, rfl, T⟩ := T
  refine xr_aload_n (x := some (0, 99)) dL_law_510 rfl ?_
  refine xl_arg 1 S rfl (by omega) (by decide) dL_law_511 dL_law_512 dL_law_513 dL_law_514 dL_law_515 ?_
  refine xl_arg 2 S rfl (by omega) (by decide) dL_law_516 dL_law_517 dL_law_518 dL_law_519 dL_law_520 ?_
  refine xl_arg 3 S rfl (by omega) (by decide) dL_law_521 dL_law_522 dL_law_523 dL_law_524 dL_law_525 ?_
  refine xl_arg 4 S rfl (by omega) (by decide) dL_law_526 dL_law_527 dL_law_528 dL_law_529 dL_law_530 ?_
  refine xl_bool dL_law_531 dL_law_534 dL_law_535 dL_law_538 ?_
  refine xr_callV (n := 60) (md' := mX12_soonest) (o := 0) (as := [vI (sc xs (i + 1)), vI (sc xs (i + 2)), vI (sc xs (i + 3)), vI (bz (sc xs (i + 4)))]) (st := [vI r1]) h.2.1.1 h.2.1.2.2 (Lst_rm h) dL_law_539 lL_62 iX12_soonest rfl rfl rfl (Nat.le_of_ble_eq_true rfl) T (fun r_1 M2 T => ?_)
  obtain ⟨r2, rfl, rfl, I2⟩ := T
  exact xl_eq dL_law_542 (by decide) (nx G M2 cs sl (Lst_same h I2))
theorem law_still (h : Lst K L xs G M cs sl (t + 1)) (hi : i + 7 ≤ L) (nx : Nxt K L xs i t F) : CX G K mL (room_1, aN K, cs, sl) 547 (LO i) [] M F := by
  have S := h.2.2.1
  refine xr_aload_n (x := some (1, 99)) dL_law_547 rfl ?_
  refine xl_arg 1 S rfl (by omega) (by decide) dL_law_548 dL_law_549 dL_law_550 dL_law_551 dL_law_552 ?_
  refine xl_arg 2 S rfl (by omega) (by decide) dL_law_553 dL_law_554 dL_law_555 dL_law_556 dL_law_557 ?_
  refine xl_arg 3 S rfl (by omega) (by decide) dL_law_558 dL_law_559 dL_law_560 dL_law_561 dL_law_562 ?_
  refine xl_bool dL_law_563 dL_law_566 dL_law_567 dL_law_570 ?_
  refine xr_callV (n := 60) (md' := mX11_still) (o := 1) (as := [vI (sc xs (i + 1)), vI (sc xs (i + 2)), vI (bz (sc xs (i + 3)))]) h.2.1.1 h.2.1.2.2 (Lst_rm h) dL_law_571 lL_63 iX11_still rfl rfl rfl (Nat.le_of_ble_eq_true rfl) (lw_still h.1) (fun r_1 M1 T => ?_)
  obtain ⟨r1, rfl, T⟩ := T
  refine xr_aload_n (x := some (0, 99)) dL_law_574 rfl ?_
  refine xl_arg 1 S rfl (by omega) (by decide) dL_law_575 dL_law_576 dL_law_577 dL_law_578 dL_law_579 ?_
  refine xl_arg 2 S rfl (by omega) (by decide) dL_law_580 dL_law_581 dL_law_582 dL_law_583 dL_law_584 ?_
  refine xl_arg 3 S rfl (by omega) (by decide) dL_law_585 dL_law_586 dL_law_587 dL_law_588 dL_law_589 ?_
  refine xl_bool dL_law_590 dL_law_593 dL_law_594 dL_law_597 ?_
  refine xr_callV (n := 60) (md' := mX12_still) (o := 0) (as := [vI (sc xs (i + 1)), vI (sc xs (i + 2)), vI (bz (sc xs (i + 3)))]) (st := [vI r1]) h.2.1.1 h.2.1.2.2 (Lst_rm h) dL_law_598 lL_67 iX12_still rfl rfl rfl (Nat.le_of_ble_eq_true rfl) T (fun r_1 M2 T => ?_)
  obtain ⟨r2, rfl, rfl, I2⟩ := T
  exact xl_eq dL_law_601 (by decide) (nx G M2 cs sl (Lst_same h I2))
theorem law_downs (h : Lst K L xs G M cs sl (t + 1)) (hi : i + 7 ≤ L) (nx : Nxt K L xs i t F) : CX G K mL (room_1, aN K, cs, sl) 606 (LO i) [] M F := by
  have S := h.2.2.1
  refine xr_aload_n (x := some (1, 99)) dL_law_606 rfl ?_
  refine xl_arg 1 S rfl (by omega) (by decide) dL_law_607 dL_law_608 dL_law_609 dL_law_610 dL_law_611 ?_
  refine xl_arg 2 S rfl (by omega) (by decide) dL_law_612 dL_law_613 dL_law_614 dL_law_615 dL_law_616 ?_
  refine xl_arg 3 S rfl (by omega) (by decide) dL_law_617 dL_law_618 dL_law_619 dL_law_620 dL_law_621 ?_
  refine xr_callV (n := 60) (md' := mX11_downs) (o := 1) (as := [vI (sc xs (i + 1)), vI (sc xs (i + 2)), vI (sc xs (i + 3))]) h.2.1.1 h.2.1.2.2 (Lst_rm h) dL_law_622 lL_68 iX11_downs rfl rfl rfl (Nat.le_of_ble_eq_true rfl) (lw_downs h.1) (fun r_1 M1 T => ?_)
  obtain ⟨r1, rfl, T⟩ := T
  refine xr_aload_n (x := some (0, 99)) dL_law_625 rfl ?_
  refine xl_arg 1 S rfl (by omega) (by decide) dL_law_626 dL_law_627 dL_law_628 dL_law_629 dL_law_630 ?_
  refine xl_arg 2 S rfl (by omega) (by decide) dL_law_631 dL_law_632 dL_law_633 dL_law_634 dL_law_635 ?_
  refine xl_arg 3 S rfl (by omega) (by decide) dL_law_636 dL_law_637 dL_law_638 dL_law_639 dL_law_640 ?_
  refine xr_callV (n := 60) (md' := mX12_downs) (o := 0) (as := [vI (sc xs (i + 1)), vI (sc xs (i + 2)), vI (sc xs (i + 3))]) (st := [vI r1]) h.2.1.1 h.2.1.2.2 (Lst_rm h) dL_law_641 lL_72 iX12_downs rfl rfl rfl (Nat.le_of_ble_eq_true rfl) T (fun r_1 M2 T => ?_)
  obtain ⟨r2, rfl, rfl, I2⟩ := T
  exact xl_eq dL_law_644 (by decide) (nx G M2 cs sl (Lst_same h I2))
theorem law_errand (h : Lst K L xs G M cs sl (t + 1)) (hi : i + 7 ≤ L) (nx : Nxt K L xs i t F) : CX G K mL (room_1, aN K, cs, sl) 649 (LO i) [] M F := by
  have S := h.2.2.1
  refine xr_aload_n (x := some (1, 99)) dL_law_649 rfl ?_
  refine xl_arg 1 S rfl (by omega) (by decide) dL_law_650 dL_law_651 dL_law_652 dL_law_653 dL_law_654 ?_
  refine xl_arg 2 S rfl (by omega) (by decide) dL_law_655 dL_law_656 dL_law_657 dL_law_658 dL_law_659 ?_
  refine xl_arg 3 S rfl (by omega) (by decide) dL_law_660 dL_law_661 dL_law_662 dL_law_663 dL_law_664 ?_
  refine xl_arg 4 S rfl (by omega) (by decide) dL_law_665 dL_law_666 dL_law_667 dL_law_668 dL_law_669 ?_
  refine xr_callV (n := 60) (md' := mX11_errand) (o := 1) (as := [vI (sc xs (i + 1)), vI (sc xs (i + 2)), vI (sc xs (i + 3)), vI (sc xs (i + 4))]) h.2.1.1 h.2.1.2.2 (Lst_rm h) dL_law_670 lL_73 iX11_errand rfl rfl rfl (Nat.le_of_ble_eq_true rfl) (lw_errand h.1) (fun r_1 M1 T => ?_)
  obtain ⟨r1, rfl, T⟩ := T
  refine xr_aload_n (x := some (0, 99)) dL_law_673 rfl ?_
  refine xl_arg 1 S rfl (by omega) (by decide) dL_law_674 dL_law_675 dL_law_676 dL_law_677 dL_law_678 ?_
  refine xl_arg 2 S rfl (by omega) (by decide) dL_law_679 dL_law_680 dL_law_681 dL_law_682 dL_law_683 ?_
  refine xl_arg 3 S rfl (by omega) (by decide) dL_law_684 dL_law_685 dL_law_686 dL_law_687 dL_law_688 ?_
  refine xl_arg 4 S rfl (by omega) (by decide) dL_law_689 dL_law_690 dL_law_691 dL_law_692 dL_law_693 ?_
  refine xr_callV (n := 60) (md' := mX12_errand) (o := 0) (as := [vI (sc xs (i + 1)), vI (sc xs (i + 2)), vI (sc xs (i + 3)), vI (sc xs (i + 4))]) (st := [vI r1]) h.2.1.1 h.2.1.2.2 (Lst_rm h) dL_law_694 lL_77 iX12_errand rfl rfl rfl (Nat.le_of_ble_eq_true rfl) T (fun r_1 M2 T => ?_)
  obtain ⟨r2, rfl, rfl, I2⟩ := T
  exact xl_eq dL_law_697 (by decide) (nx G M2 cs sl (Lst_same h I2))
theorem law_best_k {mc ms : Nat} (h : Lst K L xs G M cs sl (t + 1)) (hi : i + 7 ≤ L) (hc : cs + mc ≤ 600000) (hs : sl + ms ≤ 7302250) (hcs : 12 ∉ gL G → bVal (sd M) (sc xs (i + 1)) (sc xs (i + 2)) (sc xs (i + 4)) → 4 ≤ mc ∧ 20518 ≤ ms) (nx : ∀ (G1 : Gx) (M2 : Mem), Gr G G1 → AZ G1 K (aN K) → InvG G1 M2 → (bVal (sd M) (sc xs (i + 1)) (sc xs (i + 2)) (sc xs (i + 4)) → 12 ∈ gL G1) → CX G1 K mL (room_1, aN K, cs + mc, sl + ms) 1264 (LO i) [] M2 F) : CX G K mL (room_1, aN K, cs, sl) 702 (LO i) [] M F := by
  have S0 := h.2.2.1
  refine xr_aload_n (x := some (1, 99)) dL_law_702 rfl ?_
  refine xl_arg 1 S0 rfl (by omega) (by decide) dL_law_703 dL_law_704 dL_law_705 dL_law_706 dL_law_707 ?_
  refine xl_arg 2 S0 rfl (by omega) (by decide) dL_law_708 dL_law_709 dL_law_710 dL_law_711 dL_law_712 ?_
  refine xl_arg 3 S0 rfl (by omega) (by decide) dL_law_713 dL_law_714 dL_law_715 dL_law_716 dL_law_717 ?_
  refine xl_bool dL_law_718 dL_law_721 dL_law_722 dL_law_725 ?_
  refine xl_arg 4 S0 rfl (by omega) (by decide) dL_law_726 dL_law_727 dL_law_728 dL_law_729 dL_law_730 ?_
  refine xr_callN (n := 60) (mc := mc) (ms := ms) (md' := mX11_best) (o := 1) (as := [vI (sc xs (i + 1)), vI (sc xs (i + 2)), vI (bz (sc xs (i + 3))), vI (sc xs (i + 4))]) h.2.1 ⟨by show 60 + 1 ≤ 2048; decide, by show 119 + 120 * 60 ≤ 84000; decide, hc, hs⟩ dL_law_731 lL_78 iX11_best rfl rfl rfl (Nat.le_of_ble_eq_true rfl) (lw_best h.1 hcs) (fun G1 r1 M1 g hA1 T => ?_)
  have S := Sc_gr g S0
  refine xr_aload_n (x := some (0, 99)) dL_law_734 rfl ?_
  refine xl_arg 1 S rfl (by omega) (by decide) dL_law_735 dL_law_736 dL_law_737 dL_law_738 dL_law_739 ?_
  refine xl_arg 2 S rfl (by omega) (by decide) dL_law_740 dL_law_741 dL_law_742 dL_law_743 dL_law_744 ?_
  refine xl_arg 3 S rfl (by omega) (by decide) dL_law_745 dL_law_746 dL_law_747 dL_law_748 dL_law_749 ?_
  refine xl_bool dL_law_750 dL_law_753 dL_law_754 dL_law_757 ?_
  refine xl_arg 4 S rfl (by omega) (by decide) dL_law_758 dL_law_759 dL_law_760 dL_law_761 dL_law_762 ?_
  refine xr_callV (n := 60) (md' := mX12_best) (o := 0) (as := [vI (sc xs (i + 1)), vI (sc xs (i + 2)), vI (bz (sc xs (i + 3))), vI (sc xs (i + 4))]) (st := [vI r1]) hA1.1 hA1.2.2 ⟨by show 60 + 1 ≤ 2048; decide, by show 119 + 120 * 60 ≤ 84000; decide, hc, hs⟩ dL_law_763 lL_82 iX12_best rfl rfl rfl (Nat.le_of_ble_eq_true rfl) T (fun r_1 M2 T => ?_)
  obtain ⟨r2, rfl, rfl, I2, V2⟩ := T
  exact xl_eq dL_law_766 (by decide) (nx G1 M2 g hA1 I2 V2)
theorem law_best (h : Lst K L xs G M cs sl (t + 1)) (hi : i + 7 ≤ L) (nx : Nxt K L xs i t F) : CX G K mL (room_1, aN K, cs, sl) 702 (LO i) [] M F := by
  have b1 := h.2.2.2.1
  have b2 := h.2.2.2.2
  by_cases v : 12 ∉ gL G ∧ bVal (sd M) (sc xs (i + 1)) (sc xs (i + 2)) (sc xs (i + 4))
  · have p1 : pC G = 4 := if_neg v.1
    have p2 : pS G = 20518 := if_neg v.1
    refine law_best_k (mc := 4) (ms := 20518) h hi (by omega) (by omega) (fun _ _ => ⟨Nat.le_refl _, Nat.le_refl _⟩) (fun G1 M2 g hA1 I2 V2 => nx G1 M2 _ _ ⟨I2, hA1, Sc_gr g h.2.2.1, ?_, ?_⟩)
    · have q1 : pC G1 = 0 := if_pos (V2 v.2)
      omega
    · have q2 : pS G1 = 0 := if_pos (V2 v.2)
      omega
  · refine law_best_k (mc := 0) (ms := 0) h hi (by omega) (by omega) (fun a b => absurd ⟨a, b⟩ v) (fun G1 M2 g hA1 I2 V2 => nx G1 M2 _ _ (Lst_gr h g hA1 I2 (by decide) (by decide)))
theorem law_meeting (h : Lst K L xs G M cs sl (t + 1)) (hi : i + 7 ≤ L) (nx : Nxt K L xs i t F) : CX G K mL (room_1, aN K, cs, sl) 771 (LO i) [] M F := by
  have S := h.2.2.1
  refine xr_aload_n (x := some (1, 99)) dL_law_771 rfl ?_
  refine xl_arg 1 S rfl (by omega) (by decide) dL_law_772 dL_law_773 dL_law_774 dL_law_775 dL_law_776 ?_
  refine xl_arg 2 S rfl (by omega) (by decide) dL_law_777 dL_law_778 dL_law_779 dL_law_780 dL_law_781 ?_
  refine xl_arg 3 S rfl (by omega) (by decide) dL_law_782 dL_law_783 dL_law_784 dL_law_785 dL_law_786 ?_
  refine xl_arg 4 S rfl (by omega) (by decide) dL_law_787 dL_law_788 dL_law_789 dL_law_790 dL_law_791 ?_
  refine xl_arg 5 S rfl (by omega) (by decide) dL_law_792 dL_law_793 dL_law_794 dL_law_795 dL_law_796 ?_
  refine xl_bool dL_law_797 dL_law_800 dL_law_801 dL_law_804 ?_
  refine xl_arg6 S rfl (by omega) dL_law_805 dL_law_806 dL_law_807 dL_law_809 dL_law_810 ?_
  refine xr_callV (n := 60) (md' := mX11_meeting) (o := 1) (as := [vI (sc xs (i + 1)), vI (sc xs (i + 2)), vI (sc xs (i + 3)), vI (sc xs (i + 4)), vI (bz (sc xs (i + 5))), vI (sc xs (i + 6))]) h.2.1.1 h.2.1.2.2 (Lst_rm h) dL_law_811 lL_83 iX11_meeting rfl rfl rfl (Nat.le_of_ble_eq_true rfl) (lw_meeting h.1) (fun r_1 M1 T => ?_)
  obtain ⟨r1, rfl, T⟩ := T
  refine xr_aload_n (x := some (0, 99)) dL_law_814 rfl ?_
  refine xl_arg 1 S rfl (by omega) (by decide) dL_law_815 dL_law_816 dL_law_817 dL_law_818 dL_law_819 ?_
  refine xl_arg 2 S rfl (by omega) (by decide) dL_law_820 dL_law_821 dL_law_822 dL_law_823 dL_law_824 ?_
  refine xl_arg 3 S rfl (by omega) (by decide) dL_law_825 dL_law_826 dL_law_827 dL_law_828 dL_law_829 ?_
  refine xl_arg 4 S rfl (by omega) (by decide) dL_law_830 dL_law_831 dL_law_832 dL_law_833 dL_law_834 ?_
  refine xl_arg 5 S rfl (by omega) (by decide) dL_law_835 dL_law_836 dL_law_837 dL_law_838 dL_law_839 ?_
  refine xl_bool dL_law_840 dL_law_843 dL_law_844 dL_law_847 ?_
  refine xl_arg6 S rfl (by omega) dL_law_848 dL_law_849 dL_law_850 dL_law_852 dL_law_853 ?_
  refine xr_callV (n := 60) (md' := mX12_meeting) (o := 0) (as := [vI (sc xs (i + 1)), vI (sc xs (i + 2)), vI (sc xs (i + 3)), vI (sc xs (i + 4)), vI (bz (sc xs (i + 5))), vI (sc xs (i + 6))]) (st := [vI r1]) h.2.1.1 h.2.1.2.2 (Lst_rm h) dL_law_854 lL_87 iX12_meeting rfl rfl rfl (Nat.le_of_ble_eq_true rfl) T (fun r_1 M2 T => ?_)
  obtain ⟨r2, rfl, rfl, I2⟩ := T
  exact xl_eq dL_law_857 (by decide) (nx G M2 cs sl (Lst_same h I2))
theorem law_trip (h : Lst K L xs G M cs sl (t + 1)) (hi : i + 7 ≤ L) (nx : Nxt K L xs i t F) : CX G K mL (room_1, aN K, cs, sl) 862 (LO i) [] M F := by
  have S := h.2.2.1
  refine xr_aload_n (x := some (1, 99)) dL_law_862 rfl ?_
  refine xl_arg 1 S rfl (by omega) (by decide) dL_law_863 dL_law_864 dL_law_865 dL_law_866 dL_law_867 ?_
  refine xl_arg 2 S rfl (by omega) (by decide) dL_law_868 dL_law_869 dL_law_870 dL_law_871 dL_law_872 ?_
  refine xl_arg 3 S rfl (by omega) (by decide) dL_law_873 dL_law_874 dL_law_875 dL_law_876 dL_law_877 ?_
  refine xr_callV (n := 60) (md' := mX11_trip) (o := 1) (as := [vI (sc xs (i + 1)), vI (sc xs (i + 2)), vI (sc xs (i + 3))]) h.2.1.1 h.2.1.2.2 (Lst_rm h) dL_law_878 lL_88 iX11_trip rfl rfl rfl (Nat.le_of_ble_eq_true rfl) (lw_trip h.1) (fun r_1 M1 T => ?_)
  obtain ⟨r1, rfl, T⟩ := T
  refine xr_aload_n (x := some (0, 99)) dL_law_881 rfl ?_
  refine xl_arg 1 S rfl (by omega) (by decide) dL_law_882 dL_law_883 dL_law_884 dL_law_885 dL_law_886 ?_
  refine xl_arg 2 S rfl (by omega) (by decide) dL_law_887 dL_law_888 dL_law_889 dL_law_890 dL_law_891 ?_
  refine xl_arg 3 S rfl (by omega) (by decide) dL_law_892 dL_law_893 dL_law_894 dL_law_895 dL_law_896 ?_
  refine xr_callV (n := 60) (md' := mX12_trip) (o := 0) (as := [vI (sc xs (i + 1)), vI (sc xs (i + 2)), vI (sc xs (i + 3))]) (st := [vI r1]) h.2.1.1 h.2.1.2.2 (Lst_rm h) dL_law_897 lL_91 iX12_trip rfl rfl rfl (Nat.le_of_ble_eq_true rfl) T (fun r_1 M2 T => ?_)
  obtain ⟨r2, rfl, rfl, I2⟩ := T
  exact xl_eq dL_law_900 (by decide) (nx G M2 cs sl (Lst_same h I2))
theorem law_trips (h : Lst K L xs G M cs sl (t + 1)) (hi : i + 7 ≤ L) (nx : Nxt K L xs i t F) : CX G K mL (room_1, aN K, cs, sl) 905 (LO i) [] M F := by
  have S := h.2.2.1
  refine xr_aload_n (x := some (1, 99)) dL_law_905 rfl ?_
  refine xl_arg 1 S rfl (by omega) (by decide) dL_law_906 dL_law_907 dL_law_908 dL_law_909 dL_law_910 ?_
  refine xl_arg 2 S rfl (by omega) (by decide) dL_law_911 dL_law_912 dL_law_913 dL_law_914 dL_law_915 ?_
  refine xr_callV (n := 60) (md' := mX11_trips) (o := 1) (as := [vI (sc xs (i + 1)), vI (sc xs (i + 2))]) h.2.1.1 h.2.1.2.2 (Lst_rm h) dL_law_916 lL_92 iX11_trips rfl rfl rfl (Nat.le_of_ble_eq_true rfl) (lw_trips h.1) (fun r_1 M1 T => ?_)
  obtain ⟨r1, rfl, T⟩ := T
  refine xr_aload_n (x := some (0, 99)) dL_law_919 rfl ?_
  refine xl_arg 1 S rfl (by omega) (by decide) dL_law_920 dL_law_921 dL_law_922 dL_law_923 dL_law_924 ?_
  refine xl_arg 2 S rfl (by omega) (by decide) dL_law_925 dL_law_926 dL_law_927 dL_law_928 dL_law_929 ?_
  refine xr_callV (n := 60) (md' := mX12_trips) (o := 0) (as := [vI (sc xs (i + 1)), vI (sc xs (i + 2))]) (st := [vI r1]) h.2.1.1 h.2.1.2.2 (Lst_rm h) dL_law_930 lL_95 iX12_trips rfl rfl rfl (Nat.le_of_ble_eq_true rfl) T (fun r_1 M2 T => ?_)
  obtain ⟨r2, rfl, rfl, I2⟩ := T
  exact xl_eq dL_law_933 (by decide) (nx G M2 cs sl (Lst_same h I2))
theorem law_brought (h : Lst K L xs G M cs sl (t + 1)) (hi : i + 7 ≤ L) (nx : Nxt K L xs i t F) : CX G K mL (room_1, aN K, cs, sl) 938 (LO i) [] M F := by
  have S := h.2.2.1
  refine xr_aload_n (x := some (1, 99)) dL_law_938 rfl ?_
  refine xl_arg 1 S rfl (by omega) (by decide) dL_law_939 dL_law_940 dL_law_941 dL_law_942 dL_law_943 ?_
  refine xl_arg 2 S rfl (by omega) (by decide) dL_law_944 dL_law_945 dL_law_946 dL_law_947 dL_law_948 ?_
  refine xl_arg 3 S rfl (by omega) (by decide) dL_law_949 dL_law_950 dL_law_951 dL_law_952 dL_law_953 ?_
  refine xr_callV (n := 60) (md' := mX11_brought) (o := 1) (as := [vI (sc xs (i + 1)), vI (sc xs (i + 2)), vI (sc xs (i + 3))]) h.2.1.1 h.2.1.2.2 (Lst_rm h) dL_law_954 lL_96 iX11_brought rfl rfl rfl (Nat.le_of_ble_eq_true rfl) (lw_brought h.1) (fun r_1 M1 T => ?_)
  obtain ⟨r1, rfl, T⟩ := T
  refine xr_aload_n (x := some (0, 99)) dL_law_957 rfl ?_
  refine xl_arg 1 S rfl (by omega) (by decide) dL_law_958 dL_law_959 dL_law_960 dL_law_961 dL_law_962 ?_
  refine xl_arg 2 S rfl (by omega) (by decide) dL_law_963 dL_law_964 dL_law_965 dL_law_966 dL_law_967 ?_
  refine xl_arg 3 S rfl (by omega) (by decide) dL_law_968 dL_law_969 dL_law_970 dL_law_971 dL_law_972 ?_
  refine xr_callV (n := 60) (md' := mX12_brought) (o := 0) (as := [vI (sc xs (i + 1)), vI (sc xs (i + 2)), vI (sc xs (i + 3))]) (st := [vI r1]) h.2.1.1 h.2.1.2.2 (Lst_rm h) dL_law_973 lL_99 iX12_brought rfl rfl rfl (Nat.le_of_ble_eq_true rfl) T (fun r_1 M2 T => ?_)
  obtain ⟨r2, rfl, rfl, I2⟩ := T
  exact xl_eq dL_law_976 (by decide) (nx G M2 cs sl (Lst_same h I2))
theorem law_rider (h : Lst K L xs G M cs sl (t + 1)) (hi : i + 7 ≤ L) (nx : Nxt K L xs i t F) : CX G K mL (room_1, aN K, cs, sl) 981 (LO i) [] M F := by
  have S := h.2.2.1
  refine xr_aload_n (x := some (1, 99)) dL_law_981 rfl ?_
  refine xl_arg 1 S rfl (by omega) (by decide) dL_law_982 dL_law_983 dL_law_984 dL_law_985 dL_law_986 ?_
  refine xr_callV (n := 60) (md' := mX11_rider) (o := 1) (as := [vI (sc xs (i + 1))]) h.2.1.1 h.2.1.2.2 (Lst_rm h) dL_law_987 lL_100 iX11_rider rfl rfl rfl (Nat.le_of_ble_eq_true rfl) (lw_rider h.1) (fun r_1 M1 T => ?_)
  obtain ⟨r1, rfl, T⟩ := T
  refine xr_aload_n (x := some (0, 99)) dL_law_990 rfl ?_
  refine xl_arg 1 S rfl (by omega) (by decide) dL_law_991 dL_law_992 dL_law_993 dL_law_994 dL_law_995 ?_
  refine xr_callV (n := 60) (md' := mX12_rider) (o := 0) (as := [vI (sc xs (i + 1))]) (st := [vI r1]) h.2.1.1 h.2.1.2.2 (Lst_rm h) dL_law_996 lL_103 iX12_rider rfl rfl rfl (Nat.le_of_ble_eq_true rfl) T (fun r_1 M2 T => ?_)
  obtain ⟨r2, rfl, rfl, I2⟩ := T
  exact xl_eq dL_law_999 (by decide) (nx G M2 cs sl (Lst_same h I2))
theorem law_rides (h : Lst K L xs G M cs sl (t + 1)) (hi : i + 7 ≤ L) (nx : Nxt K L xs i t F) : CX G K mL (room_1, aN K, cs, sl) 1004 (LO i) [] M F := by
  have S := h.2.2.1
  refine xr_aload_n (x := some (1, 99)) dL_law_1004 rfl ?_
  refine xl_arg 1 S rfl (by omega) (by decide) dL_law_1005 dL_law_1006 dL_law_1007 dL_law_1008 dL_law_1009 ?_
  refine xr_callV (n := 60) (md' := mX11_rides) (o := 1) (as := [vI (sc xs (i + 1))]) h.2.1.1 h.2.1.2.2 (Lst_rm h) dL_law_1010 lL_104 iX11_rides rfl rfl rfl (Nat.le_of_ble_eq_true rfl) (lw_rides h.1) (fun r_1 M1 T => ?_)
  obtain ⟨r1, rfl, T⟩ := T
  refine xr_aload_n (x := some (0, 99)) dL_law_1013 rfl ?_
  refine xl_arg 1 S rfl (by omega) (by decide) dL_law_1014 dL_law_1015 dL_law_1016 dL_law_1017 dL_law_1018 ?_
  refine xr_callV (n := 60) (md' := mX12_rides) (o := 0) (as := [vI (sc xs (i + 1))]) (st := [vI r1]) h.2.1.1 h.2.1.2.2 (Lst_rm h) dL_law_1019 lL_107 iX12_rides rfl rfl rfl (Nat.le_of_ble_eq_true rfl) T (fun r_1 M2 T => ?_)
  obtain ⟨r2, rfl, rfl, I2⟩ := T
  exact xl_eq dL_law_1022 (by decide) (nx G M2 cs sl (Lst_same h I2))
theorem law_customer (h : Lst K L xs G M cs sl (t + 1)) (hi : i + 7 ≤ L) (nx : Nxt K L xs i t F) : CX G K mL (room_1, aN K, cs, sl) 1027 (LO i) [] M F := by
  have S := h.2.2.1
  refine xr_aload_n (x := some (1, 99)) dL_law_1027 rfl ?_
  refine xl_arg 1 S rfl (by omega) (by decide) dL_law_1028 dL_law_1029 dL_law_1030 dL_law_1031 dL_law_1032 ?_
  refine xl_arg 2 S rfl (by omega) (by decide) dL_law_1033 dL_law_1034 dL_law_1035 dL_law_1036 dL_law_1037 ?_
  refine xr_callV (n := 60) (md' := mX11_customer) (o := 1) (as := [vI (sc xs (i + 1)), vI (sc xs (i + 2))]) h.2.1.1 h.2.1.2.2 (Lst_rm h) dL_law_1038 lL_108 iX11_customer rfl rfl rfl (Nat.le_of_ble_eq_true rfl) (lw_customer h.1) (fun r_1 M1 T => ?_)
  obtain ⟨r1, rfl, T⟩ := T
  refine xr_aload_n (x := some (0, 99)) dL_law_1041 rfl ?_
  refine xl_arg 1 S rfl (by omega) (by decide) dL_law_1042 dL_law_1043 dL_law_1044 dL_law_1045 dL_law_1046 ?_
  refine xl_arg 2 S rfl (by omega) (by decide) dL_law_1047 dL_law_1048 dL_law_1049 dL_law_1050 dL_law_1051 ?_
  refine xr_callV (n := 60) (md' := mX12_customer) (o := 0) (as := [vI (sc xs (i + 1)), vI (sc xs (i + 2))]) (st := [vI r1]) h.2.1.1 h.2.1.2.2 (Lst_rm h) dL_law_1052 lL_111 iX12_customer rfl rfl rfl (Nat.le_of_ble_eq_true rfl) T (fun r_1 M2 T => ?_)
  obtain ⟨r2, rfl, rfl, I2⟩ := T
  exact xl_eq dL_law_1055 (by decide) (nx G M2 cs sl (Lst_same h I2))
theorem law_order (h : Lst K L xs G M cs sl (t + 1)) (hi : i + 7 ≤ L) (nx : Nxt K L xs i t F) : CX G K mL (room_1, aN K, cs, sl) 1060 (LO i) [] M F := by
  have S := h.2.2.1
  refine xr_aload_n (x := some (1, 99)) dL_law_1060 rfl ?_
  refine xl_arg 1 S rfl (by omega) (by decide) dL_law_1061 dL_law_1062 dL_law_1063 dL_law_1064 dL_law_1065 ?_
  refine xl_arg 2 S rfl (by omega) (by decide) dL_law_1066 dL_law_1067 dL_law_1068 dL_law_1069 dL_law_1070 ?_
  refine xr_callV (n := 60) (md' := mX11_order) (o := 1) (as := [vI (sc xs (i + 1)), vI (sc xs (i + 2))]) h.2.1.1 h.2.1.2.2 (Lst_rm h) dL_law_1071 lL_112 iX11_order rfl rfl rfl (Nat.le_of_ble_eq_true rfl) (lw_order h.1) (fun r_1 M1 T => ?_)
  obtain ⟨r1, rfl, T⟩ := T
  refine xr_aload_n (x := some (0, 99)) dL_law_1074 rfl ?_
  refine xl_arg 1 S rfl (by omega) (by decide) dL_law_1075 dL_law_1076 dL_law_1077 dL_law_1078 dL_law_1079 ?_
  refine xl_arg 2 S rfl (by omega) (by decide) dL_law_1080 dL_law_1081 dL_law_1082 dL_law_1083 dL_law_1084 ?_
  refine xr_callV (n := 60) (md' := mX12_order) (o := 0) (as := [vI (sc xs (i + 1)), vI (sc xs (i + 2))]) (st := [vI r1]) h.2.1.1 h.2.1.2.2 (Lst_rm h) dL_law_1085 lL_115 iX12_order rfl rfl rfl (Nat.le_of_ble_eq_true rfl) T (fun r_1 M2 T => ?_)
  obtain ⟨r2, rfl, rfl, I2⟩ := T
  exact xl_eq dL_law_1088 (by decide) (nx G M2 cs sl (Lst_same h I2))
theorem law_beds (h : Lst K L xs G M cs sl (t + 1)) (hi : i + 7 ≤ L) (nx : Nxt K L xs i t F) : CX G K mL (room_1, aN K, cs, sl) 1093 (LO i) [] M F := by
  have S := h.2.2.1
  refine xr_aload_n (x := some (1, 99)) dL_law_1093 rfl ?_
  refine xr_callV (n := 60) (md' := mX11_beds) (o := 1) (as := []) h.2.1.1 h.2.1.2.2 (Lst_rm h) dL_law_1094 lL_116 iX11_beds rfl rfl rfl (Nat.le_of_ble_eq_true rfl) (lw_beds h.1) (fun r_1 M1 T => ?_)
  obtain ⟨r1, rfl, T⟩ := T
  refine xr_aload_n (x := some (0, 99)) dL_law_1097 rfl ?_
  refine xr_callV (n := 60) (md' := mX12_beds) (o := 0) (as := []) (st := [vI r1]) h.2.1.1 h.2.1.2.2 (Lst_rm h) dL_law_1098 lL_119 iX12_beds rfl rfl rfl (Nat.le_of_ble_eq_true rfl) T (fun r_1 M2 T => ?_)
  obtain ⟨r2, rfl, rfl, I2⟩ := T
  exact xl_eq dL_law_1101 (by decide) (nx G M2 cs sl (Lst_same h I2))
theorem law_upward (h : Lst K L xs G M cs sl (t + 1)) (hi : i + 7 ≤ L) (nx : Nxt K L xs i t F) : CX G K mL (room_1, aN K, cs, sl) 1106 (LO i) [] M F := by
  have S := h.2.2.1
  refine xr_aload_n (x := some (1, 99)) dL_law_1106 rfl ?_
  refine xl_arg 1 S rfl (by omega) (by decide) dL_law_1107 dL_law_1108 dL_law_1109 dL_law_1110 dL_law_1111 ?_
  refine xr_callV (n := 60) (md' := mX11_upward) (o := 1) (as := [vI (sc xs (i + 1))]) h.2.1.1 h.2.1.2.2 (Lst_rm h) dL_law_1112 lL_120 iX11_upward rfl rfl rfl (Nat.le_of_ble_eq_true rfl) (lw_upward h.1) (fun r_1 M1 T => ?_)
  obtain ⟨r1, rfl, T⟩ := T
  refine xr_aload_n (x := some (0, 99)) dL_law_1115 rfl ?_
  refine xl_arg 1 S rfl (by omega) (by decide) dL_law_1116 dL_law_1117 dL_law_1118 dL_law_1119 dL_law_1120 ?_
  refine xr_callV (n := 60) (md' := mX12_upward) (o := 0) (as := [vI (sc xs (i + 1))]) (st := [vI r1]) h.2.1.1 h.2.1.2.2 (Lst_rm h) dL_law_1121 lL_123 iX12_upward rfl rfl rfl (Nat.le_of_ble_eq_true rfl) T (fun r_1 M2 T => ?_)
  obtain ⟨r2, rfl, rfl, I2⟩ := T
  exact xl_eq dL_law_1124 (by decide) (nx G M2 cs sl (Lst_same h I2))
theorem law_seed (h : Lst K L xs G M cs sl (t + 1)) (hi : i + 7 ≤ L) (nx : Nxt K L xs i t F) : CX G K mL (room_1, aN K, cs, sl) 1129 (LO i) [] M F := by
  have S := h.2.2.1
  refine xr_aload_n (x := some (1, 99)) dL_law_1129 rfl ?_
  refine xl_arg 1 S rfl (by omega) (by decide) dL_law_1130 dL_law_1131 dL_law_1132 dL_law_1133 dL_law_1134 ?_
  refine xr_callV (n := 60) (md' := mX11_seed) (o := 1) (as := [vI (sc xs (i + 1))]) h.2.1.1 h.2.1.2.2 (Lst_rm h) dL_law_1135 lL_124 iX11_seed rfl rfl rfl (Nat.le_of_ble_eq_true rfl) (lw_seed h.1) (fun r_1 M1 T => ?_)
  obtain ⟨r1, rfl, T⟩ := T
  refine xr_aload_n (x := some (0, 99)) dL_law_1138 rfl ?_
  refine xl_arg 1 S rfl (by omega) (by decide) dL_law_1139 dL_law_1140 dL_law_1141 dL_law_1142 dL_law_1143 ?_
  refine xr_callV (n := 60) (md' := mX12_seed) (o := 0) (as := [vI (sc xs (i + 1))]) (st := [vI r1]) h.2.1.1 h.2.1.2.2 (Lst_rm h) dL_law_1144 lL_127 iX12_seed rfl rfl rfl (Nat.le_of_ble_eq_true rfl) T (fun r_1 M2 T => ?_)
  obtain ⟨r2, rfl, rfl, I2⟩ := T
  exact xl_eq dL_law_1147 (by decide) (nx G M2 cs sl (Lst_same h I2))
theorem law_drawn (h : Lst K L xs G M cs sl (t + 1)) (hi : i + 7 ≤ L) (nx : Nxt K L xs i t F) : CX G K mL (room_1, aN K, cs, sl) 1152 (LO i) [] M F := by
  have S := h.2.2.1
  refine xr_aload_n (x := some (1, 99)) dL_law_1152 rfl ?_
  refine xl_arg 1 S rfl (by omega) (by decide) dL_law_1153 dL_law_1154 dL_law_1155 dL_law_1156 dL_law_1157 ?_
  refine xl_arg 2 S rfl (by omega) (by decide) dL_law_1158 dL_law_1159 dL_law_1160 dL_law_1161 dL_law_1162 ?_
  refine xl_arg 3 S rfl (by omega) (by decide) dL_law_1163 dL_law_1164 dL_law_1165 dL_law_1166 dL_law_1167 ?_
  refine xr_callV (n := 60) (md' := mX11_drawn) (o := 1) (as := [vI (sc xs (i + 1)), vI (sc xs (i + 2)), vI (sc xs (i + 3))]) h.2.1.1 h.2.1.2.2 (Lst_rm h) dL_law_1168 lL_128 iX11_drawn rfl rfl rfl (Nat.le_of_ble_eq_true rfl) (lw_drawn h.1) (fun r_1 M1 T => ?_)
  obtain ⟨r1, rfl, T⟩ := T
  refine xr_aload_n (x := some (0, 99)) dL_law_1171 rfl ?_
  refine xl_arg 1 S rfl (by omega) (by decide) dL_law_1172 dL_law_1173 dL_law_1174 dL_law_1175 dL_law_1176 ?_
  refine xl_arg 2 S rfl (by omega) (by decide) dL_law_1177 dL_law_1178 dL_law_1179 dL_law_1180 dL_law_1181 ?_
  refine xl_arg 3 S rfl (by omega) (by decide) dL_law_1182 dL_law_1183 dL_law_1184 dL_law_1185 dL_law_1186 ?_
  refine xr_callV (n := 60) (md' := mX12_drawn) (o := 0) (as := [vI (sc xs (i + 1)), vI (sc xs (i + 2)), vI (sc xs (i + 3))]) (st := [vI r1]) h.2.1.1 h.2.1.2.2 (Lst_rm h) dL_law_1187 lL_131 iX12_drawn rfl rfl rfl (Nat.le_of_ble_eq_true rfl) T (fun r_1 M2 T => ?_)
  obtain ⟨r2, rfl, rfl, I2⟩ := T
  exact xl_eq dL_law_1190 (by decide) (nx G M2 cs sl (Lst_same h I2))
theorem law_count (h : Lst K L xs G M cs sl (t + 1)) (hi : i + 7 ≤ L) (nx : Nxt K L xs i t F) : CX G K mL (room_1, aN K, cs, sl) 1195 (LO i) [] M F := by
  have S := h.2.2.1
  refine xr_aload_n (x := some (1, 99)) dL_law_1195 rfl ?_
  refine xl_arg 1 S rfl (by omega) (by decide) dL_law_1196 dL_law_1197 dL_law_1198 dL_law_1199 dL_law_1200 ?_
  refine xr_callV (n := 60) (md' := mX11_count) (o := 1) (as := [vI (sc xs (i + 1))]) h.2.1.1 h.2.1.2.2 (Lst_rm h) dL_law_1201 lL_132 iX11_count rfl rfl rfl (Nat.le_of_ble_eq_true rfl) (lw_count h.1) (fun r_1 M1 T => ?_)
  obtain ⟨r1, rfl, T⟩ := T
  refine xr_aload_n (x := some (0, 99)) dL_law_1204 rfl ?_
  refine xl_arg 1 S rfl (by omega) (by decide) dL_law_1205 dL_law_1206 dL_law_1207 dL_law_1208 dL_law_1209 ?_
  refine xr_callV (n := 60) (md' := mX12_count) (o := 0) (as := [vI (sc xs (i + 1))]) (st := [vI r1]) h.2.1.1 h.2.1.2.2 (Lst_rm h) dL_law_1210 lL_135 iX12_count rfl rfl rfl (Nat.le_of_ble_eq_true rfl) T (fun r_1 M2 T => ?_)
  obtain ⟨r2, rfl, rfl, I2⟩ := T
  exact xl_eq dL_law_1213 (by decide) (nx G M2 cs sl (Lst_same h I2))
theorem law_image (h : Lst K L xs G M cs sl (t + 1)) (hi : i + 7 ≤ L) (nx : Nxt K L xs i t F) : CX G K mL (room_1, aN K, cs, sl) 1218 (LO i) [] M F := by
  have S0 := h.2.2.1
  have hc : cs + 27 ≤ 600000 := by have := h.2.2.2.1; omega
  have hs : sl + 368 ≤ 7302250 := by have := h.2.2.2.2; omega
  refine xr_aload_n (x := some (1, 99)) dL_law_1218 rfl ?_
  refine xl_arg 1 S0 rfl (by omega) (by decide) dL_law_1219 dL_law_1220 dL_law_1221 dL_law_1222 dL_law_1223 ?_
  refine xr_callN (n := 60) (mc := 27) (ms := 368) (md' := mX11_image) (o := 1) (as := [vI (sc xs (i + 1))]) h.2.1 ⟨by show 60 + 1 ≤ 2048; decide, by show 119 + 120 * 60 ≤ 84000; decide, hc, hs⟩ dL_law_1224 lL_136 iX11_image rfl rfl rfl (Nat.le_of_ble_eq_true rfl) (lw_image h.1) (fun G1 r1 M1 g hA1 T => ?_)
  have S := Sc_gr g S0
  refine xr_aload_n (x := some (0, 99)) dL_law_1227 rfl ?_
  refine xl_arg 1 S rfl (by omega) (by decide) dL_law_1228 dL_law_1229 dL_law_1230 dL_law_1231 dL_law_1232 ?_
  refine xr_callV (n := 60) (md' := mX12_image) (o := 0) (as := [vI (sc xs (i + 1))]) (st := [vI r1]) hA1.1 hA1.2.2 ⟨by show 60 + 1 ≤ 2048; decide, by show 119 + 120 * 60 ≤ 84000; decide, hc, hs⟩ dL_law_1233 lL_139 iX12_image rfl rfl rfl (Nat.le_of_ble_eq_true rfl) T (fun r_1 M2 T => ?_)
  obtain ⟨r2, rfl, rfl, I2⟩ := T
  exact xl_eq dL_law_1236 (by decide) (nx G1 M2 _ _ (Lst_gr h g hA1 I2 (by decide) (by decide)))
theorem law_back (h : Lst K L xs G M cs sl (t + 1)) (hi : i + 7 ≤ L) (nx : Nxt K L xs i t F) : CX G K mL (room_1, aN K, cs, sl) 1241 (LO i) [] M F := by
  have S := h.2.2.1
  refine xr_aload_n (x := some (1, 99)) dL_law_1241 rfl ?_
  refine xl_arg 1 S rfl (by omega) (by decide) dL_law_1242 dL_law_1243 dL_law_1244 dL_law_1245 dL_law_1246 ?_
  refine xr_callV (n := 60) (md' := mX11_back) (o := 1) (as := [vI (sc xs (i + 1))]) h.2.1.1 h.2.1.2.2 (Lst_rm h) dL_law_1247 lL_140 iX11_back rfl rfl rfl (Nat.le_of_ble_eq_true rfl) (lw_back h.1) (fun r_1 M1 T => ?_)
  obtain ⟨r1, rfl, T⟩ := T
  refine xr_aload_n (x := some (0, 99)) dL_law_1250 rfl ?_
  refine xl_arg 1 S rfl (by omega) (by decide) dL_law_1251 dL_law_1252 dL_law_1253 dL_law_1254 dL_law_1255 ?_
  refine xr_callV (n := 60) (md' := mX12_back) (o := 0) (as := [vI (sc xs (i + 1))]) (st := [vI r1]) h.2.1.1 h.2.1.2.2 (Lst_rm h) dL_law_1256 lL_143 iX12_back rfl rfl rfl (Nat.le_of_ble_eq_true rfl) T (fun r_1 M2 T => ?_)
  obtain ⟨r2, rfl, rfl, I2⟩ := T
  exact xl_eq dL_law_1259 (by decide) (nx G M2 cs sl (Lst_same h I2))
theorem law_case (h : Lst K L xs G M cs sl (t + 1)) (hi : i + 7 ≤ L) (nx : Nxt K L xs i t F) : ∀ (j q : Nat), ([168, 231, 254, 267, 280, 313, 346, 379, 412, 445, 478, 547, 606, 649, 702, 771, 862, 905, 938, 981, 1004, 1027, 1060, 1093, 1106, 1129, 1152, 1195, 1218, 1241] : List Nat)[j]? = some q → CX G K mL (room_1, aN K, cs, sl) q (LO i) [] M F := by
  intro j q hj
  have hlt : j < 30 := (List.getElem?_eq_some_iff.mp hj).1
  match j, hj, hlt with
  | 0, hj, _ => cases hj; exact law_feed h hi nx
  | 1, hj, _ => cases hj; exact law_end h hi nx
  | 2, hj, _ => cases hj; exact law_house h hi nx
  | 3, hj, _ => cases hj; exact law_rule h hi nx
  | 4, hj, _ => cases hj; exact law_room h hi nx
  | 5, hj, _ => cases hj; exact law_way h hi nx
  | 6, hj, _ => cases hj; exact law_person h hi nx
  | 7, hj, _ => cases hj; exact law_go h hi nx
  | 8, hj, _ => cases hj; exact law_tick h hi nx
  | 9, hj, _ => cases hj; exact law_ahead h hi nx
  | 10, hj, _ => cases hj; exact law_soonest h hi nx
  | 11, hj, _ => cases hj; exact law_still h hi nx
  | 12, hj, _ => cases hj; exact law_downs h hi nx
  | 13, hj, _ => cases hj; exact law_errand h hi nx
  | 14, hj, _ => cases hj; exact law_best h hi nx
  | 15, hj, _ => cases hj; exact law_meeting h hi nx
  | 16, hj, _ => cases hj; exact law_trip h hi nx
  | 17, hj, _ => cases hj; exact law_trips h hi nx
  | 18, hj, _ => cases hj; exact law_brought h hi nx
  | 19, hj, _ => cases hj; exact law_rider h hi nx
  | 20, hj, _ => cases hj; exact law_rides h hi nx
  | 21, hj, _ => cases hj; exact law_customer h hi nx
  | 22, hj, _ => cases hj; exact law_order h hi nx
  | 23, hj, _ => cases hj; exact law_beds h hi nx
  | 24, hj, _ => cases hj; exact law_upward h hi nx
  | 25, hj, _ => cases hj; exact law_seed h hi nx
  | 26, hj, _ => cases hj; exact law_drawn h hi nx
  | 27, hj, _ => cases hj; exact law_count h hi nx
  | 28, hj, _ => cases hj; exact law_image h hi nx
  | 29, hj, _ => cases hj; exact law_back h hi nx
  | j + 30, _, hlt => omega
end LWA
