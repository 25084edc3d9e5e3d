theorem gt1 {w : Cond} {i : Nat} (h : tables_1_1[i]? = some w) (hg : goodWord w = true) : w ∈ gw := List.mem_filter.mpr ⟨List.mem_append_right _ (List.mem_append_left _ (List.mem_of_getElem? h)), hg⟩
theorem gt2 {w : Cond} {i : Nat} (h : tables_1_2[i]? = some w) (hg : goodWord w = true) : w ∈ gw := List.mem_filter.mpr ⟨List.mem_append_right _ (List.mem_append_right _ (List.mem_append_left _ (List.mem_of_getElem? h))), hg⟩
theorem gt3 {w : Cond} {i : Nat} (h : tables_1_3[i]? = some w) (hg : goodWord w = true) : w ∈ gw := List.mem_filter.mpr ⟨List.mem_append_right _ (List.mem_append_right _ (List.mem_append_right _ (List.mem_append_left _ (List.mem_of_getElem? h)))), hg⟩
theorem gt4 {w : Cond} {i : Nat} (h : tables_1_4[i]? = some w) (hg : goodWord w = true) : w ∈ gw := List.mem_filter.mpr ⟨List.mem_append_right _ (List.mem_append_right _ (List.mem_append_right _ (List.mem_append_right _ (List.mem_append_left _ (List.mem_of_getElem? h))))), hg⟩
theorem gt5 {w : Cond} {i : Nat} (h : tables_1_5[i]? = some w) (hg : goodWord w = true) : w ∈ gw := List.mem_filter.mpr ⟨List.mem_append_right _ (List.mem_append_right _ (List.mem_append_right _ (List.mem_append_right _ (List.mem_append_right _ (List.mem_append_left _ (List.mem_of_getElem? h)))))), hg⟩
theorem gt6 {w : Cond} {i : Nat} (h : tables_1_6[i]? = some w) (hg : goodWord w = true) : w ∈ gw := List.mem_filter.mpr ⟨List.mem_append_right _ (List.mem_append_right _ (List.mem_append_right _ (List.mem_append_right _ (List.mem_append_right _ (List.mem_append_right _ (List.mem_append_left _ (List.mem_of_getElem? h))))))), hg⟩
theorem gt7 {w : Cond} {i : Nat} (h : tables_1_7[i]? = some w) (hg : goodWord w = true) : w ∈ gw := List.mem_filter.mpr ⟨List.mem_append_right _ (List.mem_append_right _ (List.mem_append_right _ (List.mem_append_right _ (List.mem_append_right _ (List.mem_append_right _ (List.mem_append_right _ (List.mem_append_left _ (List.mem_of_getElem? h)))))))), hg⟩
theorem gt8 {w : Cond} {i : Nat} (h : tables_1_8[i]? = some w) (hg : goodWord w = true) : w ∈ gw := List.mem_filter.mpr ⟨List.mem_append_right _ (List.mem_append_right _ (List.mem_append_right _ (List.mem_append_right _ (List.mem_append_right _ (List.mem_append_right _ (List.mem_append_right _ (List.mem_append_right _ (List.mem_of_getElem? h)))))))), hg⟩
theorem gp1 {q : MethodName} {x i : Nat} (h : lw_privs_1[i]? = some (q, x)) : Cond.selects q.cls q q ∈ gw := List.mem_filter.mpr ⟨List.mem_append_left _ (List.mem_map.mpr ⟨(q, x), (List.mem_append_left _ (List.mem_of_getElem? h)), rfl⟩), rfl⟩
theorem gp2 {q : MethodName} {x i : Nat} (h : lw_privs_2[i]? = some (q, x)) : Cond.selects q.cls q q ∈ gw := List.mem_filter.mpr ⟨List.mem_append_left _ (List.mem_map.mpr ⟨(q, x), (List.mem_append_right _ (List.mem_append_left _ (List.mem_of_getElem? h))), rfl⟩), rfl⟩
theorem gp3 {q : MethodName} {x i : Nat} (h : lw_privs_3[i]? = some (q, x)) : Cond.selects q.cls q q ∈ gw := List.mem_filter.mpr ⟨List.mem_append_left _ (List.mem_map.mpr ⟨(q, x), (List.mem_append_right _ (List.mem_append_right _ (List.mem_append_left _ (List.mem_of_getElem? h)))), rfl⟩), rfl⟩
theorem gp4 {q : MethodName} {x i : Nat} (h : lw_privs_4[i]? = some (q, x)) : Cond.selects q.cls q q ∈ gw := List.mem_filter.mpr ⟨List.mem_append_left _ (List.mem_map.mpr ⟨(q, x), (List.mem_append_right _ (List.mem_append_right _ (List.mem_append_right _ (List.mem_append_left _ (List.mem_of_getElem? h))))), rfl⟩), rfl⟩
theorem gp5 {q : MethodName} {x i : Nat} (h : lw_privs_5[i]? = some (q, x)) : Cond.selects q.cls q q ∈ gw := List.mem_filter.mpr ⟨List.mem_append_left _ (List.mem_map.mpr ⟨(q, x), (List.mem_append_right _ (List.mem_append_right _ (List.mem_append_right _ (List.mem_append_right _ (List.mem_append_left _ (List.mem_of_getElem? h)))))), rfl⟩), rfl⟩
theorem gp6 {q : MethodName} {x i : Nat} (h : lw_privs_6[i]? = some (q, x)) : Cond.selects q.cls q q ∈ gw := List.mem_filter.mpr ⟨List.mem_append_left _ (List.mem_map.mpr ⟨(q, x), (List.mem_append_right _ (List.mem_append_right _ (List.mem_append_right _ (List.mem_append_right _ (List.mem_append_right _ (List.mem_append_left _ (List.mem_of_getElem? h))))))), rfl⟩), rfl⟩
theorem gp7 {q : MethodName} {x i : Nat} (h : lw_privs_7[i]? = some (q, x)) : Cond.selects q.cls q q ∈ gw := List.mem_filter.mpr ⟨List.mem_append_left _ (List.mem_map.mpr ⟨(q, x), (List.mem_append_right _ (List.mem_append_right _ (List.mem_append_right _ (List.mem_append_right _ (List.mem_append_right _ (List.mem_append_right _ (List.mem_append_left _ (List.mem_of_getElem? h)))))))), rfl⟩), rfl⟩
theorem gp8 {q : MethodName} {x i : Nat} (h : lw_privs_8[i]? = some (q, x)) : Cond.selects q.cls q q ∈ gw := List.mem_filter.mpr ⟨List.mem_append_left _ (List.mem_map.mpr ⟨(q, x), (List.mem_append_right _ (List.mem_append_right _ (List.mem_append_right _ (List.mem_append_right _ (List.mem_append_right _ (List.mem_append_right _ (List.mem_append_right _ (List.mem_of_getElem? h)))))))), rfl⟩), rfl⟩
theorem gw_lays {C : String} {T : u_T} {N : Nat} (ps : List Nat) (h : u_ws C T N = ps.filterMap (fun i => lw_tbl[i]?)) (hg : (u_ws C T N).all goodWord = true) : ∀ w ∈ u_ws C T N, w ∈ gw := by
  intro w hw
  have h1 := List.all_eq_true.mp hg w hw
  rw [h] at hw
  obtain ⟨i, -, hi⟩ := List.mem_filterMap.mp hw
  exact gw_of hi h1
theorem gX0 : ∀ w ∈ u_ws RX0 TX0 6, w ∈ gw := gw_lays [323, 325, 327, 329, 331, 333] (by decide +kernel) (by decide +kernel)
theorem gX1 : ∀ w ∈ u_ws RX1 TX1 15, w ∈ gw := gw_lays [265, 267, 269, 271, 273, 275, 277, 279, 281, 283, 285, 287, 289, 291, 293] (by decide +kernel) (by decide +kernel)
theorem gX2 : ∀ w ∈ u_ws RX2 TX2 3, w ∈ gw := gw_lays [544, 546, 548] (by decide +kernel) (by decide +kernel)
theorem gX3 : ∀ w ∈ u_ws RX3 TX3 16, w ∈ gw := gw_lays [377, 379, 381, 383, 385, 387, 389, 391, 393, 395, 397, 399, 401, 403, 405, 407] (by decide +kernel) (by decide +kernel)
theorem gX4 : ∀ w ∈ u_ws RX4 TX4 5, w ∈ gw := gw_lays [1099, 1101, 1103, 1105, 1107] (by decide +kernel) (by decide +kernel)
theorem gX5 : ∀ w ∈ u_ws RX5 TX5 1, w ∈ gw := gw_lays [435] (by decide +kernel) (by decide +kernel)
theorem gX6 : ∀ w ∈ u_ws RX6 TX6 8, w ∈ gw := gw_lays [753, 755, 757, 759, 761, 763, 765, 767] (by decide +kernel) (by decide +kernel)
theorem gX7 : ∀ w ∈ u_ws RX7 TX7 4, w ∈ gw := gw_lays [781, 783, 785, 787] (by decide +kernel) (by decide +kernel)
theorem gX8 : ∀ w ∈ u_ws RX8 TX8 3, w ∈ gw := gw_lays [418, 420, 422] (by decide +kernel) (by decide +kernel)
theorem gX9 : ∀ w ∈ u_ws RX9 TX9 8, w ∈ gw := gw_lays [175, 177, 179, 181, 183, 185, 187, 189] (by decide +kernel) (by decide +kernel)
theorem gX10 : ∀ w ∈ u_ws RX10 TX10 6, w ∈ gw := gw_lays [454, 456, 458, 460, 462, 464] (by decide +kernel) (by decide +kernel)
theorem gX11 : ∀ w ∈ u_ws RX11 TX11 17, w ∈ gw := gw_lays [484, 486, 488, 490, 492, 494, 496, 498, 500, 502, 504, 506, 508, 510, 512, 514, 516] (by decide +kernel) (by decide +kernel)
theorem gX12 : ∀ w ∈ u_ws RX12 TX12 47, w ∈ gw := gw_lays [1351, 1353, 1355, 1357, 1359, 1361, 1363, 1365, 1367, 1369, 1371, 1373, 1375, 1377, 1379, 1381, 1383, 1385, 1387, 1389, 1391, 1393, 1395, 1397, 1399, 1401, 1403, 1405, 1407, 1409, 1411, 1413, 1415, 1417, 1419, 1421, 1423, 1425, 1427, 1429, 1431, 1433, 1435, 1437, 1439, 1441, 1443] (by decide +kernel) (by decide +kernel)
theorem tX0_0 : fK 0 0 = 0 := rfl
theorem tX0_1 : fK 0 1 = 0 := rfl
theorem tX0_2 : fK 0 2 = 1 := rfl
theorem uX0_2 : isA (fK 0 2) = true := rfl
theorem aX0_2 : ((aL 0 2 : Nat) : Int) = 8 := rfl
theorem tX0_3 : fK 0 3 = 1 := rfl
theorem uX0_3 : isA (fK 0 3) = true := rfl
theorem aX0_3 : ((aL 0 3 : Nat) : Int) = 8 := rfl
theorem tX0_4 : fK 0 4 = 1 := rfl
theorem uX0_4 : isA (fK 0 4) = true := rfl
theorem aX0_4 : ((aL 0 4 : Nat) : Int) = 8 := rfl
theorem tX0_5 : fK 0 5 = 1 := rfl
theorem uX0_5 : isA (fK 0 5) = true := rfl
theorem aX0_5 : ((aL 0 5 : Nat) : Int) = 8 := rfl
theorem tX1_0 : fK 1 0 = 0 := rfl
theorem tX1_1 : fK 1 1 = 0 := rfl
theorem tX1_2 : fK 1 2 = 0 := rfl
theorem tX1_3 : fK 1 3 = 0 := rfl
theorem tX1_4 : fK 1 4 = 0 := rfl
theorem tX1_5 : fK 1 5 = 0 := rfl
theorem tX1_6 : fK 1 6 = 0 := rfl
theorem tX1_7 : fK 1 7 = 1 := rfl
theorem uX1_7 : isA (fK 1 7) = true := rfl
theorem aX1_7 : ((aL 1 7 : Nat) : Int) = 16 := rfl
theorem tX1_8 : fK 1 8 = 1 := rfl
theorem uX1_8 : isA (fK 1 8) = true := rfl
theorem aX1_8 : ((aL 1 8 : Nat) : Int) = 24 := rfl
theorem tX1_9 : fK 1 9 = 1 := rfl
theorem uX1_9 : isA (fK 1 9) = true := rfl
theorem aX1_9 : ((aL 1 9 : Nat) : Int) = 24 := rfl
theorem tX1_10 : fK 1 10 = 1 := rfl
theorem uX1_10 : isA (fK 1 10) = true := rfl
theorem aX1_10 : ((aL 1 10 : Nat) : Int) = 24 := rfl
theorem tX1_11 : fK 1 11 = 1 := rfl
theorem uX1_11 : isA (fK 1 11) = true := rfl
theorem aX1_11 : ((aL 1 11 : Nat) : Int) = 24 := rfl
theorem tX1_12 : fK 1 12 = 1 := rfl
theorem uX1_12 : isA (fK 1 12) = true := rfl
theorem aX1_12 : ((aL 1 12 : Nat) : Int) = 24 := rfl
theorem tX1_13 : fK 1 13 = 1 := rfl
theorem uX1_13 : isA (fK 1 13) = true := rfl
theorem aX1_13 : ((aL 1 13 : Nat) : Int) = 24 := rfl
theorem tX1_14 : fK 1 14 = 1 := rfl
theorem uX1_14 : isA (fK 1 14) = true := rfl
theorem aX1_14 : ((aL 1 14 : Nat) : Int) = 8 := rfl
theorem tX2_0 : fK 2 0 = 7 := rfl
theorem tX2_1 : fK 2 1 = 7 := rfl
theorem tX2_2 : fK 2 2 = 0 := rfl
theorem tX3_0 : fK 3 0 = 0 := rfl
theorem tX3_1 : fK 3 1 = 0 := rfl
theorem tX3_2 : fK 3 2 = 0 := rfl
theorem tX3_3 : fK 3 3 = 0 := rfl
theorem tX3_4 : fK 3 4 = 0 := rfl
theorem tX3_5 : fK 3 5 = 1 := rfl
theorem uX3_5 : isA (fK 3 5) = true := rfl
theorem aX3_5 : ((aL 3 5 : Nat) : Int) = 10 := rfl
theorem tX3_6 : fK 3 6 = 1 := rfl
theorem uX3_6 : isA (fK 3 6) = true := rfl
theorem aX3_6 : ((aL 3 6 : Nat) : Int) = 10 := rfl
theorem tX3_7 : fK 3 7 = 1 := rfl
theorem uX3_7 : isA (fK 3 7) = true := rfl
theorem aX3_7 : ((aL 3 7 : Nat) : Int) = 10 := rfl
theorem tX3_8 : fK 3 8 = 1 := rfl
theorem uX3_8 : isA (fK 3 8) = true := rfl
theorem aX3_8 : ((aL 3 8 : Nat) : Int) = 10 := rfl
theorem tX3_9 : fK 3 9 = 1 := rfl
theorem uX3_9 : isA (fK 3 9) = true := rfl
theorem aX3_9 : ((aL 3 9 : Nat) : Int) = 12 := rfl
theorem tX3_10 : fK 3 10 = 1 := rfl
theorem uX3_10 : isA (fK 3 10) = true := rfl
theorem aX3_10 : ((aL 3 10 : Nat) : Int) = 12 := rfl
theorem tX3_11 : fK 3 11 = 1 := rfl
theorem uX3_11 : isA (fK 3 11) = true := rfl
theorem aX3_11 : ((aL 3 11 : Nat) : Int) = 12 := rfl
theorem tX3_12 : fK 3 12 = 1 := rfl
theorem uX3_12 : isA (fK 3 12) = true := rfl
theorem aX3_12 : ((aL 3 12 : Nat) : Int) = 12 := rfl
theorem tX3_13 : fK 3 13 = 1 := rfl
theorem uX3_13 : isA (fK 3 13) = true := rfl
theorem aX3_13 : ((aL 3 13 : Nat) : Int) = 20 := rfl
theorem tX3_14 : fK 3 14 = 1 := rfl
theorem uX3_14 : isA (fK 3 14) = true := rfl
theorem aX3_14 : ((aL 3 14 : Nat) : Int) = 10 := rfl
theorem tX3_15 : fK 3 15 = 1 := rfl
theorem uX3_15 : isA (fK 3 15) = true := rfl
theorem aX3_15 : ((aL 3 15 : Nat) : Int) = 10 := rfl
theorem tX4_0 : fK 4 0 = 7 := rfl
theorem tX4_1 : fK 4 1 = 1 := rfl
theorem uX4_1 : isA (fK 4 1) = true := rfl
theorem aX4_1 : ((aL 4 1 : Nat) : Int) = 20480 := rfl
theorem tX4_2 : fK 4 2 = 0 := rfl
theorem tX4_3 : fK 4 3 = 0 := rfl
theorem tX4_4 : fK 4 4 = 0 := rfl
theorem tX5_0 : fK 5 0 = 1 := rfl
theorem uX5_0 : isA (fK 5 0) = true := rfl
theorem aX5_0 : ((aL 5 0 : Nat) : Int) = 32 := rfl
theorem tX6_0 : fK 6 0 = 0 := rfl
theorem tX6_1 : fK 6 1 = 1 := rfl
theorem uX6_1 : isA (fK 6 1) = true := rfl
theorem aX6_1 : ((aL 6 1 : Nat) : Int) = 12 := rfl
theorem tX6_2 : fK 6 2 = 1 := rfl
theorem uX6_2 : isA (fK 6 2) = true := rfl
theorem aX6_2 : ((aL 6 2 : Nat) : Int) = 12 := rfl
theorem tX6_3 : fK 6 3 = 1 := rfl
theorem uX6_3 : isA (fK 6 3) = true := rfl
theorem aX6_3 : ((aL 6 3 : Nat) : Int) = 12 := rfl
theorem tX6_4 : fK 6 4 = 1 := rfl
theorem uX6_4 : isA (fK 6 4) = true := rfl
theorem aX6_4 : ((aL 6 4 : Nat) : Int) = 12 := rfl
theorem tX6_5 : fK 6 5 = 1 := rfl
theorem uX6_5 : isA (fK 6 5) = true := rfl
theorem aX6_5 : ((aL 6 5 : Nat) : Int) = 400 := rfl
theorem tX6_6 : fK 6 6 = 0 := rfl
theorem tX6_7 : fK 6 7 = 4 := rfl
theorem uX6_7 : isA (fK 6 7) = true := rfl
theorem aX6_7 : ((aL 6 7 : Nat) : Int) = 64 := rfl
theorem tX7_0 : fK 7 0 = 7 := rfl
theorem tX7_1 : fK 7 1 = 7 := rfl
theorem tX7_2 : fK 7 2 = 0 := rfl
theorem tX7_3 : fK 7 3 = 0 := rfl
theorem tX8_0 : fK 8 0 = 7 := rfl
theorem tX8_1 : fK 8 1 = 7 := rfl
theorem tX8_2 : fK 8 2 = 7 := rfl
theorem tX9_0 : fK 9 0 = 1 := rfl
theorem uX9_0 : isA (fK 9 0) = true := rfl
theorem aX9_0 : ((aL 9 0 : Nat) : Int) = 400 := rfl
theorem tX9_1 : fK 9 1 = 0 := rfl
theorem tX9_2 : fK 9 2 = 0 := rfl
theorem tX9_3 : fK 9 3 = 0 := rfl
theorem tX9_4 : fK 9 4 = 0 := rfl
theorem tX9_5 : fK 9 5 = 0 := rfl
theorem tX9_6 : fK 9 6 = 0 := rfl
theorem tX9_7 : fK 9 7 = 0 := rfl
theorem tX10_0 : fK 10 0 = 1 := rfl
theorem uX10_0 : isA (fK 10 0) = true := rfl
theorem aX10_0 : ((aL 10 0 : Nat) : Int) = 16 := rfl
theorem tX10_1 : fK 10 1 = 0 := rfl
theorem tX10_2 : fK 10 2 = 0 := rfl
theorem tX10_3 : fK 10 3 = 0 := rfl
theorem tX10_4 : fK 10 4 = 0 := rfl
theorem tX10_5 : fK 10 5 = 0 := rfl
theorem tX11_0 : fK 11 0 = 7 := rfl
theorem tX11_1 : fK 11 1 = 7 := rfl
theorem tX11_2 : fK 11 2 = 5 := rfl
theorem uX11_2 : isA (fK 11 2) = true := rfl
theorem aX11_2 : ((aL 11 2 : Nat) : Int) = 6 := rfl
theorem tX11_3 : fK 11 3 = 0 := rfl
theorem tX11_4 : fK 11 4 = 7 := rfl
theorem tX11_5 : fK 11 5 = 6 := rfl
theorem uX11_5 : isA (fK 11 5) = true := rfl
theorem aX11_5 : ((aL 11 5 : Nat) : Int) = 4 := rfl
theorem tX11_6 : fK 11 6 = 7 := rfl
theorem tX11_7 : fK 11 7 = 7 := rfl
theorem tX11_8 : fK 11 8 = 7 := rfl
theorem tX11_9 : fK 11 9 = 7 := rfl
theorem tX11_10 : fK 11 10 = 8 := rfl
theorem tX11_11 : fK 11 11 = 1 := rfl
theorem uX11_11 : isA (fK 11 11) = true := rfl
theorem aX11_11 : ((aL 11 11 : Nat) : Int) = 16 := rfl
theorem tX11_12 : fK 11 12 = 1 := rfl
theorem uX11_12 : isA (fK 11 12) = true := rfl
theorem aX11_12 : ((aL 11 12 : Nat) : Int) = 16 := rfl
theorem tX11_13 : fK 11 13 = 1 := rfl
theorem uX11_13 : isA (fK 11 13) = true := rfl
theorem aX11_13 : ((aL 11 13 : Nat) : Int) = 16 := rfl
theorem tX11_14 : fK 11 14 = 1 := rfl
theorem uX11_14 : isA (fK 11 14) = true := rfl
theorem aX11_14 : ((aL 11 14 : Nat) : Int) = 16 := rfl
theorem tX11_15 : fK 11 15 = 1 := rfl
theorem uX11_15 : isA (fK 11 15) = true := rfl
theorem aX11_15 : ((aL 11 15 : Nat) : Int) = 20 := rfl
theorem tX11_16 : fK 11 16 = 1 := rfl
theorem uX11_16 : isA (fK 11 16) = true := rfl
theorem aX11_16 : ((aL 11 16 : Nat) : Int) = 64 := rfl
theorem tX12_0 : fK 12 0 = 2 := rfl
theorem uX12_0 : isA (fK 12 0) = true := rfl
theorem aX12_0 : ((aL 12 0 : Nat) : Int) = 400 := rfl
theorem tX12_1 : fK 12 1 = 0 := rfl
theorem tX12_2 : fK 12 2 = 0 := rfl
theorem tX12_3 : fK 12 3 = 1 := rfl
theorem uX12_3 : isA (fK 12 3) = true := rfl
theorem aX12_3 : ((aL 12 3 : Nat) : Int) = 2400 := rfl
theorem tX12_4 : fK 12 4 = 1 := rfl
theorem uX12_4 : isA (fK 12 4) = true := rfl
theorem aX12_4 : ((aL 12 4 : Nat) : Int) = 7 := rfl
theorem tX12_5 : fK 12 5 = 1 := rfl
theorem uX12_5 : isA (fK 12 5) = true := rfl
theorem aX12_5 : ((aL 12 5 : Nat) : Int) = 288 := rfl
theorem tX12_6 : fK 12 6 = 1 := rfl
theorem uX12_6 : isA (fK 12 6) = true := rfl
theorem aX12_6 : ((aL 12 6 : Nat) : Int) = 6 := rfl
theorem tX12_7 : fK 12 7 = 0 := rfl
theorem tX12_8 : fK 12 8 = 0 := rfl
theorem tX12_9 : fK 12 9 = 0 := rfl
theorem tX12_10 : fK 12 10 = 1 := rfl
theorem uX12_10 : isA (fK 12 10) = true := rfl
theorem aX12_10 : ((aL 12 10 : Nat) : Int) = 3 := rfl
theorem tX12_11 : fK 12 11 = 1 := rfl
theorem uX12_11 : isA (fK 12 11) = true := rfl
theorem aX12_11 : ((aL 12 11 : Nat) : Int) = 16 := rfl
theorem tX12_12 : fK 12 12 = 1 := rfl
theorem uX12_12 : isA (fK 12 12) = true := rfl
theorem aX12_12 : ((aL 12 12 : Nat) : Int) = 144 := rfl
theorem tX12_13 : fK 12 13 = 1 := rfl
theorem uX12_13 : isA (fK 12 13) = true := rfl
theorem aX12_13 : ((aL 12 13 : Nat) : Int) = 8 := rfl
theorem tX12_14 : fK 12 14 = 0 := rfl
theorem tX12_15 : fK 12 15 = 0 := rfl
theorem tX12_16 : fK 12 16 = 0 := rfl
theorem tX12_17 : fK 12 17 = 0 := rfl
theorem tX12_18 : fK 12 18 = 0 := rfl
theorem tX12_19 : fK 12 19 = 0 := rfl
theorem tX12_20 : fK 12 20 = 0 := rfl
theorem tX12_21 : fK 12 21 = 1 := rfl
theorem uX12_21 : isA (fK 12 21) = true := rfl
theorem aX12_21 : ((aL 12 21 : Nat) : Int) = 400 := rfl
theorem tX12_22 : fK 12 22 = 0 := rfl
theorem tX12_23 : fK 12 23 = 4 := rfl
theorem uX12_23 : isA (fK 12 23) = true := rfl
theorem aX12_23 : ((aL 12 23 : Nat) : Int) = 64 := rfl
theorem tX12_24 : fK 12 24 = 0 := rfl
theorem tX12_25 : fK 12 25 = 4 := rfl
theorem uX12_25 : isA (fK 12 25) = true := rfl
theorem aX12_25 : ((aL 12 25 : Nat) : Int) = 8 := rfl
theorem tX12_26 : fK 12 26 = 1 := rfl
theorem uX12_26 : isA (fK 12 26) = true := rfl
theorem aX12_26 : ((aL 12 26 : Nat) : Int) = 328 := rfl
theorem tX12_27 : fK 12 27 = 1 := rfl
theorem uX12_27 : isA (fK 12 27) = true := rfl
theorem aX12_27 : ((aL 12 27 : Nat) : Int) = 328 := rfl
theorem tX12_28 : fK 12 28 = 1 := rfl
theorem uX12_28 : isA (fK 12 28) = true := rfl
theorem aX12_28 : ((aL 12 28 : Nat) : Int) = 32 := rfl
theorem tX12_29 : fK 12 29 = 3 := rfl
theorem uX12_29 : isA (fK 12 29) = true := rfl
theorem aX12_29 : ((aL 12 29 : Nat) : Int) = 32 := rfl
theorem tX12_30 : fK 12 30 = 1 := rfl
theorem uX12_30 : isA (fK 12 30) = true := rfl
theorem aX12_30 : ((aL 12 30 : Nat) : Int) = 16 := rfl
theorem tX12_31 : fK 12 31 = 1 := rfl
theorem uX12_31 : isA (fK 12 31) = true := rfl
theorem aX12_31 : ((aL 12 31 : Nat) : Int) = 16 := rfl
theorem tX12_32 : fK 12 32 = 1 := rfl
theorem uX12_32 : isA (fK 12 32) = true := rfl
theorem aX12_32 : ((aL 12 32 : Nat) : Int) = 20480 := rfl
theorem tX12_33 : fK 12 33 = 1 := rfl
theorem uX12_33 : isA (fK 12 33) = true := rfl
theorem aX12_33 : ((aL 12 33 : Nat) : Int) = 16 := rfl
theorem tX12_34 : fK 12 34 = 1 := rfl
theorem uX12_34 : isA (fK 12 34) = true := rfl
theorem aX12_34 : ((aL 12 34 : Nat) : Int) = 1440 := rfl
theorem tX12_35 : fK 12 35 = 1 := rfl
theorem uX12_35 : isA (fK 12 35) = true := rfl
theorem aX12_35 : ((aL 12 35 : Nat) : Int) = 1440 := rfl
theorem tX12_36 : fK 12 36 = 1 := rfl
theorem uX12_36 : isA (fK 12 36) = true := rfl
theorem aX12_36 : ((aL 12 36 : Nat) : Int) = 1440 := rfl
theorem tX12_37 : fK 12 37 = 1 := rfl
theorem uX12_37 : isA (fK 12 37) = true := rfl
theorem aX12_37 : ((aL 12 37 : Nat) : Int) = 1440 := rfl
theorem tX12_38 : fK 12 38 = 1 := rfl
theorem uX12_38 : isA (fK 12 38) = true := rfl
theorem aX12_38 : ((aL 12 38 : Nat) : Int) = 1440 := rfl
theorem tX12_39 : fK 12 39 = 0 := rfl
theorem tX12_40 : fK 12 40 = 1 := rfl
theorem uX12_40 : isA (fK 12 40) = true := rfl
theorem aX12_40 : ((aL 12 40 : Nat) : Int) = 16 := rfl
theorem tX12_41 : fK 12 41 = 1 := rfl
theorem uX12_41 : isA (fK 12 41) = true := rfl
theorem aX12_41 : ((aL 12 41 : Nat) : Int) = 20 := rfl
theorem tX12_42 : fK 12 42 = 1 := rfl
theorem uX12_42 : isA (fK 12 42) = true := rfl
theorem aX12_42 : ((aL 12 42 : Nat) : Int) = 6 := rfl
theorem tX12_43 : fK 12 43 = 1 := rfl
theorem uX12_43 : isA (fK 12 43) = true := rfl
theorem aX12_43 : ((aL 12 43 : Nat) : Int) = 6 := rfl
theorem tX12_44 : fK 12 44 = 1 := rfl
theorem uX12_44 : isA (fK 12 44) = true := rfl
theorem aX12_44 : ((aL 12 44 : Nat) : Int) = 16 := rfl
theorem tX12_45 : fK 12 45 = 1 := rfl
theorem uX12_45 : isA (fK 12 45) = true := rfl
theorem aX12_45 : ((aL 12 45 : Nat) : Int) = 1312 := rfl
theorem tX12_46 : fK 12 46 = 3 := rfl
theorem uX12_46 : isA (fK 12 46) = true := rfl
theorem aX12_46 : ((aL 12 46 : Nat) : Int) = 4 := rfl
theorem fX11_10 : Fl RX11 10 11 0 := ⟨RX11, TX11, 17, rfl, rfl, by decide, gX11, gt2 (i := 104) (by decide +kernel) rfl⟩
theorem fX11_19 : Fl RX11 19 11 1 := ⟨RX11, TX11, 17, rfl, rfl, by decide, gX11, gt2 (i := 105) (by decide +kernel) rfl⟩
theorem fX11_25 : Fl RX11 25 11 2 := ⟨RX11, TX11, 17, rfl, rfl, by decide, gX11, gt2 (i := 106) (by decide +kernel) rfl⟩
theorem fX11_32 : Fl RX11 32 11 4 := ⟨RX11, TX11, 17, rfl, rfl, by decide, gX11, gt2 (i := 108) (by decide +kernel) rfl⟩
theorem fX11_36 : Fl RX11 36 11 5 := ⟨RX11, TX11, 17, rfl, rfl, by decide, gX11, gt2 (i := 109) (by decide +kernel) rfl⟩
theorem fX11_43 : Fl RX11 43 11 6 := ⟨RX11, TX11, 17, rfl, rfl, by decide, gX11, gt2 (i := 110) (by decide +kernel) rfl⟩
theorem fX11_50 : Fl RX11 50 11 7 := ⟨RX11, TX11, 17, rfl, rfl, by decide, gX11, gt2 (i := 111) (by decide +kernel) rfl⟩
theorem fX11_54 : Fl RX11 54 11 8 := ⟨RX11, TX11, 17, rfl, rfl, by decide, gX11, gt2 (i := 112) (by decide +kernel) rfl⟩
theorem fX11_60 : Fl RX11 60 11 9 := ⟨RX11, TX11, 17, rfl, rfl, by decide, gX11, gt2 (i := 113) (by decide +kernel) rfl⟩
theorem fX11_64 : Fl RX11 64 11 11 := ⟨RX11, TX11, 17, rfl, rfl, by decide, gX11, gt2 (i := 115) (by decide +kernel) rfl⟩
theorem fX11_68 : Fl RX11 68 11 12 := ⟨RX11, TX11, 17, rfl, rfl, by decide, gX11, gt2 (i := 116) (by decide +kernel) rfl⟩
theorem fX11_71 : Fl RX11 71 11 13 := ⟨RX11, TX11, 17, rfl, rfl, by decide, gX11, gt2 (i := 117) (by decide +kernel) rfl⟩
theorem fX11_74 : Fl RX11 74 11 14 := ⟨RX11, TX11, 17, rfl, rfl, by decide, gX11, gt2 (i := 118) (by decide +kernel) rfl⟩
theorem fX11_77 : Fl RX11 77 11 15 := ⟨RX11, TX11, 17, rfl, rfl, by decide, gX11, gt2 (i := 119) (by decide +kernel) rfl⟩
theorem fX11_80 : Fl RX11 80 11 16 := ⟨RX11, TX11, 17, rfl, rfl, by decide, gX11, gt2 (i := 120) (by decide +kernel) rfl⟩
theorem fX11_83 : Fl RX11 83 9 1 := ⟨RX9, TX9, 8, rfl, rfl, by decide, gX9, gt1 (i := 37) (by decide +kernel) rfl⟩
theorem pX11_83 : Fp RX11 83 9 1 := ⟨RX9, TX9, 8, tyX9, rfl, rfl, by decide, gX9, gt1 (i := 37) (by decide +kernel) rfl, tyX9_ok, nmX9, rfl, (by decide +kernel)⟩
theorem fX11_100 : Fl RX11 100 9 7 := ⟨RX9, TX9, 8, rfl, rfl, by decide, gX9, gt1 (i := 51) (by decide +kernel) rfl⟩
theorem pX11_100 : Fp RX11 100 9 7 := ⟨RX9, TX9, 8, tyX9, rfl, rfl, by decide, gX9, gt1 (i := 51) (by decide +kernel) rfl, tyX9_ok, nmX9, rfl, (by decide +kernel)⟩
theorem fX11_107 : Fl RX11 107 8 0 := ⟨RX8, TX8, 3, rfl, rfl, by decide, gX8, gt2 (i := 49) (by decide +kernel) rfl⟩
theorem fX11_110 : Fl RX11 110 1 0 := ⟨RX1, TX1, 15, rfl, rfl, by decide, gX1, gt1 (i := 79) (by decide +kernel) rfl⟩
theorem pX11_110 : Fp RX11 110 1 0 := ⟨RX1, TX1, 15, tyX1, rfl, rfl, by decide, gX1, gt1 (i := 79) (by decide +kernel) rfl, tyX1_ok, nmX1, rfl, (by decide +kernel)⟩
theorem fX11_113 : Fl RX11 113 11 3 := ⟨RX11, TX11, 17, rfl, rfl, by decide, gX11, gt2 (i := 107) (by decide +kernel) rfl⟩
theorem pX11_113 : Fp RX11 113 11 3 := ⟨RX11, TX11, 17, tyX11, rfl, rfl, by decide, gX11, gt2 (i := 107) (by decide +kernel) rfl, tyX11_ok, nmX11, rfl, (by decide +kernel)⟩
theorem fX11_127 : Fl RX11 127 1 7 := ⟨RX1, TX1, 15, rfl, rfl, by decide, gX1, gt1 (i := 109) (by decide +kernel) rfl⟩
theorem fX11_130 : Fl RX11 130 8 1 := ⟨RX8, TX8, 3, rfl, rfl, by decide, gX8, gt2 (i := 51) (by decide +kernel) rfl⟩
theorem fX11_137 : Fl RX11 137 1 3 := ⟨RX1, TX1, 15, rfl, rfl, by decide, gX1, gt1 (i := 92) (by decide +kernel) rfl⟩
theorem pX11_137 : Fp RX11 137 1 3 := ⟨RX1, TX1, 15, tyX1, rfl, rfl, by decide, gX1, gt1 (i := 92) (by decide +kernel) rfl, tyX1_ok, nmX1, rfl, (by decide +kernel)⟩
theorem fX11_143 : Fl RX11 143 1 8 := ⟨RX1, TX1, 15, rfl, rfl, by decide, gX1, gt1 (i := 115) (by decide +kernel) rfl⟩
theorem fX11_146 : Fl RX11 146 1 9 := ⟨RX1, TX1, 15, rfl, rfl, by decide, gX1, gt1 (i := 119) (by decide +kernel) rfl⟩
theorem fX11_149 : Fl RX11 149 1 10 := ⟨RX1, TX1, 15, rfl, rfl, by decide, gX1, gt1 (i := 124) (by decide +kernel) rfl⟩
theorem fX11_152 : Fl RX11 152 1 11 := ⟨RX1, TX1, 15, rfl, rfl, by decide, gX1, gt1 (i := 129) (by decide +kernel) rfl⟩
theorem fX11_155 : Fl RX11 155 1 12 := ⟨RX1, TX1, 15, rfl, rfl, by decide, gX1, gt1 (i := 133) (by decide +kernel) rfl⟩
theorem fX11_158 : Fl RX11 158 1 13 := ⟨RX1, TX1, 15, rfl, rfl, by decide, gX1, gt1 (i := 137) (by decide +kernel) rfl⟩
theorem fX11_164 : Fl RX11 164 0 2 := ⟨RX0, TX0, 6, rfl, rfl, by decide, gX0, gt1 (i := 193) (by decide +kernel) rfl⟩
theorem fX11_167 : Fl RX11 167 1 14 := ⟨RX1, TX1, 15, rfl, rfl, by decide, gX1, gt1 (i := 140) (by decide +kernel) rfl⟩
theorem fX11_170 : Fl RX11 170 0 3 := ⟨RX0, TX0, 6, rfl, rfl, by decide, gX0, gt1 (i := 195) (by decide +kernel) rfl⟩
theorem fX11_173 : Fl RX11 173 0 4 := ⟨RX0, TX0, 6, rfl, rfl, by decide, gX0, gt1 (i := 197) (by decide +kernel) rfl⟩
theorem fX11_176 : Fl RX11 176 0 5 := ⟨RX0, TX0, 6, rfl, rfl, by decide, gX0, gt1 (i := 199) (by decide +kernel) rfl⟩
theorem fX11_179 : Fl RX11 179 0 0 := ⟨RX0, TX0, 6, rfl, rfl, by decide, gX0, gt1 (i := 190) (by decide +kernel) rfl⟩
theorem pX11_179 : Fp RX11 179 0 0 := ⟨RX0, TX0, 6, tyX0, rfl, rfl, by decide, gX0, gt1 (i := 190) (by decide +kernel) rfl, tyX0_ok, nmX0, rfl, (by decide +kernel)⟩
theorem fX11_227 : Fl RX11 227 8 2 := ⟨RX8, TX8, 3, rfl, rfl, by decide, gX8, gt2 (i := 54) (by decide +kernel) rfl⟩
theorem fX11_231 : Fl RX11 231 3 1 := ⟨RX3, TX3, 16, rfl, rfl, by decide, gX3, gt1 (i := 224) (by decide +kernel) rfl⟩
theorem pX11_231 : Fp RX11 231 3 1 := ⟨RX3, TX3, 16, tyX3, rfl, rfl, by decide, gX3, gt1 (i := 224) (by decide +kernel) rfl, tyX3_ok, nmX3, rfl, (by decide +kernel)⟩
theorem fX11_243 : Fl RX11 243 11 10 := ⟨RX11, TX11, 17, rfl, rfl, by decide, gX11, gt2 (i := 114) (by decide +kernel) rfl⟩
theorem fX11_254 : Fl RX11 254 4 2 := ⟨RX4, TX4, 5, rfl, rfl, by decide, gX4, gt5 (i := 11) (by decide +kernel) rfl⟩
theorem pX11_254 : Fp RX11 254 4 2 := ⟨RX4, TX4, 5, tyX4, rfl, rfl, by decide, gX4, gt5 (i := 11) (by decide +kernel) rfl, tyX4_ok, nmX4, rfl, (by decide +kernel)⟩
theorem fX11_257 : Fl RX11 257 4 3 := ⟨RX4, TX4, 5, rfl, rfl, by decide, gX4, gt5 (i := 13) (by decide +kernel) rfl⟩
theorem pX11_257 : Fp RX11 257 4 3 := ⟨RX4, TX4, 5, tyX4, rfl, rfl, by decide, gX4, gt5 (i := 13) (by decide +kernel) rfl, tyX4_ok, nmX4, rfl, (by decide +kernel)⟩
theorem fX11_260 : Fl RX11 260 4 4 := ⟨RX4, TX4, 5, rfl, rfl, by decide, gX4, gt5 (i := 15) (by decide +kernel) rfl⟩
theorem pX11_260 : Fp RX11 260 4 4 := ⟨RX4, TX4, 5, tyX4, rfl, rfl, by decide, gX4, gt5 (i := 15) (by decide +kernel) rfl, tyX4_ok, nmX4, rfl, (by decide +kernel)⟩
theorem fX11_270 : Fl RX11 270 3 2 := ⟨RX3, TX3, 16, rfl, rfl, by decide, gX3, gt1 (i := 228) (by decide +kernel) rfl⟩
theorem pX11_270 : Fp RX11 270 3 2 := ⟨RX3, TX3, 16, tyX3, rfl, rfl, by decide, gX3, gt1 (i := 228) (by decide +kernel) rfl, tyX3_ok, nmX3, rfl, (by decide +kernel)⟩
theorem fX11_276 : Fl RX11 276 3 12 := ⟨RX3, TX3, 16, rfl, rfl, by decide, gX3, gt2 (i := 9) (by decide +kernel) rfl⟩
theorem fX11_287 : Fl RX11 287 10 4 := ⟨RX10, TX10, 6, rfl, rfl, by decide, gX10, gt2 (i := 88) (by decide +kernel) rfl⟩
theorem pX11_287 : Fp RX11 287 10 4 := ⟨RX10, TX10, 6, tyX10, rfl, rfl, by decide, gX10, gt2 (i := 88) (by decide +kernel) rfl, tyX10_ok, nmX10, rfl, (by decide +kernel)⟩
theorem fX11_299 : Fl RX11 299 10 2 := ⟨RX10, TX10, 6, rfl, rfl, by decide, gX10, gt2 (i := 84) (by decide +kernel) rfl⟩
theorem pX11_299 : Fp RX11 299 10 2 := ⟨RX10, TX10, 6, tyX10, rfl, rfl, by decide, gX10, gt2 (i := 84) (by decide +kernel) rfl, tyX10_ok, nmX10, rfl, (by decide +kernel)⟩
theorem fX11_302 : Fl RX11 302 10 5 := ⟨RX10, TX10, 6, rfl, rfl, by decide, gX10, gt2 (i := 90) (by decide +kernel) rfl⟩
theorem pX11_302 : Fp RX11 302 10 5 := ⟨RX10, TX10, 6, tyX10, rfl, rfl, by decide, gX10, gt2 (i := 90) (by decide +kernel) rfl, tyX10_ok, nmX10, rfl, (by decide +kernel)⟩
theorem fX11_305 : Fl RX11 305 10 3 := ⟨RX10, TX10, 6, rfl, rfl, by decide, gX10, gt2 (i := 86) (by decide +kernel) rfl⟩
theorem pX11_305 : Fp RX11 305 10 3 := ⟨RX10, TX10, 6, tyX10, rfl, rfl, by decide, gX10, gt2 (i := 86) (by decide +kernel) rfl, tyX10_ok, nmX10, rfl, (by decide +kernel)⟩
theorem fX11_306 : Fl RX11 306 3 3 := ⟨RX3, TX3, 16, rfl, rfl, by decide, gX3, gt1 (i := 230) (by decide +kernel) rfl⟩
theorem pX11_306 : Fp RX11 306 3 3 := ⟨RX3, TX3, 16, tyX3, rfl, rfl, by decide, gX3, gt1 (i := 230) (by decide +kernel) rfl, tyX3_ok, nmX3, rfl, (by decide +kernel)⟩
theorem fX11_312 : Fl RX11 312 1 6 := ⟨RX1, TX1, 15, rfl, rfl, by decide, gX1, gt1 (i := 106) (by decide +kernel) rfl⟩
theorem pX11_312 : Fp RX11 312 1 6 := ⟨RX1, TX1, 15, tyX1, rfl, rfl, by decide, gX1, gt1 (i := 106) (by decide +kernel) rfl, tyX1_ok, nmX1, rfl, (by decide +kernel)⟩
theorem fX11_318 : Fl RX11 318 3 13 := ⟨RX3, TX3, 16, rfl, rfl, by decide, gX3, gt2 (i := 11) (by decide +kernel) rfl⟩
theorem fX11_328 : Fl RX11 328 1 5 := ⟨RX1, TX1, 15, rfl, rfl, by decide, gX1, gt1 (i := 103) (by decide +kernel) rfl⟩
theorem pX11_328 : Fp RX11 328 1 5 := ⟨RX1, TX1, 15, tyX1, rfl, rfl, by decide, gX1, gt1 (i := 103) (by decide +kernel) rfl, tyX1_ok, nmX1, rfl, (by decide +kernel)⟩
theorem fX11_331 : Fl RX11 331 3 4 := ⟨RX3, TX3, 16, rfl, rfl, by decide, gX3, gt1 (i := 232) (by decide +kernel) rfl⟩
theorem pX11_331 : Fp RX11 331 3 4 := ⟨RX3, TX3, 16, tyX3, rfl, rfl, by decide, gX3, gt1 (i := 232) (by decide +kernel) rfl, tyX3_ok, nmX3, rfl, (by decide +kernel)⟩
theorem fX11_353 : Fl RX11 353 1 2 := ⟨RX1, TX1, 15, rfl, rfl, by decide, gX1, gt1 (i := 89) (by decide +kernel) rfl⟩
theorem pX11_353 : Fp RX11 353 1 2 := ⟨RX1, TX1, 15, tyX1, rfl, rfl, by decide, gX1, gt1 (i := 89) (by decide +kernel) rfl, tyX1_ok, nmX1, rfl, (by decide +kernel)⟩
theorem fX11_362 : Fl RX11 362 1 1 := ⟨RX1, TX1, 15, rfl, rfl, by decide, gX1, gt1 (i := 85) (by decide +kernel) rfl⟩
theorem pX11_362 : Fp RX11 362 1 1 := ⟨RX1, TX1, 15, tyX1, rfl, rfl, by decide, gX1, gt1 (i := 85) (by decide +kernel) rfl, tyX1_ok, nmX1, rfl, (by decide +kernel)⟩
theorem fX11_365 : Fl RX11 365 3 0 := ⟨RX3, TX3, 16, rfl, rfl, by decide, gX3, gt1 (i := 220) (by decide +kernel) rfl⟩
theorem pX11_365 : Fp RX11 365 3 0 := ⟨RX3, TX3, 16, tyX3, rfl, rfl, by decide, gX3, gt1 (i := 220) (by decide +kernel) rfl, tyX3_ok, nmX3, rfl, (by decide +kernel)⟩
theorem fX11_371 : Fl RX11 371 1 4 := ⟨RX1, TX1, 15, rfl, rfl, by decide, gX1, gt1 (i := 99) (by decide +kernel) rfl⟩
theorem pX11_371 : Fp RX11 371 1 4 := ⟨RX1, TX1, 15, tyX1, rfl, rfl, by decide, gX1, gt1 (i := 99) (by decide +kernel) rfl, tyX1_ok, nmX1, rfl, (by decide +kernel)⟩
theorem fX0_9 : Fl RX0 9 0 2 := ⟨RX0, TX0, 6, rfl, rfl, by decide, gX0, gt1 (i := 192) (by decide +kernel) rfl⟩
theorem fX0_15 : Fl RX0 15 0 3 := ⟨RX0, TX0, 6, rfl, rfl, by decide, gX0, gt1 (i := 194) (by decide +kernel) rfl⟩
theorem fX0_18 : Fl RX0 18 0 4 := ⟨RX0, TX0, 6, rfl, rfl, by decide, gX0, gt1 (i := 196) (by decide +kernel) rfl⟩
theorem fX0_21 : Fl RX0 21 0 5 := ⟨RX0, TX0, 6, rfl, rfl, by decide, gX0, gt1 (i := 198) (by decide +kernel) rfl⟩
theorem fX0_24 : Fl RX0 24 0 0 := ⟨RX0, TX0, 6, rfl, rfl, by decide, gX0, gt1 (i := 189) (by decide +kernel) rfl⟩
theorem pX0_24 : Fp RX0 24 0 0 := ⟨RX0, TX0, 6, tyX0, rfl, rfl, by decide, gX0, gt1 (i := 189) (by decide +kernel) rfl, tyX0_ok, nmX0, rfl, (by decide +kernel)⟩
theorem fX0_28 : Fl RX0 28 0 1 := ⟨RX0, TX0, 6, rfl, rfl, by decide, gX0, gt1 (i := 191) (by decide +kernel) rfl⟩
theorem pX0_28 : Fp RX0 28 0 1 := ⟨RX0, TX0, 6, tyX0, rfl, rfl, by decide, gX0, gt1 (i := 191) (by decide +kernel) rfl, tyX0_ok, nmX0, rfl, (by decide +kernel)⟩
theorem fX0_35 : Fl RX0 35 1 14 := ⟨RX1, TX1, 15, rfl, rfl, by decide, gX1, gt1 (i := 139) (by decide +kernel) rfl⟩
theorem fX0_50 : Fl RX0 50 1 2 := ⟨RX1, TX1, 15, rfl, rfl, by decide, gX1, gt1 (i := 88) (by decide +kernel) rfl⟩
theorem pX0_50 : Fp RX0 50 1 2 := ⟨RX1, TX1, 15, tyX1, rfl, rfl, by decide, gX1, gt1 (i := 88) (by decide +kernel) rfl, tyX1_ok, nmX1, rfl, (by decide +kernel)⟩
theorem fX0_59 : Fl RX0 59 1 0 := ⟨RX1, TX1, 15, rfl, rfl, by decide, gX1, gt1 (i := 78) (by decide +kernel) rfl⟩
theorem pX0_59 : Fp RX0 59 1 0 := ⟨RX1, TX1, 15, tyX1, rfl, rfl, by decide, gX1, gt1 (i := 78) (by decide +kernel) rfl, tyX1_ok, nmX1, rfl, (by decide +kernel)⟩
theorem fX0_78 : Fl RX0 78 1 5 := ⟨RX1, TX1, 15, rfl, rfl, by decide, gX1, gt1 (i := 101) (by decide +kernel) rfl⟩
theorem pX0_78 : Fp RX0 78 1 5 := ⟨RX1, TX1, 15, tyX1, rfl, rfl, by decide, gX1, gt1 (i := 101) (by decide +kernel) rfl, tyX1_ok, nmX1, rfl, (by decide +kernel)⟩
theorem fX0_89 : Fl RX0 89 1 10 := ⟨RX1, TX1, 15, rfl, rfl, by decide, gX1, gt1 (i := 126) (by decide +kernel) rfl⟩
theorem fX0_100 : Fl RX0 100 1 3 := ⟨RX1, TX1, 15, rfl, rfl, by decide, gX1, gt1 (i := 94) (by decide +kernel) rfl⟩
theorem pX0_100 : Fp RX0 100 1 3 := ⟨RX1, TX1, 15, tyX1, rfl, rfl, by decide, gX1, gt1 (i := 94) (by decide +kernel) rfl, tyX1_ok, nmX1, rfl, (by decide +kernel)⟩
theorem fX0_103 : Fl RX0 103 1 4 := ⟨RX1, TX1, 15, rfl, rfl, by decide, gX1, gt1 (i := 98) (by decide +kernel) rfl⟩
theorem pX0_103 : Fp RX0 103 1 4 := ⟨RX1, TX1, 15, tyX1, rfl, rfl, by decide, gX1, gt1 (i := 98) (by decide +kernel) rfl, tyX1_ok, nmX1, rfl, (by decide +kernel)⟩
theorem fX0_113 : Fl RX0 113 6 0 := ⟨RX6, TX6, 8, rfl, rfl, by decide, gX6, gt3 (i := 135) (by decide +kernel) rfl⟩
theorem pX0_113 : Fp RX0 113 6 0 := ⟨RX6, TX6, 8, tyX6, rfl, rfl, by decide, gX6, gt3 (i := 135) (by decide +kernel) rfl, tyX6_ok, nmX6, rfl, (by decide +kernel)⟩
theorem fX0_118 : Fl RX0 118 6 1 := ⟨RX6, TX6, 8, rfl, rfl, by decide, gX6, gt3 (i := 138) (by decide +kernel) rfl⟩
theorem fX0_121 : Fl RX0 121 6 2 := ⟨RX6, TX6, 8, rfl, rfl, by decide, gX6, gt3 (i := 141) (by decide +kernel) rfl⟩
theorem fX0_137 : Fl RX0 137 1 7 := ⟨RX1, TX1, 15, rfl, rfl, by decide, gX1, gt1 (i := 110) (by decide +kernel) rfl⟩
theorem fX1_9 : Fl RX1 9 1 7 := ⟨RX1, TX1, 15, rfl, rfl, by decide, gX1, gt1 (i := 107) (by decide +kernel) rfl⟩
theorem fX1_15 : Fl RX1 15 1 8 := ⟨RX1, TX1, 15, rfl, rfl, by decide, gX1, gt1 (i := 111) (by decide +kernel) rfl⟩
theorem fX1_18 : Fl RX1 18 1 9 := ⟨RX1, TX1, 15, rfl, rfl, by decide, gX1, gt1 (i := 116) (by decide +kernel) rfl⟩
theorem fX1_21 : Fl RX1 21 1 10 := ⟨RX1, TX1, 15, rfl, rfl, by decide, gX1, gt1 (i := 121) (by decide +kernel) rfl⟩
theorem fX1_24 : Fl RX1 24 1 11 := ⟨RX1, TX1, 15, rfl, rfl, by decide, gX1, gt1 (i := 127) (by decide +kernel) rfl⟩
theorem fX1_27 : Fl RX1 27 1 12 := ⟨RX1, TX1, 15, rfl, rfl, by decide, gX1, gt1 (i := 130) (by decide +kernel) rfl⟩
theorem fX1_30 : Fl RX1 30 1 13 := ⟨RX1, TX1, 15, rfl, rfl, by decide, gX1, gt1 (i := 134) (by decide +kernel) rfl⟩
theorem fX1_33 : Fl RX1 33 1 14 := ⟨RX1, TX1, 15, rfl, rfl, by decide, gX1, gt1 (i := 138) (by decide +kernel) rfl⟩
theorem fX1_36 : Fl RX1 36 1 0 := ⟨RX1, TX1, 15, rfl, rfl, by decide, gX1, gt1 (i := 76) (by decide +kernel) rfl⟩
theorem pX1_36 : Fp RX1 36 1 0 := ⟨RX1, TX1, 15, tyX1, rfl, rfl, by decide, gX1, gt1 (i := 76) (by decide +kernel) rfl, tyX1_ok, nmX1, rfl, (by decide +kernel)⟩
theorem fX1_40 : Fl RX1 40 1 1 := ⟨RX1, TX1, 15, rfl, rfl, by decide, gX1, gt1 (i := 81) (by decide +kernel) rfl⟩
theorem pX1_40 : Fp RX1 40 1 1 := ⟨RX1, TX1, 15, tyX1, rfl, rfl, by decide, gX1, gt1 (i := 81) (by decide +kernel) rfl, tyX1_ok, nmX1, rfl, (by decide +kernel)⟩
theorem fX1_43 : Fl RX1 43 1 2 := ⟨RX1, TX1, 15, rfl, rfl, by decide, gX1, gt1 (i := 86) (by decide +kernel) rfl⟩
theorem pX1_43 : Fp RX1 43 1 2 := ⟨RX1, TX1, 15, tyX1, rfl, rfl, by decide, gX1, gt1 (i := 86) (by decide +kernel) rfl, tyX1_ok, nmX1, rfl, (by decide +kernel)⟩
theorem fX1_46 : Fl RX1 46 1 3 := ⟨RX1, TX1, 15, rfl, rfl, by decide, gX1, gt1 (i := 90) (by decide +kernel) rfl⟩
theorem pX1_46 : Fp RX1 46 1 3 := ⟨RX1, TX1, 15, tyX1, rfl, rfl, by decide, gX1, gt1 (i := 90) (by decide +kernel) rfl, tyX1_ok, nmX1, rfl, (by decide +kernel)⟩
theorem fX1_49 : Fl RX1 49 1 4 := ⟨RX1, TX1, 15, rfl, rfl, by decide, gX1, gt1 (i := 95) (by decide +kernel) rfl⟩
theorem pX1_49 : Fp RX1 49 1 4 := ⟨RX1, TX1, 15, tyX1, rfl, rfl, by decide, gX1, gt1 (i := 95) (by decide +kernel) rfl, tyX1_ok, nmX1, rfl, (by decide +kernel)⟩
theorem fX1_52 : Fl RX1 52 1 5 := ⟨RX1, TX1, 15, rfl, rfl, by decide, gX1, gt1 (i := 100) (by decide +kernel) rfl⟩
theorem pX1_52 : Fp RX1 52 1 5 := ⟨RX1, TX1, 15, tyX1, rfl, rfl, by decide, gX1, gt1 (i := 100) (by decide +kernel) rfl, tyX1_ok, nmX1, rfl, (by decide +kernel)⟩
theorem fX1_55 : Fl RX1 55 1 6 := ⟨RX1, TX1, 15, rfl, rfl, by decide, gX1, gt1 (i := 104) (by decide +kernel) rfl⟩
theorem pX1_55 : Fp RX1 55 1 6 := ⟨RX1, TX1, 15, tyX1, rfl, rfl, by decide, gX1, gt1 (i := 104) (by decide +kernel) rfl, tyX1_ok, nmX1, rfl, (by decide +kernel)⟩
theorem fX2_9 : Fl RX2 9 2 0 := ⟨RX2, TX2, 3, rfl, rfl, by decide, gX2, gt2 (i := 178) (by decide +kernel) rfl⟩
theorem fX2_15 : Fl RX2 15 2 1 := ⟨RX2, TX2, 3, rfl, rfl, by decide, gX2, gt2 (i := 179) (by decide +kernel) rfl⟩
theorem fX2_24 : Fl RX2 24 2 2 := ⟨RX2, TX2, 3, rfl, rfl, by decide, gX2, gt2 (i := 180) (by decide +kernel) rfl⟩
theorem pX2_24 : Fp RX2 24 2 2 := ⟨RX2, TX2, 3, tyX2, rfl, rfl, by decide, gX2, gt2 (i := 180) (by decide +kernel) rfl, tyX2_ok, nmX2, rfl, (by decide +kernel)⟩
theorem fX2_37 : Fl RX2 37 9 2 := ⟨RX9, TX9, 8, rfl, rfl, by decide, gX9, gt1 (i := 39) (by decide +kernel) rfl⟩
theorem pX2_37 : Fp RX2 37 9 2 := ⟨RX9, TX9, 8, tyX9, rfl, rfl, by decide, gX9, gt1 (i := 39) (by decide +kernel) rfl, tyX9_ok, nmX9, rfl, (by decide +kernel)⟩
theorem fX2_40 : Fl RX2 40 1 0 := ⟨RX1, TX1, 15, rfl, rfl, by decide, gX1, gt1 (i := 77) (by decide +kernel) rfl⟩
theorem pX2_40 : Fp RX2 40 1 0 := ⟨RX1, TX1, 15, tyX1, rfl, rfl, by decide, gX1, gt1 (i := 77) (by decide +kernel) rfl, tyX1_ok, nmX1, rfl, (by decide +kernel)⟩
theorem fX2_66 : Fl RX2 66 1 1 := ⟨RX1, TX1, 15, rfl, rfl, by decide, gX1, gt1 (i := 83) (by decide +kernel) rfl⟩
theorem pX2_66 : Fp RX2 66 1 1 := ⟨RX1, TX1, 15, tyX1, rfl, rfl, by decide, gX1, gt1 (i := 83) (by decide +kernel) rfl, tyX1_ok, nmX1, rfl, (by decide +kernel)⟩
theorem fX2_81 : Fl RX2 81 1 6 := ⟨RX1, TX1, 15, rfl, rfl, by decide, gX1, gt1 (i := 105) (by decide +kernel) rfl⟩
theorem pX2_81 : Fp RX2 81 1 6 := ⟨RX1, TX1, 15, tyX1, rfl, rfl, by decide, gX1, gt1 (i := 105) (by decide +kernel) rfl, tyX1_ok, nmX1, rfl, (by decide +kernel)⟩
theorem fX2_89 : Fl RX2 89 1 2 := ⟨RX1, TX1, 15, rfl, rfl, by decide, gX1, gt1 (i := 87) (by decide +kernel) rfl⟩
theorem pX2_89 : Fp RX2 89 1 2 := ⟨RX1, TX1, 15, tyX1, rfl, rfl, by decide, gX1, gt1 (i := 87) (by decide +kernel) rfl, tyX1_ok, nmX1, rfl, (by decide +kernel)⟩
theorem fX2_102 : Fl RX2 102 1 7 := ⟨RX1, TX1, 15, rfl, rfl, by decide, gX1, gt1 (i := 108) (by decide +kernel) rfl⟩
theorem fX2_110 : Fl RX2 110 1 3 := ⟨RX1, TX1, 15, rfl, rfl, by decide, gX1, gt1 (i := 91) (by decide +kernel) rfl⟩
theorem pX2_110 : Fp RX2 110 1 3 := ⟨RX1, TX1, 15, tyX1, rfl, rfl, by decide, gX1, gt1 (i := 91) (by decide +kernel) rfl, tyX1_ok, nmX1, rfl, (by decide +kernel)⟩
theorem fX2_113 : Fl RX2 113 9 6 := ⟨RX9, TX9, 8, rfl, rfl, by decide, gX9, gt1 (i := 48) (by decide +kernel) rfl⟩
theorem pX2_113 : Fp RX2 113 9 6 := ⟨RX9, TX9, 8, tyX9, rfl, rfl, by decide, gX9, gt1 (i := 48) (by decide +kernel) rfl, tyX9_ok, nmX9, rfl, (by decide +kernel)⟩
theorem fX2_120 : Fl RX2 120 1 8 := ⟨RX1, TX1, 15, rfl, rfl, by decide, gX1, gt1 (i := 113) (by decide +kernel) rfl⟩
theorem fX2_123 : Fl RX2 123 1 9 := ⟨RX1, TX1, 15, rfl, rfl, by decide, gX1, gt1 (i := 118) (by decide +kernel) rfl⟩
theorem fX2_126 : Fl RX2 126 1 10 := ⟨RX1, TX1, 15, rfl, rfl, by decide, gX1, gt1 (i := 123) (by decide +kernel) rfl⟩
theorem fX2_129 : Fl RX2 129 1 11 := ⟨RX1, TX1, 15, rfl, rfl, by decide, gX1, gt1 (i := 128) (by decide +kernel) rfl⟩
theorem fX2_131 : Fl RX2 131 1 12 := ⟨RX1, TX1, 15, rfl, rfl, by decide, gX1, gt1 (i := 132) (by decide +kernel) rfl⟩
theorem fX2_133 : Fl RX2 133 1 13 := ⟨RX1, TX1, 15, rfl, rfl, by decide, gX1, gt1 (i := 136) (by decide +kernel) rfl⟩
theorem fX2_142 : Fl RX2 142 1 4 := ⟨RX1, TX1, 15, rfl, rfl, by decide, gX1, gt1 (i := 96) (by decide +kernel) rfl⟩
theorem pX2_142 : Fp RX2 142 1 4 := ⟨RX1, TX1, 15, tyX1, rfl, rfl, by decide, gX1, gt1 (i := 96) (by decide +kernel) rfl, tyX1_ok, nmX1, rfl, (by decide +kernel)⟩
theorem fX2_145 : Fl RX2 145 1 5 := ⟨RX1, TX1, 15, rfl, rfl, by decide, gX1, gt1 (i := 102) (by decide +kernel) rfl⟩
theorem pX2_145 : Fp RX2 145 1 5 := ⟨RX1, TX1, 15, tyX1, rfl, rfl, by decide, gX1, gt1 (i := 102) (by decide +kernel) rfl, tyX1_ok, nmX1, rfl, (by decide +kernel)⟩
theorem fX2_148 : Fl RX2 148 1 14 := ⟨RX1, TX1, 15, rfl, rfl, by decide, gX1, gt1 (i := 141) (by decide +kernel) rfl⟩
theorem fX3_9 : Fl RX3 9 3 5 := ⟨RX3, TX3, 16, rfl, rfl, by decide, gX3, gt1 (i := 233) (by decide +kernel) rfl⟩
theorem fX3_15 : Fl RX3 15 3 6 := ⟨RX3, TX3, 16, rfl, rfl, by decide, gX3, gt1 (i := 235) (by decide +kernel) rfl⟩
theorem fX3_18 : Fl RX3 18 3 7 := ⟨RX3, TX3, 16, rfl, rfl, by decide, gX3, gt1 (i := 237) (by decide +kernel) rfl⟩
theorem fX3_21 : Fl RX3 21 3 8 := ⟨RX3, TX3, 16, rfl, rfl, by decide, gX3, gt1 (i := 239) (by decide +kernel) rfl⟩
theorem fX3_24 : Fl RX3 24 3 9 := ⟨RX3, TX3, 16, rfl, rfl, by decide, gX3, gt2 (i := 1) (by decide +kernel) rfl⟩
theorem fX3_27 : Fl RX3 27 3 10 := ⟨RX3, TX3, 16, rfl, rfl, by decide, gX3, gt2 (i := 3) (by decide +kernel) rfl⟩
theorem fX3_30 : Fl RX3 30 3 11 := ⟨RX3, TX3, 16, rfl, rfl, by decide, gX3, gt2 (i := 5) (by decide +kernel) rfl⟩
theorem fX3_33 : Fl RX3 33 3 12 := ⟨RX3, TX3, 16, rfl, rfl, by decide, gX3, gt2 (i := 7) (by decide +kernel) rfl⟩
theorem fX3_36 : Fl RX3 36 3 13 := ⟨RX3, TX3, 16, rfl, rfl, by decide, gX3, gt2 (i := 10) (by decide +kernel) rfl⟩
theorem fX3_39 : Fl RX3 39 3 14 := ⟨RX3, TX3, 16, rfl, rfl, by decide, gX3, gt2 (i := 12) (by decide +kernel) rfl⟩
theorem fX3_42 : Fl RX3 42 3 15 := ⟨RX3, TX3, 16, rfl, rfl, by decide, gX3, gt2 (i := 13) (by decide +kernel) rfl⟩
theorem fX3_45 : Fl RX3 45 3 0 := ⟨RX3, TX3, 16, rfl, rfl, by decide, gX3, gt1 (i := 219) (by decide +kernel) rfl⟩
theorem pX3_45 : Fp RX3 45 3 0 := ⟨RX3, TX3, 16, tyX3, rfl, rfl, by decide, gX3, gt1 (i := 219) (by decide +kernel) rfl, tyX3_ok, nmX3, rfl, (by decide +kernel)⟩
theorem fX3_49 : Fl RX3 49 3 1 := ⟨RX3, TX3, 16, rfl, rfl, by decide, gX3, gt1 (i := 222) (by decide +kernel) rfl⟩
theorem pX3_49 : Fp RX3 49 3 1 := ⟨RX3, TX3, 16, tyX3, rfl, rfl, by decide, gX3, gt1 (i := 222) (by decide +kernel) rfl, tyX3_ok, nmX3, rfl, (by decide +kernel)⟩
theorem fX3_52 : Fl RX3 52 3 2 := ⟨RX3, TX3, 16, rfl, rfl, by decide, gX3, gt1 (i := 226) (by decide +kernel) rfl⟩
theorem pX3_52 : Fp RX3 52 3 2 := ⟨RX3, TX3, 16, tyX3, rfl, rfl, by decide, gX3, gt1 (i := 226) (by decide +kernel) rfl, tyX3_ok, nmX3, rfl, (by decide +kernel)⟩
theorem fX3_55 : Fl RX3 55 3 3 := ⟨RX3, TX3, 16, rfl, rfl, by decide, gX3, gt1 (i := 229) (by decide +kernel) rfl⟩
theorem pX3_55 : Fp RX3 55 3 3 := ⟨RX3, TX3, 16, tyX3, rfl, rfl, by decide, gX3, gt1 (i := 229) (by decide +kernel) rfl, tyX3_ok, nmX3, rfl, (by decide +kernel)⟩
theorem fX3_58 : Fl RX3 58 3 4 := ⟨RX3, TX3, 16, rfl, rfl, by decide, gX3, gt1 (i := 231) (by decide +kernel) rfl⟩
theorem pX3_58 : Fp RX3 58 3 4 := ⟨RX3, TX3, 16, tyX3, rfl, rfl, by decide, gX3, gt1 (i := 231) (by decide +kernel) rfl, tyX3_ok, nmX3, rfl, (by decide +kernel)⟩
theorem fX4_12 : Fl RX4 12 4 0 := ⟨RX4, TX4, 5, rfl, rfl, by decide, gX4, gt5 (i := 8) (by decide +kernel) rfl⟩
theorem fX4_18 : Fl RX4 18 4 1 := ⟨RX4, TX4, 5, rfl, rfl, by decide, gX4, gt5 (i := 9) (by decide +kernel) rfl⟩
theorem fX4_22 : Fl RX4 22 8 2 := ⟨RX8, TX8, 3, rfl, rfl, by decide, gX8, gt2 (i := 53) (by decide +kernel) rfl⟩
theorem fX4_28 : Fl RX4 28 3 1 := ⟨RX3, TX3, 16, rfl, rfl, by decide, gX3, gt1 (i := 221) (by decide +kernel) rfl⟩
theorem pX4_28 : Fp RX4 28 3 1 := ⟨RX3, TX3, 16, tyX3, rfl, rfl, by decide, gX3, gt1 (i := 221) (by decide +kernel) rfl, tyX3_ok, nmX3, rfl, (by decide +kernel)⟩
theorem fX4_47 : Fl RX4 47 4 2 := ⟨RX4, TX4, 5, rfl, rfl, by decide, gX4, gt5 (i := 10) (by decide +kernel) rfl⟩
theorem pX4_47 : Fp RX4 47 4 2 := ⟨RX4, TX4, 5, tyX4, rfl, rfl, by decide, gX4, gt5 (i := 10) (by decide +kernel) rfl, tyX4_ok, nmX4, rfl, (by decide +kernel)⟩
theorem fX4_65 : Fl RX4 65 8 0 := ⟨RX8, TX8, 3, rfl, rfl, by decide, gX8, gt2 (i := 48) (by decide +kernel) rfl⟩
theorem fX4_77 : Fl RX4 77 3 5 := ⟨RX3, TX3, 16, rfl, rfl, by decide, gX3, gt1 (i := 234) (by decide +kernel) rfl⟩
theorem fX4_80 : Fl RX4 80 3 8 := ⟨RX3, TX3, 16, rfl, rfl, by decide, gX3, gt2 (i := 0) (by decide +kernel) rfl⟩
theorem fX4_83 : Fl RX4 83 4 4 := ⟨RX4, TX4, 5, rfl, rfl, by decide, gX4, gt5 (i := 14) (by decide +kernel) rfl⟩
theorem pX4_83 : Fp RX4 83 4 4 := ⟨RX4, TX4, 5, tyX4, rfl, rfl, by decide, gX4, gt5 (i := 14) (by decide +kernel) rfl, tyX4_ok, nmX4, rfl, (by decide +kernel)⟩
theorem fX4_86 : Fl RX4 86 4 3 := ⟨RX4, TX4, 5, rfl, rfl, by decide, gX4, gt5 (i := 12) (by decide +kernel) rfl⟩
theorem pX4_86 : Fp RX4 86 4 3 := ⟨RX4, TX4, 5, tyX4, rfl, rfl, by decide, gX4, gt5 (i := 12) (by decide +kernel) rfl, tyX4_ok, nmX4, rfl, (by decide +kernel)⟩
theorem fX4_92 : Fl RX4 92 3 6 := ⟨RX3, TX3, 16, rfl, rfl, by decide, gX3, gt1 (i := 236) (by decide +kernel) rfl⟩
theorem fX4_98 : Fl RX4 98 3 7 := ⟨RX3, TX3, 16, rfl, rfl, by decide, gX3, gt1 (i := 238) (by decide +kernel) rfl⟩
theorem fX5_9 : Fl RX5 9 5 0 := ⟨RX5, TX5, 1, rfl, rfl, by decide, gX5, gt2 (i := 71) (by decide +kernel) rfl⟩
theorem fX5_46 : Fl RX5 46 1 1 := ⟨RX1, TX1, 15, rfl, rfl, by decide, gX1, gt1 (i := 84) (by decide +kernel) rfl⟩
theorem pX5_46 : Fp RX5 46 1 1 := ⟨RX1, TX1, 15, tyX1, rfl, rfl, by decide, gX1, gt1 (i := 84) (by decide +kernel) rfl, tyX1_ok, nmX1, rfl, (by decide +kernel)⟩
theorem fX5_52 : Fl RX5 52 1 8 := ⟨RX1, TX1, 15, rfl, rfl, by decide, gX1, gt1 (i := 114) (by decide +kernel) rfl⟩
theorem fX5_59 : Fl RX5 59 1 9 := ⟨RX1, TX1, 15, rfl, rfl, by decide, gX1, gt1 (i := 120) (by decide +kernel) rfl⟩
theorem fX5_68 : Fl RX5 68 1 10 := ⟨RX1, TX1, 15, rfl, rfl, by decide, gX1, gt1 (i := 125) (by decide +kernel) rfl⟩
theorem fX5_71 : Fl RX5 71 1 0 := ⟨RX1, TX1, 15, rfl, rfl, by decide, gX1, gt1 (i := 80) (by decide +kernel) rfl⟩
theorem pX5_71 : Fp RX5 71 1 0 := ⟨RX1, TX1, 15, tyX1, rfl, rfl, by decide, gX1, gt1 (i := 80) (by decide +kernel) rfl, tyX1_ok, nmX1, rfl, (by decide +kernel)⟩
theorem fX5_78 : Fl RX5 78 1 3 := ⟨RX1, TX1, 15, rfl, rfl, by decide, gX1, gt1 (i := 93) (by decide +kernel) rfl⟩
theorem pX5_78 : Fp RX5 78 1 3 := ⟨RX1, TX1, 15, tyX1, rfl, rfl, by decide, gX1, gt1 (i := 93) (by decide +kernel) rfl, tyX1_ok, nmX1, rfl, (by decide +kernel)⟩
theorem fX5_81 : Fl RX5 81 1 4 := ⟨RX1, TX1, 15, rfl, rfl, by decide, gX1, gt1 (i := 97) (by decide +kernel) rfl⟩
theorem pX5_81 : Fp RX5 81 1 4 := ⟨RX1, TX1, 15, tyX1, rfl, rfl, by decide, gX1, gt1 (i := 97) (by decide +kernel) rfl, tyX1_ok, nmX1, rfl, (by decide +kernel)⟩
theorem fX6_11 : Fl RX6 11 6 1 := ⟨RX6, TX6, 8, rfl, rfl, by decide, gX6, gt3 (i := 136) (by decide +kernel) rfl⟩
theorem fX6_15 : Fl RX6 15 6 2 := ⟨RX6, TX6, 8, rfl, rfl, by decide, gX6, gt3 (i := 139) (by decide +kernel) rfl⟩
theorem fX6_18 : Fl RX6 18 6 3 := ⟨RX6, TX6, 8, rfl, rfl, by decide, gX6, gt3 (i := 142) (by decide +kernel) rfl⟩
theorem fX6_21 : Fl RX6 21 6 4 := ⟨RX6, TX6, 8, rfl, rfl, by decide, gX6, gt3 (i := 144) (by decide +kernel) rfl⟩
theorem fX6_24 : Fl RX6 24 6 5 := ⟨RX6, TX6, 8, rfl, rfl, by decide, gX6, gt3 (i := 146) (by decide +kernel) rfl⟩
theorem fX6_27 : Fl RX6 27 6 7 := ⟨RX6, TX6, 8, rfl, rfl, by decide, gX6, gt3 (i := 149) (by decide +kernel) rfl⟩
theorem fX6_31 : Fl RX6 31 6 0 := ⟨RX6, TX6, 8, rfl, rfl, by decide, gX6, gt3 (i := 133) (by decide +kernel) rfl⟩
theorem pX6_31 : Fp RX6 31 6 0 := ⟨RX6, TX6, 8, tyX6, rfl, rfl, by decide, gX6, gt3 (i := 133) (by decide +kernel) rfl, tyX6_ok, nmX6, rfl, (by decide +kernel)⟩
theorem fX6_35 : Fl RX6 35 6 6 := ⟨RX6, TX6, 8, rfl, rfl, by decide, gX6, gt3 (i := 147) (by decide +kernel) rfl⟩
theorem pX6_35 : Fp RX6 35 6 6 := ⟨RX6, TX6, 8, tyX6, rfl, rfl, by decide, gX6, gt3 (i := 147) (by decide +kernel) rfl, tyX6_ok, nmX6, rfl, (by decide +kernel)⟩
theorem fX7_9 : Fl RX7 9 7 0 := ⟨RX7, TX7, 4, rfl, rfl, by decide, gX7, gt3 (i := 174) (by decide +kernel) rfl⟩
theorem fX7_15 : Fl RX7 15 7 1 := ⟨RX7, TX7, 4, rfl, rfl, by decide, gX7, gt3 (i := 175) (by decide +kernel) rfl⟩
theorem fX7_33 : Fl RX7 33 6 3 := ⟨RX6, TX6, 8, rfl, rfl, by decide, gX6, gt3 (i := 143) (by decide +kernel) rfl⟩
theorem fX7_37 : Fl RX7 37 6 6 := ⟨RX6, TX6, 8, rfl, rfl, by decide, gX6, gt3 (i := 148) (by decide +kernel) rfl⟩
theorem pX7_37 : Fp RX7 37 6 6 := ⟨RX6, TX6, 8, tyX6, rfl, rfl, by decide, gX6, gt3 (i := 148) (by decide +kernel) rfl, tyX6_ok, nmX6, rfl, (by decide +kernel)⟩
theorem fX7_54 : Fl RX7 54 6 4 := ⟨RX6, TX6, 8, rfl, rfl, by decide, gX6, gt3 (i := 145) (by decide +kernel) rfl⟩
theorem fX7_57 : Fl RX7 57 9 2 := ⟨RX9, TX9, 8, rfl, rfl, by decide, gX9, gt1 (i := 40) (by decide +kernel) rfl⟩
theorem pX7_57 : Fp RX7 57 9 2 := ⟨RX9, TX9, 8, tyX9, rfl, rfl, by decide, gX9, gt1 (i := 40) (by decide +kernel) rfl, tyX9_ok, nmX9, rfl, (by decide +kernel)⟩
theorem fX7_73 : Fl RX7 73 6 0 := ⟨RX6, TX6, 8, rfl, rfl, by decide, gX6, gt3 (i := 134) (by decide +kernel) rfl⟩
theorem pX7_73 : Fp RX7 73 6 0 := ⟨RX6, TX6, 8, tyX6, rfl, rfl, by decide, gX6, gt3 (i := 134) (by decide +kernel) rfl, tyX6_ok, nmX6, rfl, (by decide +kernel)⟩
theorem fX7_76 : Fl RX7 76 6 1 := ⟨RX6, TX6, 8, rfl, rfl, by decide, gX6, gt3 (i := 137) (by decide +kernel) rfl⟩
theorem fX7_83 : Fl RX7 83 6 2 := ⟨RX6, TX6, 8, rfl, rfl, by decide, gX6, gt3 (i := 140) (by decide +kernel) rfl⟩
theorem fX7_110 : Fl RX7 110 7 3 := ⟨RX7, TX7, 4, rfl, rfl, by decide, gX7, gt3 (i := 177) (by decide +kernel) rfl⟩
theorem pX7_110 : Fp RX7 110 7 3 := ⟨RX7, TX7, 4, tyX7, rfl, rfl, by decide, gX7, gt3 (i := 177) (by decide +kernel) rfl, tyX7_ok, nmX7, rfl, (by decide +kernel)⟩
theorem fX7_119 : Fl RX7 119 9 4 := ⟨RX9, TX9, 8, rfl, rfl, by decide, gX9, gt1 (i := 45) (by decide +kernel) rfl⟩
theorem pX7_119 : Fp RX7 119 9 4 := ⟨RX9, TX9, 8, tyX9, rfl, rfl, by decide, gX9, gt1 (i := 45) (by decide +kernel) rfl, tyX9_ok, nmX9, rfl, (by decide +kernel)⟩
theorem fX7_121 : Fl RX7 121 9 3 := ⟨RX9, TX9, 8, rfl, rfl, by decide, gX9, gt1 (i := 43) (by decide +kernel) rfl⟩
theorem pX7_121 : Fp RX7 121 9 3 := ⟨RX9, TX9, 8, tyX9, rfl, rfl, by decide, gX9, gt1 (i := 43) (by decide +kernel) rfl, tyX9_ok, nmX9, rfl, (by decide +kernel)⟩
theorem fX7_138 : Fl RX7 138 9 6 := ⟨RX9, TX9, 8, rfl, rfl, by decide, gX9, gt1 (i := 49) (by decide +kernel) rfl⟩
theorem pX7_138 : Fp RX7 138 9 6 := ⟨RX9, TX9, 8, tyX9, rfl, rfl, by decide, gX9, gt1 (i := 49) (by decide +kernel) rfl, tyX9_ok, nmX9, rfl, (by decide +kernel)⟩
theorem fX7_157 : Fl RX7 157 7 2 := ⟨RX7, TX7, 4, rfl, rfl, by decide, gX7, gt3 (i := 176) (by decide +kernel) rfl⟩
theorem pX7_157 : Fp RX7 157 7 2 := ⟨RX7, TX7, 4, tyX7, rfl, rfl, by decide, gX7, gt3 (i := 176) (by decide +kernel) rfl, tyX7_ok, nmX7, rfl, (by decide +kernel)⟩
theorem fX8_10 : Fl RX8 10 8 0 := ⟨RX8, TX8, 3, rfl, rfl, by decide, gX8, gt2 (i := 47) (by decide +kernel) rfl⟩
theorem fX8_19 : Fl RX8 19 8 1 := ⟨RX8, TX8, 3, rfl, rfl, by decide, gX8, gt2 (i := 50) (by decide +kernel) rfl⟩
theorem fX8_26 : Fl RX8 26 8 2 := ⟨RX8, TX8, 3, rfl, rfl, by decide, gX8, gt2 (i := 52) (by decide +kernel) rfl⟩
theorem fX8_43 : Fl RX8 43 3 1 := ⟨RX3, TX3, 16, rfl, rfl, by decide, gX3, gt1 (i := 223) (by decide +kernel) rfl⟩
theorem pX8_43 : Fp RX8 43 3 1 := ⟨RX3, TX3, 16, tyX3, rfl, rfl, by decide, gX3, gt1 (i := 223) (by decide +kernel) rfl, tyX3_ok, nmX3, rfl, (by decide +kernel)⟩
theorem fX8_47 : Fl RX8 47 3 2 := ⟨RX3, TX3, 16, rfl, rfl, by decide, gX3, gt1 (i := 227) (by decide +kernel) rfl⟩
theorem pX8_47 : Fp RX8 47 3 2 := ⟨RX3, TX3, 16, tyX3, rfl, rfl, by decide, gX3, gt1 (i := 227) (by decide +kernel) rfl, tyX3_ok, nmX3, rfl, (by decide +kernel)⟩
theorem fX9_9 : Fl RX9 9 9 0 := ⟨RX9, TX9, 8, rfl, rfl, by decide, gX9, gt1 (i := 36) (by decide +kernel) rfl⟩
theorem fX9_15 : Fl RX9 15 9 1 := ⟨RX9, TX9, 8, rfl, rfl, by decide, gX9, gt1 (i := 38) (by decide +kernel) rfl⟩
theorem pX9_15 : Fp RX9 15 9 1 := ⟨RX9, TX9, 8, tyX9, rfl, rfl, by decide, gX9, gt1 (i := 38) (by decide +kernel) rfl, tyX9_ok, nmX9, rfl, (by decide +kernel)⟩
theorem fX9_19 : Fl RX9 19 9 7 := ⟨RX9, TX9, 8, rfl, rfl, by decide, gX9, gt1 (i := 50) (by decide +kernel) rfl⟩
theorem pX9_19 : Fp RX9 19 9 7 := ⟨RX9, TX9, 8, tyX9, rfl, rfl, by decide, gX9, gt1 (i := 50) (by decide +kernel) rfl, tyX9_ok, nmX9, rfl, (by decide +kernel)⟩
theorem fX9_22 : Fl RX9 22 9 4 := ⟨RX9, TX9, 8, rfl, rfl, by decide, gX9, gt1 (i := 44) (by decide +kernel) rfl⟩
theorem pX9_22 : Fp RX9 22 9 4 := ⟨RX9, TX9, 8, tyX9, rfl, rfl, by decide, gX9, gt1 (i := 44) (by decide +kernel) rfl, tyX9_ok, nmX9, rfl, (by decide +kernel)⟩
theorem fX9_32 : Fl RX9 32 9 3 := ⟨RX9, TX9, 8, rfl, rfl, by decide, gX9, gt1 (i := 42) (by decide +kernel) rfl⟩
theorem pX9_32 : Fp RX9 32 9 3 := ⟨RX9, TX9, 8, tyX9, rfl, rfl, by decide, gX9, gt1 (i := 42) (by decide +kernel) rfl, tyX9_ok, nmX9, rfl, (by decide +kernel)⟩
theorem fX9_35 : Fl RX9 35 9 2 := ⟨RX9, TX9, 8, rfl, rfl, by decide, gX9, gt1 (i := 41) (by decide +kernel) rfl⟩
theorem pX9_35 : Fp RX9 35 9 2 := ⟨RX9, TX9, 8, tyX9, rfl, rfl, by decide, gX9, gt1 (i := 41) (by decide +kernel) rfl, tyX9_ok, nmX9, rfl, (by decide +kernel)⟩
theorem fX9_48 : Fl RX9 48 9 5 := ⟨RX9, TX9, 8, rfl, rfl, by decide, gX9, gt1 (i := 46) (by decide +kernel) rfl⟩
theorem pX9_48 : Fp RX9 48 9 5 := ⟨RX9, TX9, 8, tyX9, rfl, rfl, by decide, gX9, gt1 (i := 46) (by decide +kernel) rfl, tyX9_ok, nmX9, rfl, (by decide +kernel)⟩
theorem fX9_51 : Fl RX9 51 9 6 := ⟨RX9, TX9, 8, rfl, rfl, by decide, gX9, gt1 (i := 47) (by decide +kernel) rfl⟩
theorem pX9_51 : Fp RX9 51 9 6 := ⟨RX9, TX9, 8, tyX9, rfl, rfl, by decide, gX9, gt1 (i := 47) (by decide +kernel) rfl, tyX9_ok, nmX9, rfl, (by decide +kernel)⟩
theorem fX10_9 : Fl RX10 9 10 0 := ⟨RX10, TX10, 6, rfl, rfl, by decide, gX10, gt2 (i := 81) (by decide +kernel) rfl⟩
theorem fX10_21 : Fl RX10 21 3 2 := ⟨RX3, TX3, 16, rfl, rfl, by decide, gX3, gt1 (i := 225) (by decide +kernel) rfl⟩
theorem pX10_21 : Fp RX10 21 3 2 := ⟨RX3, TX3, 16, tyX3, rfl, rfl, by decide, gX3, gt1 (i := 225) (by decide +kernel) rfl, tyX3_ok, nmX3, rfl, (by decide +kernel)⟩
theorem fX10_27 : Fl RX10 27 10 2 := ⟨RX10, TX10, 6, rfl, rfl, by decide, gX10, gt2 (i := 83) (by decide +kernel) rfl⟩
theorem pX10_27 : Fp RX10 27 10 2 := ⟨RX10, TX10, 6, tyX10, rfl, rfl, by decide, gX10, gt2 (i := 83) (by decide +kernel) rfl, tyX10_ok, nmX10, rfl, (by decide +kernel)⟩
theorem fX10_30 : Fl RX10 30 10 1 := ⟨RX10, TX10, 6, rfl, rfl, by decide, gX10, gt2 (i := 82) (by decide +kernel) rfl⟩
theorem pX10_30 : Fp RX10 30 10 1 := ⟨RX10, TX10, 6, tyX10, rfl, rfl, by decide, gX10, gt2 (i := 82) (by decide +kernel) rfl, tyX10_ok, nmX10, rfl, (by decide +kernel)⟩
theorem fX10_33 : Fl RX10 33 3 9 := ⟨RX3, TX3, 16, rfl, rfl, by decide, gX3, gt2 (i := 2) (by decide +kernel) rfl⟩
theorem fX10_36 : Fl RX10 36 3 10 := ⟨RX3, TX3, 16, rfl, rfl, by decide, gX3, gt2 (i := 4) (by decide +kernel) rfl⟩
theorem fX10_39 : Fl RX10 39 10 3 := ⟨RX10, TX10, 6, rfl, rfl, by decide, gX10, gt2 (i := 85) (by decide +kernel) rfl⟩
theorem pX10_39 : Fp RX10 39 10 3 := ⟨RX10, TX10, 6, tyX10, rfl, rfl, by decide, gX10, gt2 (i := 85) (by decide +kernel) rfl, tyX10_ok, nmX10, rfl, (by decide +kernel)⟩
theorem fX10_42 : Fl RX10 42 3 11 := ⟨RX3, TX3, 16, rfl, rfl, by decide, gX3, gt2 (i := 6) (by decide +kernel) rfl⟩
theorem fX10_45 : Fl RX10 45 3 12 := ⟨RX3, TX3, 16, rfl, rfl, by decide, gX3, gt2 (i := 8) (by decide +kernel) rfl⟩
theorem fX10_52 : Fl RX10 52 1 1 := ⟨RX1, TX1, 15, rfl, rfl, by decide, gX1, gt1 (i := 82) (by decide +kernel) rfl⟩
theorem pX10_52 : Fp RX10 52 1 1 := ⟨RX1, TX1, 15, tyX1, rfl, rfl, by decide, gX1, gt1 (i := 82) (by decide +kernel) rfl, tyX1_ok, nmX1, rfl, (by decide +kernel)⟩
theorem fX10_57 : Fl RX10 57 1 8 := ⟨RX1, TX1, 15, rfl, rfl, by decide, gX1, gt1 (i := 112) (by decide +kernel) rfl⟩
theorem fX10_64 : Fl RX10 64 1 9 := ⟨RX1, TX1, 15, rfl, rfl, by decide, gX1, gt1 (i := 117) (by decide +kernel) rfl⟩
theorem fX10_75 : Fl RX10 75 1 10 := ⟨RX1, TX1, 15, rfl, rfl, by decide, gX1, gt1 (i := 122) (by decide +kernel) rfl⟩
theorem fX10_78 : Fl RX10 78 1 12 := ⟨RX1, TX1, 15, rfl, rfl, by decide, gX1, gt1 (i := 131) (by decide +kernel) rfl⟩
theorem fX10_81 : Fl RX10 81 1 13 := ⟨RX1, TX1, 15, rfl, rfl, by decide, gX1, gt1 (i := 135) (by decide +kernel) rfl⟩
theorem fX10_92 : Fl RX10 92 10 4 := ⟨RX10, TX10, 6, rfl, rfl, by decide, gX10, gt2 (i := 87) (by decide +kernel) rfl⟩
theorem pX10_92 : Fp RX10 92 10 4 := ⟨RX10, TX10, 6, tyX10, rfl, rfl, by decide, gX10, gt2 (i := 87) (by decide +kernel) rfl, tyX10_ok, nmX10, rfl, (by decide +kernel)⟩
theorem fX10_95 : Fl RX10 95 10 5 := ⟨RX10, TX10, 6, rfl, rfl, by decide, gX10, gt2 (i := 89) (by decide +kernel) rfl⟩
theorem pX10_95 : Fp RX10 95 10 5 := ⟨RX10, TX10, 6, tyX10, rfl, rfl, by decide, gX10, gt2 (i := 89) (by decide +kernel) rfl, tyX10_ok, nmX10, rfl, (by decide +kernel)⟩
theorem fX12_7 : Fl RX12 7 12 0 := ⟨RX12, TX12, 47, rfl, rfl, by decide, gX12, gt5 (i := 221) (by decide +kernel) rfl⟩
theorem fX12_13 : Fl RX12 13 12 3 := ⟨RX12, TX12, 47, rfl, rfl, by decide, gX12, gt5 (i := 224) (by decide +kernel) rfl⟩
theorem fX12_17 : Fl RX12 17 12 4 := ⟨RX12, TX12, 47, rfl, rfl, by decide, gX12, gt5 (i := 225) (by decide +kernel) rfl⟩
theorem fX12_20 : Fl RX12 20 12 5 := ⟨RX12, TX12, 47, rfl, rfl, by decide, gX12, gt5 (i := 226) (by decide +kernel) rfl⟩
theorem fX12_23 : Fl RX12 23 12 6 := ⟨RX12, TX12, 47, rfl, rfl, by decide, gX12, gt5 (i := 227) (by decide +kernel) rfl⟩
theorem fX12_26 : Fl RX12 26 12 10 := ⟨RX12, TX12, 47, rfl, rfl, by decide, gX12, gt5 (i := 231) (by decide +kernel) rfl⟩
theorem fX12_29 : Fl RX12 29 12 11 := ⟨RX12, TX12, 47, rfl, rfl, by decide, gX12, gt5 (i := 232) (by decide +kernel) rfl⟩
theorem fX12_32 : Fl RX12 32 12 12 := ⟨RX12, TX12, 47, rfl, rfl, by decide, gX12, gt5 (i := 233) (by decide +kernel) rfl⟩
theorem fX12_35 : Fl RX12 35 12 13 := ⟨RX12, TX12, 47, rfl, rfl, by decide, gX12, gt5 (i := 234) (by decide +kernel) rfl⟩
theorem fX12_38 : Fl RX12 38 12 21 := ⟨RX12, TX12, 47, rfl, rfl, by decide, gX12, gt6 (i := 2) (by decide +kernel) rfl⟩
theorem fX12_41 : Fl RX12 41 12 23 := ⟨RX12, TX12, 47, rfl, rfl, by decide, gX12, gt6 (i := 4) (by decide +kernel) rfl⟩
theorem fX12_45 : Fl RX12 45 12 25 := ⟨RX12, TX12, 47, rfl, rfl, by decide, gX12, gt6 (i := 6) (by decide +kernel) rfl⟩
theorem fX12_48 : Fl RX12 48 12 26 := ⟨RX12, TX12, 47, rfl, rfl, by decide, gX12, gt6 (i := 7) (by decide +kernel) rfl⟩
theorem fX12_51 : Fl RX12 51 12 27 := ⟨RX12, TX12, 47, rfl, rfl, by decide, gX12, gt6 (i := 8) (by decide +kernel) rfl⟩
theorem fX12_54 : Fl RX12 54 12 28 := ⟨RX12, TX12, 47, rfl, rfl, by decide, gX12, gt6 (i := 9) (by decide +kernel) rfl⟩
theorem fX12_57 : Fl RX12 57 12 29 := ⟨RX12, TX12, 47, rfl, rfl, by decide, gX12, gt6 (i := 10) (by decide +kernel) rfl⟩
theorem fX12_61 : Fl RX12 61 12 30 := ⟨RX12, TX12, 47, rfl, rfl, by decide, gX12, gt6 (i := 11) (by decide +kernel) rfl⟩
theorem fX12_64 : Fl RX12 64 12 31 := ⟨RX12, TX12, 47, rfl, rfl, by decide, gX12, gt6 (i := 12) (by decide +kernel) rfl⟩
theorem fX12_67 : Fl RX12 67 12 32 := ⟨RX12, TX12, 47, rfl, rfl, by decide, gX12, gt6 (i := 13) (by decide +kernel) rfl⟩
theorem fX12_70 : Fl RX12 70 12 33 := ⟨RX12, TX12, 47, rfl, rfl, by decide, gX12, gt6 (i := 14) (by decide +kernel) rfl⟩
theorem fX12_73 : Fl RX12 73 12 34 := ⟨RX12, TX12, 47, rfl, rfl, by decide, gX12, gt6 (i := 15) (by decide +kernel) rfl⟩
theorem fX12_76 : Fl RX12 76 12 35 := ⟨RX12, TX12, 47, rfl, rfl, by decide, gX12, gt6 (i := 16) (by decide +kernel) rfl⟩
theorem fX12_79 : Fl RX12 79 12 36 := ⟨RX12, TX12, 47, rfl, rfl, by decide, gX12, gt6 (i := 17) (by decide +kernel) rfl⟩
theorem fX12_82 : Fl RX12 82 12 37 := ⟨RX12, TX12, 47, rfl, rfl, by decide, gX12, gt6 (i := 18) (by decide +kernel) rfl⟩
theorem fX12_85 : Fl RX12 85 12 38 := ⟨RX12, TX12, 47, rfl, rfl, by decide, gX12, gt6 (i := 19) (by decide +kernel) rfl⟩
theorem fX12_88 : Fl RX12 88 12 40 := ⟨RX12, TX12, 47, rfl, rfl, by decide, gX12, gt6 (i := 21) (by decide +kernel) rfl⟩
theorem fX12_91 : Fl RX12 91 12 41 := ⟨RX12, TX12, 47, rfl, rfl, by decide, gX12, gt6 (i := 22) (by decide +kernel) rfl⟩
theorem fX12_94 : Fl RX12 94 12 42 := ⟨RX12, TX12, 47, rfl, rfl, by decide, gX12, gt6 (i := 23) (by decide +kernel) rfl⟩
theorem fX12_97 : Fl RX12 97 12 43 := ⟨RX12, TX12, 47, rfl, rfl, by decide, gX12, gt6 (i := 24) (by decide +kernel) rfl⟩
theorem fX12_100 : Fl RX12 100 12 44 := ⟨RX12, TX12, 47, rfl, rfl, by decide, gX12, gt6 (i := 25) (by decide +kernel) rfl⟩
theorem fX12_103 : Fl RX12 103 12 45 := ⟨RX12, TX12, 47, rfl, rfl, by decide, gX12, gt6 (i := 26) (by decide +kernel) rfl⟩
theorem fX12_106 : Fl RX12 106 12 46 := ⟨RX12, TX12, 47, rfl, rfl, by decide, gX12, gt6 (i := 27) (by decide +kernel) rfl⟩
theorem fX12_109 : Fl RX12 109 12 1 := ⟨RX12, TX12, 47, rfl, rfl, by decide, gX12, gt5 (i := 222) (by decide +kernel) rfl⟩
theorem pX12_109 : Fp RX12 109 12 1 := ⟨RX12, TX12, 47, tyX12, rfl, rfl, by decide, gX12, gt5 (i := 222) (by decide +kernel) rfl, tyX12_ok, nmX12, rfl, (by decide +kernel)⟩
theorem fX12_117 : Fl RX12 117 12 15 := ⟨RX12, TX12, 47, rfl, rfl, by decide, gX12, gt5 (i := 236) (by decide +kernel) rfl⟩
theorem pX12_117 : Fp RX12 117 12 15 := ⟨RX12, TX12, 47, tyX12, rfl, rfl, by decide, gX12, gt5 (i := 236) (by decide +kernel) rfl, tyX12_ok, nmX12, rfl, (by decide +kernel)⟩
theorem fX12_120 : Fl RX12 120 12 14 := ⟨RX12, TX12, 47, rfl, rfl, by decide, gX12, gt5 (i := 235) (by decide +kernel) rfl⟩
theorem pX12_120 : Fp RX12 120 12 14 := ⟨RX12, TX12, 47, tyX12, rfl, rfl, by decide, gX12, gt5 (i := 235) (by decide +kernel) rfl, tyX12_ok, nmX12, rfl, (by decide +kernel)⟩
theorem fX12_145 : Fl RX12 145 12 16 := ⟨RX12, TX12, 47, rfl, rfl, by decide, gX12, gt5 (i := 237) (by decide +kernel) rfl⟩
theorem pX12_145 : Fp RX12 145 12 16 := ⟨RX12, TX12, 47, tyX12, rfl, rfl, by decide, gX12, gt5 (i := 237) (by decide +kernel) rfl, tyX12_ok, nmX12, rfl, (by decide +kernel)⟩
theorem fX12_168 : Fl RX12 168 12 17 := ⟨RX12, TX12, 47, rfl, rfl, by decide, gX12, gt5 (i := 238) (by decide +kernel) rfl⟩
theorem pX12_168 : Fp RX12 168 12 17 := ⟨RX12, TX12, 47, tyX12, rfl, rfl, by decide, gX12, gt5 (i := 238) (by decide +kernel) rfl, tyX12_ok, nmX12, rfl, (by decide +kernel)⟩
theorem fX12_171 : Fl RX12 171 12 18 := ⟨RX12, TX12, 47, rfl, rfl, by decide, gX12, gt5 (i := 239) (by decide +kernel) rfl⟩
theorem pX12_171 : Fp RX12 171 12 18 := ⟨RX12, TX12, 47, tyX12, rfl, rfl, by decide, gX12, gt5 (i := 239) (by decide +kernel) rfl, tyX12_ok, nmX12, rfl, (by decide +kernel)⟩
theorem fX12_174 : Fl RX12 174 12 19 := ⟨RX12, TX12, 47, rfl, rfl, by decide, gX12, gt6 (i := 0) (by decide +kernel) rfl⟩
theorem pX12_174 : Fp RX12 174 12 19 := ⟨RX12, TX12, 47, tyX12, rfl, rfl, by decide, gX12, gt6 (i := 0) (by decide +kernel) rfl, tyX12_ok, nmX12, rfl, (by decide +kernel)⟩
theorem fX12_177 : Fl RX12 177 12 22 := ⟨RX12, TX12, 47, rfl, rfl, by decide, gX12, gt6 (i := 3) (by decide +kernel) rfl⟩
theorem pX12_177 : Fp RX12 177 12 22 := ⟨RX12, TX12, 47, tyX12, rfl, rfl, by decide, gX12, gt6 (i := 3) (by decide +kernel) rfl, tyX12_ok, nmX12, rfl, (by decide +kernel)⟩
theorem fX12_240 : Fl RX12 240 12 7 := ⟨RX12, TX12, 47, rfl, rfl, by decide, gX12, gt5 (i := 228) (by decide +kernel) rfl⟩
theorem pX12_240 : Fp RX12 240 12 7 := ⟨RX12, TX12, 47, tyX12, rfl, rfl, by decide, gX12, gt5 (i := 228) (by decide +kernel) rfl, tyX12_ok, nmX12, rfl, (by decide +kernel)⟩
theorem fX12_243 : Fl RX12 243 12 8 := ⟨RX12, TX12, 47, rfl, rfl, by decide, gX12, gt5 (i := 229) (by decide +kernel) rfl⟩
theorem pX12_243 : Fp RX12 243 12 8 := ⟨RX12, TX12, 47, tyX12, rfl, rfl, by decide, gX12, gt5 (i := 229) (by decide +kernel) rfl, tyX12_ok, nmX12, rfl, (by decide +kernel)⟩
theorem fX12_246 : Fl RX12 246 12 9 := ⟨RX12, TX12, 47, rfl, rfl, by decide, gX12, gt5 (i := 230) (by decide +kernel) rfl⟩
theorem pX12_246 : Fp RX12 246 12 9 := ⟨RX12, TX12, 47, tyX12, rfl, rfl, by decide, gX12, gt5 (i := 230) (by decide +kernel) rfl, tyX12_ok, nmX12, rfl, (by decide +kernel)⟩
theorem fX12_282 : Fl RX12 282 12 20 := ⟨RX12, TX12, 47, rfl, rfl, by decide, gX12, gt6 (i := 1) (by decide +kernel) rfl⟩
theorem pX12_282 : Fp RX12 282 12 20 := ⟨RX12, TX12, 47, tyX12, rfl, rfl, by decide, gX12, gt6 (i := 1) (by decide +kernel) rfl, tyX12_ok, nmX12, rfl, (by decide +kernel)⟩
theorem fX12_294 : Fl RX12 294 12 2 := ⟨RX12, TX12, 47, rfl, rfl, by decide, gX12, gt5 (i := 223) (by decide +kernel) rfl⟩
theorem pX12_294 : Fp RX12 294 12 2 := ⟨RX12, TX12, 47, tyX12, rfl, rfl, by decide, gX12, gt5 (i := 223) (by decide +kernel) rfl, tyX12_ok, nmX12, rfl, (by decide +kernel)⟩
theorem fX12_303 : Fl RX12 303 12 24 := ⟨RX12, TX12, 47, rfl, rfl, by decide, gX12, gt6 (i := 5) (by decide +kernel) rfl⟩
theorem pX12_303 : Fp RX12 303 12 24 := ⟨RX12, TX12, 47, tyX12, rfl, rfl, by decide, gX12, gt6 (i := 5) (by decide +kernel) rfl, tyX12_ok, nmX12, rfl, (by decide +kernel)⟩
theorem fX12_448 : Fl RX12 448 12 39 := ⟨RX12, TX12, 47, rfl, rfl, by decide, gX12, gt6 (i := 20) (by decide +kernel) rfl⟩
theorem pX12_448 : Fp RX12 448 12 39 := ⟨RX12, TX12, 47, tyX12, rfl, rfl, by decide, gX12, gt6 (i := 20) (by decide +kernel) rfl, tyX12_ok, nmX12, rfl, (by decide +kernel)⟩
abbrev mJ6_bitCount_0f7a4 : MD := (yJ6_bitCount_0f7a4, cJ6_bitCount_0f7a4, 1, some .int)
theorem iJ6_bitCount_0f7a4 : Ms mJ6_bitCount_0f7a4 1 := ⟨gt4 (i := 126) (by decide +kernel) rfl, gt1 (i := 20) (by decide +kernel) rfl, gt4 (i := 127) (by decide +kernel) rfl, ⟨by decide, by decide⟩, (by decide +kernel), by decide⟩
abbrev mJ7_fill_53178 : MD := (yJ7_fill_53178, cJ7_fill_53178, 4, none)
theorem iJ7_fill_53178 : Ms mJ7_fill_53178 2 := ⟨gt3 (i := 121) (by decide +kernel) rfl, gt1 (i := 17) (by decide +kernel) rfl, gt3 (i := 122) (by decide +kernel) rfl, ⟨by decide, by decide⟩, (by decide +kernel), by decide⟩
abbrev mJ7_fill_fda19 : MD := (yJ7_fill_fda19, cJ7_fill_fda19, 5, none)
theorem iJ7_fill_fda19 : Ms mJ7_fill_fda19 4 := ⟨gt5 (i := 34) (by decide +kernel) rfl, gt1 (i := 17) (by decide +kernel) rfl, gt5 (i := 35) (by decide +kernel) rfl, ⟨by decide, by decide⟩, (by decide +kernel), by decide⟩
abbrev mJ7_rangeCheck_23922 : MD := (yJ7_rangeCheck_23922, cJ7_rangeCheck_23922, 3, none)
theorem iJ7_rangeCheck_23922 : Ms mJ7_rangeCheck_23922 3 := ⟨gt5 (i := 37) (by decide +kernel) rfl, gt1 (i := 17) (by decide +kernel) rfl, gt5 (i := 38) (by decide +kernel) rfl, ⟨by decide, by decide⟩, (by decide +kernel), by decide⟩
abbrev mX0_act : MD := (yX0_act, cX0_act, 8, none)
theorem iX0_act : Mi mX0_act 0 3 := ⟨gt4 (i := 102) (by decide +kernel) rfl, gp2 (x := 6) (i := 7) (by decide +kernel), gt1 (i := 5) (by decide +kernel) rfl, gt4 (i := 103) (by decide +kernel) rfl, ⟨by decide, by decide⟩, (by decide +kernel), by decide, ⟨_, rfl, rfl⟩⟩
abbrev mX0_arrive : MD := (yX0_arrive, cX0_arrive, 3, none)
theorem iX0_arrive : Mi mX0_arrive 0 1 := ⟨gt4 (i := 135) (by decide +kernel) rfl, gp2 (x := 6) (i := 10) (by decide +kernel), gt1 (i := 5) (by decide +kernel) rfl, gt4 (i := 136) (by decide +kernel) rfl, ⟨by decide, by decide⟩, (by decide +kernel), by decide, ⟨_, rfl, rfl⟩⟩
abbrev mX0_begin : MD := (yX0_begin, cX0_begin, 2, none)
theorem iX0_begin : Mi mX0_begin 0 1 := ⟨gt3 (i := 116) (by decide +kernel) rfl, gt3 (i := 117) (by decide +kernel) rfl, gt1 (i := 5) (by decide +kernel) rfl, gt3 (i := 118) (by decide +kernel) rfl, ⟨by decide, by decide⟩, (by decide +kernel), by decide, ⟨_, rfl, rfl⟩⟩
abbrev mX0_beginDrawn : MD := (yX0_beginDrawn, cX0_beginDrawn, 6, some .int)
theorem iX0_beginDrawn : Mi mX0_beginDrawn 0 2 := ⟨gt5 (i := 185) (by decide +kernel) rfl, gt5 (i := 186) (by decide +kernel) rfl, gt1 (i := 5) (by decide +kernel) rfl, gt5 (i := 187) (by decide +kernel) rfl, ⟨by decide, by decide⟩, (by decide +kernel), by decide, ⟨_, rfl, rfl⟩⟩
abbrev mX0_canRide : MD := (yX0_canRide, cX0_canRide, 3, some .boolean)
theorem iX0_canRide : Mi mX0_canRide 0 2 := ⟨gt4 (i := 56) (by decide +kernel) rfl, gp2 (x := 6) (i := 3) (by decide +kernel), gt1 (i := 5) (by decide +kernel) rfl, gt4 (i := 57) (by decide +kernel) rfl, ⟨by decide, by decide⟩, (by decide +kernel), by decide, ⟨_, rfl, rfl⟩⟩
abbrev mX0_canTake : MD := (yX0_canTake, cX0_canTake, 4, some .boolean)
theorem iX0_canTake : Mi mX0_canTake 0 3 := ⟨gt4 (i := 73) (by decide +kernel) rfl, gp2 (x := 6) (i := 5) (by decide +kernel), gt1 (i := 5) (by decide +kernel) rfl, gt4 (i := 74) (by decide +kernel) rfl, ⟨by decide, by decide⟩, (by decide +kernel), by decide, ⟨_, rfl, rfl⟩⟩
abbrev mX0_copyFrom : MD := (yX0_copyFrom, cX0_copyFrom, 2, none)
theorem iX0_copyFrom : Mi mX0_copyFrom 0 1 := ⟨gt4 (i := 142) (by decide +kernel) rfl, gt4 (i := 143) (by decide +kernel) rfl, gt1 (i := 5) (by decide +kernel) rfl, gt4 (i := 144) (by decide +kernel) rfl, ⟨by decide, by decide⟩, (by decide +kernel), by decide, ⟨_, rfl, rfl⟩⟩
abbrev mX0_init : MD := (yX0_init, cX0_init, 1, none)
abbrev mX0_leave : MD := (yX0_leave, cX0_leave, 4, none)
theorem iX0_leave : Mi mX0_leave 0 3 := ⟨gt4 (i := 65) (by decide +kernel) rfl, gp2 (x := 6) (i := 4) (by decide +kernel), gt1 (i := 5) (by decide +kernel) rfl, gt4 (i := 66) (by decide +kernel) rfl, ⟨by decide, by decide⟩, (by decide +kernel), by decide, ⟨_, rfl, rfl⟩⟩
abbrev mX0_pass : MD := (yX0_pass, cX0_pass, 6, none)
theorem iX0_pass : Mi mX0_pass 0 3 := ⟨gt4 (i := 97) (by decide +kernel) rfl, gt4 (i := 98) (by decide +kernel) rfl, gt1 (i := 5) (by decide +kernel) rfl, gt4 (i := 99) (by decide +kernel) rfl, ⟨by decide, by decide⟩, (by decide +kernel), by decide, ⟨_, rfl, rfl⟩⟩
abbrev mX0_peopleIn : MD := (yX0_peopleIn, cX0_peopleIn, 5, some .int)
theorem iX0_peopleIn : Mi mX0_peopleIn 0 2 := ⟨gt4 (i := 30) (by decide +kernel) rfl, gt4 (i := 31) (by decide +kernel) rfl, gt1 (i := 5) (by decide +kernel) rfl, gt4 (i := 32) (by decide +kernel) rfl, ⟨by decide, by decide⟩, (by decide +kernel), by decide, ⟨_, rfl, rfl⟩⟩
abbrev mX0_takeHoist : MD := (yX0_takeHoist, cX0_takeHoist, 3, some .boolean)
theorem iX0_takeHoist : Mi mX0_takeHoist 0 2 := ⟨gt4 (i := 51) (by decide +kernel) rfl, gt4 (i := 52) (by decide +kernel) rfl, gt1 (i := 5) (by decide +kernel) rfl, gt4 (i := 53) (by decide +kernel) rfl, ⟨by decide, by decide⟩, (by decide +kernel), by decide, ⟨_, rfl, rfl⟩⟩
abbrev mX0_takeWay : MD := (yX0_takeWay, cX0_takeWay, 4, some .boolean)
theorem iX0_takeWay : Mi mX0_takeWay 0 3 := ⟨gt4 (i := 68) (by decide +kernel) rfl, gt4 (i := 69) (by decide +kernel) rfl, gt1 (i := 5) (by decide +kernel) rfl, gt4 (i := 70) (by decide +kernel) rfl, ⟨by decide, by decide⟩, (by decide +kernel), by decide, ⟨_, rfl, rfl⟩⟩
abbrev mX0_tally : MD := (yX0_tally, cX0_tally, 6, some .int)
theorem iX0_tally : Mi mX0_tally 0 2 := ⟨gt4 (i := 146) (by decide +kernel) rfl, gt4 (i := 147) (by decide +kernel) rfl, gt1 (i := 5) (by decide +kernel) rfl, gt4 (i := 148) (by decide +kernel) rfl, ⟨by decide, by decide⟩, (by decide +kernel), by decide, ⟨_, rfl, rfl⟩⟩
abbrev mX0_word : MD := (yX0_word, cX0_word, 5, some .long)
theorem iX0_word : Mi mX0_word 0 3 := ⟨gt4 (i := 120) (by decide +kernel) rfl, gt4 (i := 121) (by decide +kernel) rfl, gt1 (i := 5) (by decide +kernel) rfl, gt4 (i := 122) (by decide +kernel) rfl, ⟨by decide, by decide⟩, (by decide +kernel), by decide, ⟨_, rfl, rfl⟩⟩
abbrev mX10_begin : MD := (yX10_begin, cX10_begin, 7, none)
theorem iX10_begin : Mi mX10_begin 10 3 := ⟨gt5 (i := 75) (by decide +kernel) rfl, gt5 (i := 76) (by decide +kernel) rfl, gt1 (i := 8) (by decide +kernel) rfl, gt5 (i := 77) (by decide +kernel) rfl, ⟨by decide, by decide⟩, (by decide +kernel), by decide, ⟨_, rfl, rfl⟩⟩
abbrev mX10_goBack : MD := (yX10_goBack, cX10_goBack, 6, some .boolean)
theorem iX10_goBack : Mi mX10_goBack 10 3 := ⟨gt5 (i := 85) (by decide +kernel) rfl, gp3 (x := 6) (i := 4) (by decide +kernel), gt1 (i := 8) (by decide +kernel) rfl, gt5 (i := 86) (by decide +kernel) rfl, ⟨by decide, by decide⟩, (by decide +kernel), by decide, ⟨_, rfl, rfl⟩⟩
abbrev mX10_init : MD := (yX10_init, cX10_init, 1, none)
abbrev mX10_latestAt : MD := (yX10_latestAt, cX10_latestAt, 2, some .int)
theorem iX10_latestAt : Mi mX10_latestAt 10 1 := ⟨gt5 (i := 90) (by decide +kernel) rfl, gp3 (x := 6) (i := 5) (by decide +kernel), gt1 (i := 8) (by decide +kernel) rfl, gt5 (i := 91) (by decide +kernel) rfl, ⟨by decide, by decide⟩, (by decide +kernel), by decide, ⟨_, rfl, rfl⟩⟩
abbrev mX10_put : MD := (yX10_put, cX10_put, 3, some .boolean)
theorem iX10_put : Mi mX10_put 10 2 := ⟨gt5 (i := 81) (by decide +kernel) rfl, gp3 (x := 6) (i := 3) (by decide +kernel), gt1 (i := 8) (by decide +kernel) rfl, gt5 (i := 82) (by decide +kernel) rfl, ⟨by decide, by decide⟩, (by decide +kernel), by decide, ⟨_, rfl, rfl⟩⟩
abbrev mX10_step : MD := (yX10_step, cX10_step, 5, some .boolean)
theorem iX10_step : Mi mX10_step 10 1 := ⟨gt5 (i := 94) (by decide +kernel) rfl, gt5 (i := 95) (by decide +kernel) rfl, gt1 (i := 8) (by decide +kernel) rfl, gt5 (i := 96) (by decide +kernel) rfl, ⟨by decide, by decide⟩, (by decide +kernel), by decide, ⟨_, rfl, rfl⟩⟩
abbrev mX11_ahead : MD := (yX11_ahead, cX11_ahead, 4, some .int)
theorem iX11_ahead : Mi mX11_ahead 11 2 := ⟨gt4 (i := 138) (by decide +kernel) rfl, gt4 (i := 139) (by decide +kernel) rfl, gt1 (i := 1) (by decide +kernel) rfl, gt4 (i := 140) (by decide +kernel) rfl, ⟨by decide, by decide⟩, (by decide +kernel), by decide, ⟨_, rfl, rfl⟩⟩
abbrev mX11_back : MD := (yX11_back, cX11_back, 2, some .int)
theorem iX11_back : Mi mX11_back 11 1 := ⟨gt5 (i := 212) (by decide +kernel) rfl, gt5 (i := 213) (by decide +kernel) rfl, gt1 (i := 1) (by decide +kernel) rfl, gt5 (i := 214) (by decide +kernel) rfl, ⟨by decide, by decide⟩, (by decide +kernel), by decide, ⟨_, rfl, rfl⟩⟩
abbrev mX11_beds : MD := (yX11_beds, cX11_beds, 3, some .int)
theorem iX11_beds : Mi mX11_beds 11 0 := ⟨gt5 (i := 157) (by decide +kernel) rfl, gt5 (i := 158) (by decide +kernel) rfl, gt1 (i := 1) (by decide +kernel) rfl, gt5 (i := 159) (by decide +kernel) rfl, ⟨by decide, by decide⟩, (by decide +kernel), by decide, ⟨_, rfl, rfl⟩⟩
abbrev mX11_best : MD := (yX11_best, cX11_best, 5, some .int)
theorem iX11_best : Mi mX11_best 11 4 := ⟨gt4 (i := 237) (by decide +kernel) rfl, gt4 (i := 238) (by decide +kernel) rfl, gt1 (i := 1) (by decide +kernel) rfl, gt4 (i := 239) (by decide +kernel) rfl, ⟨by decide, by decide⟩, (by decide +kernel), by decide, ⟨_, rfl, rfl⟩⟩
abbrev mX11_brought : MD := (yX11_brought, cX11_brought, 7, some .int)
theorem iX11_brought : Mi mX11_brought 11 3 := ⟨gt5 (i := 99) (by decide +kernel) rfl, gt5 (i := 100) (by decide +kernel) rfl, gt1 (i := 1) (by decide +kernel) rfl, gt5 (i := 101) (by decide +kernel) rfl, ⟨by decide, by decide⟩, (by decide +kernel), by decide, ⟨_, rfl, rfl⟩⟩
abbrev mX11_comesHome : MD := (yX11_comesHome, cX11_comesHome, 7, some .boolean)
theorem iX11_comesHome : Mi mX11_comesHome 11 1 := ⟨gt5 (i := 162) (by decide +kernel) rfl, gp3 (x := 17) (i := 11) (by decide +kernel), gt1 (i := 1) (by decide +kernel) rfl, gt5 (i := 163) (by decide +kernel) rfl, ⟨by decide, by decide⟩, (by decide +kernel), by decide, ⟨_, rfl, rfl⟩⟩
abbrev mX11_copyRow : MD := (yX11_copyRow, cX11_copyRow, 2, none)
theorem iX11_copyRow : Ms mX11_copyRow 2 := ⟨gt3 (i := 107) (by decide +kernel) rfl, gt1 (i := 1) (by decide +kernel) rfl, gt3 (i := 108) (by decide +kernel) rfl, ⟨by decide, by decide⟩, (by decide +kernel), by decide⟩
abbrev mX11_count : MD := (yX11_count, cX11_count, 2, some .int)
theorem iX11_count : Mi mX11_count 11 1 := ⟨gt5 (i := 194) (by decide +kernel) rfl, gt5 (i := 195) (by decide +kernel) rfl, gt1 (i := 1) (by decide +kernel) rfl, gt5 (i := 196) (by decide +kernel) rfl, ⟨by decide, by decide⟩, (by decide +kernel), by decide, ⟨_, rfl, rfl⟩⟩
abbrev mX11_customer : MD := (yX11_customer, cX11_customer, 4, some .int)
theorem iX11_customer : Mi mX11_customer 11 2 := ⟨gt5 (i := 129) (by decide +kernel) rfl, gt5 (i := 130) (by decide +kernel) rfl, gt1 (i := 1) (by decide +kernel) rfl, gt5 (i := 131) (by decide +kernel) rfl, ⟨by decide, by decide⟩, (by decide +kernel), by decide, ⟨_, rfl, rfl⟩⟩
abbrev mX11_downs : MD := (yX11_downs, cX11_downs, 5, some .int)
theorem iX11_downs : Mi mX11_downs 11 3 := ⟨gt4 (i := 206) (by decide +kernel) rfl, gt4 (i := 207) (by decide +kernel) rfl, gt1 (i := 1) (by decide +kernel) rfl, gt4 (i := 208) (by decide +kernel) rfl, ⟨by decide, by decide⟩, (by decide +kernel), by decide, ⟨_, rfl, rfl⟩⟩
abbrev mX11_drawn : MD := (yX11_drawn, cX11_drawn, 8, some .int)
theorem iX11_drawn : Mi mX11_drawn 11 3 := ⟨gt5 (i := 181) (by decide +kernel) rfl, gt5 (i := 182) (by decide +kernel) rfl, gt1 (i := 1) (by decide +kernel) rfl, gt5 (i := 183) (by decide +kernel) rfl, ⟨by decide, by decide⟩, (by decide +kernel), by decide, ⟨_, rfl, rfl⟩⟩
abbrev mX11_end : MD := (yX11_end, cX11_end, 2, some .int)
theorem iX11_end : Mi mX11_end 11 1 := ⟨gt2 (i := 165) (by decide +kernel) rfl, gt2 (i := 166) (by decide +kernel) rfl, gt1 (i := 1) (by decide +kernel) rfl, gt2 (i := 167) (by decide +kernel) rfl, ⟨by decide, by decide⟩, (by decide +kernel), by decide, ⟨_, rfl, rfl⟩⟩
abbrev mX11_errand : MD := (yX11_errand, cX11_errand, 6, some .int)
theorem iX11_errand : Mi mX11_errand 11 4 := ⟨gt4 (i := 229) (by decide +kernel) rfl, gt4 (i := 230) (by decide +kernel) rfl, gt1 (i := 1) (by decide +kernel) rfl, gt4 (i := 231) (by decide +kernel) rfl, ⟨by decide, by decide⟩, (by decide +kernel), by decide, ⟨_, rfl, rfl⟩⟩
abbrev mX11_feed : MD := (yX11_feed, cX11_feed, 6, some .int)
theorem iX11_feed : Mi mX11_feed 11 5 := ⟨gt2 (i := 157) (by decide +kernel) rfl, gt2 (i := 158) (by decide +kernel) rfl, gt1 (i := 1) (by decide +kernel) rfl, gt2 (i := 159) (by decide +kernel) rfl, ⟨by decide, by decide⟩, (by decide +kernel), by decide, ⟨_, rfl, rfl⟩⟩
abbrev mX11_go : MD := (yX11_go, cX11_go, 5, some .boolean)
theorem iX11_go : Mi mX11_go 11 2 := ⟨gt4 (i := 47) (by decide +kernel) rfl, gt4 (i := 48) (by decide +kernel) rfl, gt1 (i := 1) (by decide +kernel) rfl, gt4 (i := 49) (by decide +kernel) rfl, ⟨by decide, by decide⟩, (by decide +kernel), by decide, ⟨_, rfl, rfl⟩⟩
abbrev mX11_goDownWith : MD := (yX11_goDownWith, cX11_goDownWith, 6, some .int)
theorem iX11_goDownWith : Mi mX11_goDownWith 11 3 := ⟨gt5 (i := 146) (by decide +kernel) rfl, gp3 (x := 17) (i := 9) (by decide +kernel), gt1 (i := 1) (by decide +kernel) rfl, gt5 (i := 147) (by decide +kernel) rfl, ⟨by decide, by decide⟩, (by decide +kernel), by decide, ⟨_, rfl, rfl⟩⟩
abbrev mX11_house : MD := (yX11_house, cX11_house, 3, some .int)
theorem iX11_house : Mi mX11_house 11 0 := ⟨gt2 (i := 169) (by decide +kernel) rfl, gt2 (i := 170) (by decide +kernel) rfl, gt1 (i := 1) (by decide +kernel) rfl, gt2 (i := 171) (by decide +kernel) rfl, ⟨by decide, by decide⟩, (by decide +kernel), by decide, ⟨_, rfl, rfl⟩⟩
abbrev mX11_image : MD := (yX11_image, cX11_image, 3, some .int)
theorem iX11_image : Mi mX11_image 11 1 := ⟨gt5 (i := 198) (by decide +kernel) rfl, gt5 (i := 199) (by decide +kernel) rfl, gt1 (i := 1) (by decide +kernel) rfl, gt5 (i := 200) (by decide +kernel) rfl, ⟨by decide, by decide⟩, (by decide +kernel), by decide, ⟨_, rfl, rfl⟩⟩
abbrev mX11_init : MD := (yX11_init, cX11_init, 1, none)
abbrev mX11_isMinute : MD := (yX11_isMinute, cX11_isMinute, 1, some .boolean)
theorem iX11_isMinute : Ms mX11_isMinute 1 := ⟨gt4 (i := 158) (by decide +kernel) rfl, gt1 (i := 1) (by decide +kernel) rfl, gt4 (i := 159) (by decide +kernel) rfl, ⟨by decide, by decide⟩, (by decide +kernel), by decide⟩
abbrev mX11_isStart : MD := (yX11_isStart, cX11_isStart, 3, some .boolean)
theorem iX11_isStart : Mi mX11_isStart 11 2 := ⟨gt4 (i := 155) (by decide +kernel) rfl, gp2 (x := 17) (i := 11) (by decide +kernel), gt1 (i := 1) (by decide +kernel) rfl, gt4 (i := 156) (by decide +kernel) rfl, ⟨by decide, by decide⟩, (by decide +kernel), by decide, ⟨_, rfl, rfl⟩⟩
abbrev mX11_meeting : MD := (yX11_meeting, cX11_meeting, 12, some .int)
theorem iX11_meeting : Mi mX11_meeting 11 6 := ⟨gt5 (i := 57) (by decide +kernel) rfl, gt5 (i := 58) (by decide +kernel) rfl, gt1 (i := 1) (by decide +kernel) rfl, gt5 (i := 59) (by decide +kernel) rfl, ⟨by decide, by decide⟩, (by decide +kernel), by decide, ⟨_, rfl, rfl⟩⟩
abbrev mX11_nextShop : MD := (yX11_nextShop, cX11_nextShop, 5, some .int)
theorem iX11_nextShop : Mi mX11_nextShop 11 2 := ⟨gt5 (i := 154) (by decide +kernel) rfl, gp3 (x := 17) (i := 10) (by decide +kernel), gt1 (i := 1) (by decide +kernel) rfl, gt5 (i := 155) (by decide +kernel) rfl, ⟨by decide, by decide⟩, (by decide +kernel), by decide, ⟨_, rfl, rfl⟩⟩
abbrev mX11_orNotToday : MD := (yX11_orNotToday, cX11_orNotToday, 1, some .int)
theorem iX11_orNotToday : Ms mX11_orNotToday 1 := ⟨gt4 (i := 199) (by decide +kernel) rfl, gt1 (i := 1) (by decide +kernel) rfl, gt4 (i := 200) (by decide +kernel) rfl, ⟨by decide, by decide⟩, (by decide +kernel), by decide⟩
abbrev mX11_order : MD := (yX11_order, cX11_order, 6, some .int)
theorem iX11_order : Mi mX11_order 11 2 := ⟨gt5 (i := 137) (by decide +kernel) rfl, gt5 (i := 138) (by decide +kernel) rfl, gt1 (i := 1) (by decide +kernel) rfl, gt5 (i := 139) (by decide +kernel) rfl, ⟨by decide, by decide⟩, (by decide +kernel), by decide, ⟨_, rfl, rfl⟩⟩
abbrev mX11_person : MD := (yX11_person, cX11_person, 4, some .int)
theorem iX11_person : Mi mX11_person 11 2 := ⟨gt4 (i := 39) (by decide +kernel) rfl, gt4 (i := 40) (by decide +kernel) rfl, gt1 (i := 1) (by decide +kernel) rfl, gt4 (i := 41) (by decide +kernel) rfl, ⟨by decide, by decide⟩, (by decide +kernel), by decide, ⟨_, rfl, rfl⟩⟩
abbrev mX11_rider : MD := (yX11_rider, cX11_rider, 3, some .int)
theorem iX11_rider : Mi mX11_rider 11 1 := ⟨gt5 (i := 108) (by decide +kernel) rfl, gt5 (i := 109) (by decide +kernel) rfl, gt1 (i := 1) (by decide +kernel) rfl, gt5 (i := 110) (by decide +kernel) rfl, ⟨by decide, by decide⟩, (by decide +kernel), by decide, ⟨_, rfl, rfl⟩⟩
abbrev mX11_rides : MD := (yX11_rides, cX11_rides, 5, some .int)
theorem iX11_rides : Mi mX11_rides 11 1 := ⟨gt5 (i := 116) (by decide +kernel) rfl, gt5 (i := 117) (by decide +kernel) rfl, gt1 (i := 1) (by decide +kernel) rfl, gt5 (i := 118) (by decide +kernel) rfl, ⟨by decide, by decide⟩, (by decide +kernel), by decide, ⟨_, rfl, rfl⟩⟩
abbrev mX11_room : MD := (yX11_room, cX11_room, 4, some .int)
theorem iX11_room : Mi mX11_room 11 2 := ⟨gt4 (i := 25) (by decide +kernel) rfl, gt4 (i := 26) (by decide +kernel) rfl, gt1 (i := 1) (by decide +kernel) rfl, gt4 (i := 27) (by decide +kernel) rfl, ⟨by decide, by decide⟩, (by decide +kernel), by decide, ⟨_, rfl, rfl⟩⟩
abbrev mX11_rule : MD := (yX11_rule, cX11_rule, 3, some .int)
theorem iX11_rule : Mi mX11_rule 11 0 := ⟨gt3 (i := 125) (by decide +kernel) rfl, gt3 (i := 126) (by decide +kernel) rfl, gt1 (i := 1) (by decide +kernel) rfl, gt3 (i := 127) (by decide +kernel) rfl, ⟨by decide, by decide⟩, (by decide +kernel), by decide, ⟨_, rfl, rfl⟩⟩
abbrev mX11_ruleTold : MD := (yX11_ruleTold, cX11_ruleTold, 2, some (.object "DownOnly$Rule"))
theorem iX11_ruleTold : Mi mX11_ruleTold 11 1 := ⟨gt4 (i := 94) (by decide +kernel) rfl, gp2 (x := 17) (i := 6) (by decide +kernel), gt1 (i := 1) (by decide +kernel) rfl, gt4 (i := 95) (by decide +kernel) rfl, ⟨by decide, by decide⟩, (by decide +kernel), by decide, ⟨_, rfl, rfl⟩⟩
abbrev mX11_seatRiders : MD := (yX11_seatRiders, cX11_seatRiders, 7, none)
theorem iX11_seatRiders : Mi mX11_seatRiders 11 0 := ⟨gt5 (i := 121) (by decide +kernel) rfl, gp3 (x := 17) (i := 7) (by decide +kernel), gt1 (i := 1) (by decide +kernel) rfl, gt5 (i := 122) (by decide +kernel) rfl, ⟨by decide, by decide⟩, (by decide +kernel), by decide, ⟨_, rfl, rfl⟩⟩
abbrev mX11_seed : MD := (yX11_seed, cX11_seed, 3, some .int)
theorem iX11_seed : Mi mX11_seed 11 1 := ⟨gt5 (i := 177) (by decide +kernel) rfl, gt5 (i := 178) (by decide +kernel) rfl, gt1 (i := 1) (by decide +kernel) rfl, gt5 (i := 179) (by decide +kernel) rfl, ⟨by decide, by decide⟩, (by decide +kernel), by decide, ⟨_, rfl, rfl⟩⟩
abbrev mX11_soonest : MD := (yX11_soonest, cX11_soonest, 5, some .int)
theorem iX11_soonest : Mi mX11_soonest 11 4 := ⟨gt4 (i := 150) (by decide +kernel) rfl, gt4 (i := 151) (by decide +kernel) rfl, gt1 (i := 1) (by decide +kernel) rfl, gt4 (i := 152) (by decide +kernel) rfl, ⟨by decide, by decide⟩, (by decide +kernel), by decide, ⟨_, rfl, rfl⟩⟩
abbrev mX11_still : MD := (yX11_still, cX11_still, 6, some .int)
theorem iX11_still : Mi mX11_still 11 3 := ⟨gt4 (i := 202) (by decide +kernel) rfl, gt4 (i := 203) (by decide +kernel) rfl, gt1 (i := 1) (by decide +kernel) rfl, gt4 (i := 204) (by decide +kernel) rfl, ⟨by decide, by decide⟩, (by decide +kernel), by decide, ⟨_, rfl, rfl⟩⟩
abbrev mX11_takeAlong : MD := (yX11_takeAlong, cX11_takeAlong, 6, some .boolean)
theorem iX11_takeAlong : Mi mX11_takeAlong 11 1 := ⟨gt5 (i := 105) (by decide +kernel) rfl, gp3 (x := 17) (i := 6) (by decide +kernel), gt1 (i := 1) (by decide +kernel) rfl, gt5 (i := 106) (by decide +kernel) rfl, ⟨by decide, by decide⟩, (by decide +kernel), by decide, ⟨_, rfl, rfl⟩⟩
abbrev mX11_tick : MD := (yX11_tick, cX11_tick, 5, some .int)
theorem iX11_tick : Mi mX11_tick 11 2 := ⟨gt4 (i := 89) (by decide +kernel) rfl, gt4 (i := 90) (by decide +kernel) rfl, gt1 (i := 1) (by decide +kernel) rfl, gt4 (i := 91) (by decide +kernel) rfl, ⟨by decide, by decide⟩, (by decide +kernel), by decide, ⟨_, rfl, rfl⟩⟩
abbrev mX11_trip : MD := (yX11_trip, cX11_trip, 6, some .int)
theorem iX11_trip : Mi mX11_trip 11 3 := ⟨gt5 (i := 63) (by decide +kernel) rfl, gt5 (i := 64) (by decide +kernel) rfl, gt1 (i := 1) (by decide +kernel) rfl, gt5 (i := 65) (by decide +kernel) rfl, ⟨by decide, by decide⟩, (by decide +kernel), by decide, ⟨_, rfl, rfl⟩⟩
abbrev mX11_trips : MD := (yX11_trips, cX11_trips, 5, some .int)
theorem iX11_trips : Mi mX11_trips 11 2 := ⟨gt5 (i := 71) (by decide +kernel) rfl, gt5 (i := 72) (by decide +kernel) rfl, gt1 (i := 1) (by decide +kernel) rfl, gt5 (i := 73) (by decide +kernel) rfl, ⟨by decide, by decide⟩, (by decide +kernel), by decide, ⟨_, rfl, rfl⟩⟩
abbrev mX11_upward : MD := (yX11_upward, cX11_upward, 7, some .int)
theorem iX11_upward : Mi mX11_upward 11 1 := ⟨gt5 (i := 165) (by decide +kernel) rfl, gt5 (i := 166) (by decide +kernel) rfl, gt1 (i := 1) (by decide +kernel) rfl, gt5 (i := 167) (by decide +kernel) rfl, ⟨by decide, by decide⟩, (by decide +kernel), by decide, ⟨_, rfl, rfl⟩⟩
abbrev mX11_way : MD := (yX11_way, cX11_way, 4, some .int)
theorem iX11_way : Mi mX11_way 11 2 := ⟨gt4 (i := 34) (by decide +kernel) rfl, gt4 (i := 35) (by decide +kernel) rfl, gt1 (i := 1) (by decide +kernel) rfl, gt4 (i := 36) (by decide +kernel) rfl, ⟨by decide, by decide⟩, (by decide +kernel), by decide, ⟨_, rfl, rfl⟩⟩
abbrev mX11_weighOrders : MD := (yX11_weighOrders, cX11_weighOrders, 5, none)
theorem iX11_weighOrders : Mi mX11_weighOrders 11 1 := ⟨gt5 (i := 142) (by decide +kernel) rfl, gp3 (x := 17) (i := 8) (by decide +kernel), gt1 (i := 1) (by decide +kernel) rfl, gt5 (i := 143) (by decide +kernel) rfl, ⟨by decide, by decide⟩, (by decide +kernel), by decide, ⟨_, rfl, rfl⟩⟩
abbrev mX12_ahead : MD := (yX12_ahead, cX12_ahead, 4, some .int)
theorem iX12_ahead : Mi mX12_ahead 12 2 := ⟨gt7 (i := 173) (by decide +kernel) rfl, gt7 (i := 174) (by decide +kernel) rfl, gt1 (i := 9) (by decide +kernel) rfl, gt7 (i := 175) (by decide +kernel) rfl, ⟨by decide, by decide⟩, (by decide +kernel), by decide, ⟨_, rfl, rfl⟩⟩
abbrev mX12_atHome : MD := (yX12_atHome, cX12_atHome, 3, some .int)
theorem iX12_atHome : Mi mX12_atHome 12 0 := ⟨gt7 (i := 182) (by decide +kernel) rfl, gp7 (x := 47) (i := 3) (by decide +kernel), gt1 (i := 9) (by decide +kernel) rfl, gt7 (i := 183) (by decide +kernel) rfl, ⟨by decide, by decide⟩, (by decide +kernel), by decide, ⟨_, rfl, rfl⟩⟩
abbrev mX12_back : MD := (yX12_back, cX12_back, 3, some .int)
theorem iX12_back : Mi mX12_back 12 1 := ⟨gt8 (i := 132) (by decide +kernel) rfl, gt8 (i := 133) (by decide +kernel) rfl, gt1 (i := 9) (by decide +kernel) rfl, gt8 (i := 134) (by decide +kernel) rfl, ⟨by decide, by decide⟩, (by decide +kernel), by decide, ⟨_, rfl, rfl⟩⟩
abbrev mX12_beds : MD := (yX12_beds, cX12_beds, 3, some .int)
theorem iX12_beds : Mi mX12_beds 12 0 := ⟨gt8 (i := 95) (by decide +kernel) rfl, gt8 (i := 96) (by decide +kernel) rfl, gt1 (i := 9) (by decide +kernel) rfl, gt8 (i := 97) (by decide +kernel) rfl, ⟨by decide, by decide⟩, (by decide +kernel), by decide, ⟨_, rfl, rfl⟩⟩
abbrev mX12_begins : MD := (yX12_begins, cX12_begins, 4, none)
theorem iX12_begins : Mi mX12_begins 12 2 := ⟨gt7 (i := 56) (by decide +kernel) rfl, gp5 (x := 47) (i := 12) (by decide +kernel), gt1 (i := 9) (by decide +kernel) rfl, gt7 (i := 57) (by decide +kernel) rfl, ⟨by decide, by decide⟩, (by decide +kernel), by decide, ⟨_, rfl, rfl⟩⟩
abbrev mX12_best : MD := (yX12_best, cX12_best, 9, some .int)
theorem iX12_best : Mi mX12_best 12 4 := ⟨gt8 (i := 6) (by decide +kernel) rfl, gt8 (i := 7) (by decide +kernel) rfl, gt1 (i := 9) (by decide +kernel) rfl, gt8 (i := 8) (by decide +kernel) rfl, ⟨by decide, by decide⟩, (by decide +kernel), by decide, ⟨_, rfl, rfl⟩⟩
abbrev mX12_bits : MD := (yX12_bits, cX12_bits, 3, some .int)
theorem iX12_bits : Ms mX12_bits 1 := ⟨gt7 (i := 155) (by decide +kernel) rfl, gt1 (i := 9) (by decide +kernel) rfl, gt7 (i := 156) (by decide +kernel) rfl, ⟨by decide, by decide⟩, (by decide +kernel), by decide⟩
abbrev mX12_brought : MD := (yX12_brought, cX12_brought, 6, some .int)
theorem iX12_brought : Mi mX12_brought 12 3 := ⟨gt8 (i := 53) (by decide +kernel) rfl, gt8 (i := 54) (by decide +kernel) rfl, gt1 (i := 9) (by decide +kernel) rfl, gt8 (i := 55) (by decide +kernel) rfl, ⟨by decide, by decide⟩, (by decide +kernel), by decide, ⟨_, rfl, rfl⟩⟩
abbrev mX12_carries : MD := (yX12_carries, cX12_carries, 5, some .boolean)
theorem iX12_carries : Mi mX12_carries 12 1 := ⟨gt8 (i := 58) (by decide +kernel) rfl, gp8 (x := 47) (i := 4) (by decide +kernel), gt1 (i := 9) (by decide +kernel) rfl, gt8 (i := 59) (by decide +kernel) rfl, ⟨by decide, by decide⟩, (by decide +kernel), by decide, ⟨_, rfl, rfl⟩⟩
abbrev mX12_clauseHere : MD := (yX12_clauseHere, cX12_clauseHere, 3, some .boolean)
theorem iX12_clauseHere : Mi mX12_clauseHere 12 0 := ⟨gt6 (i := 146) (by decide +kernel) rfl, gp3 (x := 47) (i := 14) (by decide +kernel), gt1 (i := 9) (by decide +kernel) rfl, gt6 (i := 147) (by decide +kernel) rfl, ⟨by decide, by decide⟩, (by decide +kernel), by decide, ⟨_, rfl, rfl⟩⟩
abbrev mX12_closes : MD := (yX12_closes, cX12_closes, 1, none)
theorem iX12_closes : Mi mX12_closes 12 0 := ⟨gt7 (i := 35) (by decide +kernel) rfl, gp5 (x := 47) (i := 9) (by decide +kernel), gt1 (i := 9) (by decide +kernel) rfl, gt7 (i := 36) (by decide +kernel) rfl, ⟨by decide, by decide⟩, (by decide +kernel), by decide, ⟨_, rfl, rfl⟩⟩
abbrev mX12_comesHome : MD := (yX12_comesHome, cX12_comesHome, 4, some .boolean)
theorem iX12_comesHome : Mi mX12_comesHome 12 1 := ⟨gt8 (i := 100) (by decide +kernel) rfl, gp8 (x := 47) (i := 9) (by decide +kernel), gt1 (i := 9) (by decide +kernel) rfl, gt8 (i := 101) (by decide +kernel) rfl, ⟨by decide, by decide⟩, (by decide +kernel), by decide, ⟨_, rfl, rfl⟩⟩
abbrev mX12_comesTo : MD := (yX12_comesTo, cX12_comesTo, 3, none)
theorem iX12_comesTo : Mi mX12_comesTo 12 2 := ⟨gt7 (i := 220) (by decide +kernel) rfl, gp7 (x := 47) (i := 10) (by decide +kernel), gt1 (i := 9) (by decide +kernel) rfl, gt7 (i := 221) (by decide +kernel) rfl, ⟨by decide, by decide⟩, (by decide +kernel), by decide, ⟨_, rfl, rfl⟩⟩
abbrev mX12_compare : MD := (yX12_compare, cX12_compare, 5, some .boolean)
theorem iX12_compare : Mi mX12_compare 12 0 := ⟨gt7 (i := 0) (by decide +kernel) rfl, gp5 (x := 47) (i := 2) (by decide +kernel), gt1 (i := 9) (by decide +kernel) rfl, gt7 (i := 1) (by decide +kernel) rfl, ⟨by decide, by decide⟩, (by decide +kernel), by decide, ⟨_, rfl, rfl⟩⟩
abbrev mX12_count : MD := (yX12_count, cX12_count, 2, some .int)
theorem iX12_count : Mi mX12_count 12 1 := ⟨gt8 (i := 123) (by decide +kernel) rfl, gt8 (i := 124) (by decide +kernel) rfl, gt1 (i := 9) (by decide +kernel) rfl, gt8 (i := 125) (by decide +kernel) rfl, ⟨by decide, by decide⟩, (by decide +kernel), by decide, ⟨_, rfl, rfl⟩⟩
abbrev mX12_customer : MD := (yX12_customer, cX12_customer, 3, some .int)
theorem iX12_customer : Mi mX12_customer 12 2 := ⟨gt8 (i := 78) (by decide +kernel) rfl, gt8 (i := 79) (by decide +kernel) rfl, gt1 (i := 9) (by decide +kernel) rfl, gt8 (i := 80) (by decide +kernel) rfl, ⟨by decide, by decide⟩, (by decide +kernel), by decide, ⟨_, rfl, rfl⟩⟩
abbrev mX12_descends : MD := (yX12_descends, cX12_descends, 6, none)
theorem iX12_descends : Mi mX12_descends 12 1 := ⟨gt7 (i := 236) (by decide +kernel) rfl, gp7 (x := 47) (i := 12) (by decide +kernel), gt1 (i := 9) (by decide +kernel) rfl, gt7 (i := 237) (by decide +kernel) rfl, ⟨by decide, by decide⟩, (by decide +kernel), by decide, ⟨_, rfl, rfl⟩⟩
abbrev mX12_does : MD := (yX12_does, cX12_does, 5, none)
theorem iX12_does : Mi mX12_does 12 2 := ⟨gt7 (i := 148) (by decide +kernel) rfl, gp6 (x := 47) (i := 13) (by decide +kernel), gt1 (i := 9) (by decide +kernel) rfl, gt7 (i := 149) (by decide +kernel) rfl, ⟨by decide, by decide⟩, (by decide +kernel), by decide, ⟨_, rfl, rfl⟩⟩
abbrev mX12_doesNext : MD := (yX12_doesNext, cX12_doesNext, 7, none)
theorem iX12_doesNext : Mi mX12_doesNext 12 1 := ⟨gt8 (i := 11) (by decide +kernel) rfl, gp7 (x := 47) (i := 13) (by decide +kernel), gt1 (i := 9) (by decide +kernel) rfl, gt8 (i := 12) (by decide +kernel) rfl, ⟨by decide, by decide⟩, (by decide +kernel), by decide, ⟨_, rfl, rfl⟩⟩
abbrev mX12_downs : MD := (yX12_downs, cX12_downs, 5, some .int)
theorem iX12_downs : Mi mX12_downs 12 3 := ⟨gt7 (i := 231) (by decide +kernel) rfl, gt7 (i := 232) (by decide +kernel) rfl, gt1 (i := 9) (by decide +kernel) rfl, gt7 (i := 233) (by decide +kernel) rfl, ⟨by decide, by decide⟩, (by decide +kernel), by decide, ⟨_, rfl, rfl⟩⟩
abbrev mX12_drawn : MD := (yX12_drawn, cX12_drawn, 9, some .int)
theorem iX12_drawn : Mi mX12_drawn 12 3 := ⟨gt8 (i := 115) (by decide +kernel) rfl, gt8 (i := 116) (by decide +kernel) rfl, gt1 (i := 9) (by decide +kernel) rfl, gt8 (i := 117) (by decide +kernel) rfl, ⟨by decide, by decide⟩, (by decide +kernel), by decide, ⟨_, rfl, rfl⟩⟩
abbrev mX12_end : MD := (yX12_end, cX12_end, 2, some .int)
theorem iX12_end : Mi mX12_end 12 1 := ⟨gt6 (i := 133) (by decide +kernel) rfl, gt6 (i := 134) (by decide +kernel) rfl, gt1 (i := 9) (by decide +kernel) rfl, gt6 (i := 135) (by decide +kernel) rfl, ⟨by decide, by decide⟩, (by decide +kernel), by decide, ⟨_, rfl, rfl⟩⟩
abbrev mX12_endOf : MD := (yX12_endOf, cX12_endOf, 3, some .int)
theorem iX12_endOf : Mi mX12_endOf 12 2 := ⟨gt7 (i := 127) (by decide +kernel) rfl, gp6 (x := 47) (i := 9) (by decide +kernel), gt1 (i := 9) (by decide +kernel) rfl, gt7 (i := 128) (by decide +kernel) rfl, ⟨by decide, by decide⟩, (by decide +kernel), by decide, ⟨_, rfl, rfl⟩⟩
abbrev mX12_errand : MD := (yX12_errand, cX12_errand, 6, some .int)
theorem iX12_errand : Mi mX12_errand 12 4 := ⟨gt8 (i := 0) (by decide +kernel) rfl, gt8 (i := 1) (by decide +kernel) rfl, gt1 (i := 9) (by decide +kernel) rfl, gt8 (i := 2) (by decide +kernel) rfl, ⟨by decide, by decide⟩, (by decide +kernel), by decide, ⟨_, rfl, rfl⟩⟩
abbrev mX12_errandOf : MD := (yX12_errandOf, cX12_errandOf, 3, some .int)
theorem iX12_errandOf : Mi mX12_errandOf 12 2 := ⟨gt8 (i := 18) (by decide +kernel) rfl, gp7 (x := 47) (i := 14) (by decide +kernel), gt1 (i := 9) (by decide +kernel) rfl, gt8 (i := 19) (by decide +kernel) rfl, ⟨by decide, by decide⟩, (by decide +kernel), by decide, ⟨_, rfl, rfl⟩⟩
abbrev mX12_fact : MD := (yX12_fact, cX12_fact, 3, some .boolean)
theorem iX12_fact : Mi mX12_fact 12 0 := ⟨gt6 (i := 231) (by decide +kernel) rfl, gp5 (x := 47) (i := 0) (by decide +kernel), gt1 (i := 9) (by decide +kernel) rfl, gt6 (i := 232) (by decide +kernel) rfl, ⟨by decide, by decide⟩, (by decide +kernel), by decide, ⟨_, rfl, rfl⟩⟩
abbrev mX12_fails : MD := (yX12_fails, cX12_fails, 3, some .boolean)
theorem iX12_fails : Mi mX12_fails 12 2 := ⟨gt6 (i := 175) (by decide +kernel) rfl, gp4 (x := 47) (i := 3) (by decide +kernel), gt1 (i := 9) (by decide +kernel) rfl, gt6 (i := 176) (by decide +kernel) rfl, ⟨by decide, by decide⟩, (by decide +kernel), by decide, ⟨_, rfl, rfl⟩⟩
abbrev mX12_feed : MD := (yX12_feed, cX12_feed, 6, some .int)
theorem iX12_feed : Mi mX12_feed 12 5 := ⟨gt6 (i := 125) (by decide +kernel) rfl, gt6 (i := 126) (by decide +kernel) rfl, gt1 (i := 9) (by decide +kernel) rfl, gt6 (i := 127) (by decide +kernel) rfl, ⟨by decide, by decide⟩, (by decide +kernel), by decide, ⟨_, rfl, rfl⟩⟩
abbrev mX12_four : MD := (yX12_four, cX12_four, 3, none)
theorem iX12_four : Mi mX12_four 12 1 := ⟨gt6 (i := 130) (by decide +kernel) rfl, gp3 (x := 47) (i := 12) (by decide +kernel), gt1 (i := 9) (by decide +kernel) rfl, gt6 (i := 131) (by decide +kernel) rfl, ⟨by decide, by decide⟩, (by decide +kernel), by decide, ⟨_, rfl, rfl⟩⟩
abbrev mX12_go : MD := (yX12_go, cX12_go, 3, some .boolean)
theorem iX12_go : Mi mX12_go 12 2 := ⟨gt7 (i := 106) (by decide +kernel) rfl, gt7 (i := 107) (by decide +kernel) rfl, gt1 (i := 9) (by decide +kernel) rfl, gt7 (i := 108) (by decide +kernel) rfl, ⟨by decide, by decide⟩, (by decide +kernel), by decide, ⟨_, rfl, rfl⟩⟩
abbrev mX12_goDown : MD := (yX12_goDown, cX12_goDown, 7, some .int)
theorem iX12_goDown : Mi mX12_goDown 12 1 := ⟨gt8 (i := 92) (by decide +kernel) rfl, gp8 (x := 47) (i := 8) (by decide +kernel), gt1 (i := 9) (by decide +kernel) rfl, gt8 (i := 93) (by decide +kernel) rfl, ⟨by decide, by decide⟩, (by decide +kernel), by decide, ⟨_, rfl, rfl⟩⟩
abbrev mX12_goesTrip : MD := (yX12_goesTrip, cX12_goesTrip, 2, some .int)
theorem iX12_goesTrip : Mi mX12_goesTrip 12 1 := ⟨gt8 (i := 50) (by decide +kernel) rfl, gp8 (x := 47) (i := 3) (by decide +kernel), gt1 (i := 9) (by decide +kernel) rfl, gt8 (i := 51) (by decide +kernel) rfl, ⟨by decide, by decide⟩, (by decide +kernel), by decide, ⟨_, rfl, rfl⟩⟩
abbrev mX12_haveRidden : MD := (yX12_haveRidden, cX12_haveRidden, 3, some .int)
theorem iX12_haveRidden : Mi mX12_haveRidden 12 0 := ⟨gt7 (i := 190) (by decide +kernel) rfl, gp7 (x := 47) (i := 5) (by decide +kernel), gt1 (i := 9) (by decide +kernel) rfl, gt7 (i := 191) (by decide +kernel) rfl, ⟨by decide, by decide⟩, (by decide +kernel), by decide, ⟨_, rfl, rfl⟩⟩
abbrev mX12_house : MD := (yX12_house, cX12_house, 2, some .int)
theorem iX12_house : Mi mX12_house 12 0 := ⟨gt7 (i := 51) (by decide +kernel) rfl, gt7 (i := 52) (by decide +kernel) rfl, gt1 (i := 9) (by decide +kernel) rfl, gt7 (i := 53) (by decide +kernel) rfl, ⟨by decide, by decide⟩, (by decide +kernel), by decide, ⟨_, rfl, rfl⟩⟩
abbrev mX12_houseLineHere : MD := (yX12_houseLineHere, cX12_houseLineHere, 2, some .boolean)
theorem iX12_houseLineHere : Mi mX12_houseLineHere 12 1 := ⟨gt6 (i := 179) (by decide +kernel) rfl, gp4 (x := 47) (i := 4) (by decide +kernel), gt1 (i := 9) (by decide +kernel) rfl, gt6 (i := 180) (by decide +kernel) rfl, ⟨by decide, by decide⟩, (by decide +kernel), by decide, ⟨_, rfl, rfl⟩⟩
abbrev mX12_image : MD := (yX12_image, cX12_image, 3, some .int)
theorem iX12_image : Mi mX12_image 12 1 := ⟨gt8 (i := 127) (by decide +kernel) rfl, gt8 (i := 128) (by decide +kernel) rfl, gt1 (i := 9) (by decide +kernel) rfl, gt8 (i := 129) (by decide +kernel) rfl, ⟨by decide, by decide⟩, (by decide +kernel), by decide, ⟨_, rfl, rfl⟩⟩
abbrev mX12_in : MD := (yX12_in, cX12_in, 6, some .boolean)
theorem iX12_in : Ms mX12_in 3 := ⟨gt6 (i := 198) (by decide +kernel) rfl, gt1 (i := 9) (by decide +kernel) rfl, gt6 (i := 199) (by decide +kernel) rfl, ⟨by decide, by decide⟩, (by decide +kernel), by decide⟩
abbrev mX12_inRoom : MD := (yX12_inRoom, cX12_inRoom, 4, some .int)
theorem iX12_inRoom : Mi mX12_inRoom 12 1 := ⟨gt7 (i := 69) (by decide +kernel) rfl, gp5 (x := 47) (i := 14) (by decide +kernel), gt1 (i := 9) (by decide +kernel) rfl, gt7 (i := 70) (by decide +kernel) rfl, ⟨by decide, by decide⟩, (by decide +kernel), by decide, ⟨_, rfl, rfl⟩⟩
abbrev mX12_init : MD := (yX12_init, cX12_init, 1, none)
abbrev mX12_isDigit : MD := (yX12_isDigit, cX12_isDigit, 2, some .boolean)
theorem iX12_isDigit : Mi mX12_isDigit 12 1 := ⟨gt6 (i := 195) (by decide +kernel) rfl, gp4 (x := 47) (i := 8) (by decide +kernel), gt1 (i := 9) (by decide +kernel) rfl, gt6 (i := 196) (by decide +kernel) rfl, ⟨by decide, by decide⟩, (by decide +kernel), by decide, ⟨_, rfl, rfl⟩⟩
abbrev mX12_isDoingHere : MD := (yX12_isDoingHere, cX12_isDoingHere, 3, some .boolean)
theorem iX12_isDoingHere : Mi mX12_isDoingHere 12 1 := ⟨gt6 (i := 218) (by decide +kernel) rfl, gp4 (x := 47) (i := 13) (by decide +kernel), gt1 (i := 9) (by decide +kernel) rfl, gt6 (i := 219) (by decide +kernel) rfl, ⟨by decide, by decide⟩, (by decide +kernel), by decide, ⟨_, rfl, rfl⟩⟩
abbrev mX12_isDoorHere : MD := (yX12_isDoorHere, cX12_isDoorHere, 3, some .boolean)
theorem iX12_isDoorHere : Mi mX12_isDoorHere 12 0 := ⟨gt6 (i := 206) (by decide +kernel) rfl, gp4 (x := 47) (i := 10) (by decide +kernel), gt1 (i := 9) (by decide +kernel) rfl, gt6 (i := 207) (by decide +kernel) rfl, ⟨by decide, by decide⟩, (by decide +kernel), by decide, ⟨_, rfl, rfl⟩⟩
abbrev mX12_isHoistHere : MD := (yX12_isHoistHere, cX12_isHoistHere, 3, some .boolean)
theorem iX12_isHoistHere : Mi mX12_isHoistHere 12 1 := ⟨gt6 (i := 210) (by decide +kernel) rfl, gp4 (x := 47) (i := 11) (by decide +kernel), gt1 (i := 9) (by decide +kernel) rfl, gt6 (i := 211) (by decide +kernel) rfl, ⟨by decide, by decide⟩, (by decide +kernel), by decide, ⟨_, rfl, rfl⟩⟩
abbrev mX12_isHouseWord : MD := (yX12_isHouseWord, cX12_isHouseWord, 1, some .boolean)
theorem iX12_isHouseWord : Mi mX12_isHouseWord 12 0 := ⟨gt6 (i := 154) (by decide +kernel) rfl, gp4 (x := 47) (i := 0) (by decide +kernel), gt1 (i := 9) (by decide +kernel) rfl, gt6 (i := 155) (by decide +kernel) rfl, ⟨by decide, by decide⟩, (by decide +kernel), by decide, ⟨_, rfl, rfl⟩⟩
abbrev mX12_isInside : MD := (yX12_isInside, cX12_isInside, 2, some .boolean)
theorem iX12_isInside : Mi mX12_isInside 12 0 := ⟨gt7 (i := 46) (by decide +kernel) rfl, gp5 (x := 47) (i := 11) (by decide +kernel), gt1 (i := 9) (by decide +kernel) rfl, gt7 (i := 47) (by decide +kernel) rfl, ⟨by decide, by decide⟩, (by decide +kernel), by decide, ⟨_, rfl, rfl⟩⟩
abbrev mX12_isLetter : MD := (yX12_isLetter, cX12_isLetter, 2, some .boolean)
theorem iX12_isLetter : Mi mX12_isLetter 12 1 := ⟨gt6 (i := 163) (by decide +kernel) rfl, gp4 (x := 47) (i := 2) (by decide +kernel), gt1 (i := 9) (by decide +kernel) rfl, gt6 (i := 164) (by decide +kernel) rfl, ⟨by decide, by decide⟩, (by decide +kernel), by decide, ⟨_, rfl, rfl⟩⟩
abbrev mX12_isMinute : MD := (yX12_isMinute, cX12_isMinute, 1, some .boolean)
theorem iX12_isMinute : Ms mX12_isMinute 1 := ⟨gt7 (i := 201) (by decide +kernel) rfl, gt1 (i := 9) (by decide +kernel) rfl, gt7 (i := 202) (by decide +kernel) rfl, ⟨by decide, by decide⟩, (by decide +kernel), by decide⟩
abbrev mX12_isOf : MD := (yX12_isOf, cX12_isOf, 2, some .boolean)
theorem iX12_isOf : Ms mX12_isOf 2 := ⟨gt8 (i := 14) (by decide +kernel) rfl, gt1 (i := 9) (by decide +kernel) rfl, gt8 (i := 15) (by decide +kernel) rfl, ⟨by decide, by decide⟩, (by decide +kernel), by decide⟩
abbrev mX12_isOpen : MD := (yX12_isOpen, cX12_isOpen, 3, some .boolean)
theorem iX12_isOpen : Mi mX12_isOpen 12 2 := ⟨gt7 (i := 131) (by decide +kernel) rfl, gp6 (x := 47) (i := 10) (by decide +kernel), gt1 (i := 9) (by decide +kernel) rfl, gt7 (i := 132) (by decide +kernel) rfl, ⟨by decide, by decide⟩, (by decide +kernel), by decide, ⟨_, rfl, rfl⟩⟩
abbrev mX12_isOrder : MD := (yX12_isOrder, cX12_isOrder, 6, some .boolean)
theorem iX12_isOrder : Mi mX12_isOrder 12 2 := ⟨gt8 (i := 88) (by decide +kernel) rfl, gp8 (x := 47) (i := 7) (by decide +kernel), gt1 (i := 9) (by decide +kernel) rfl, gt8 (i := 89) (by decide +kernel) rfl, ⟨by decide, by decide⟩, (by decide +kernel), by decide, ⟨_, rfl, rfl⟩⟩
abbrev mX12_isPerson : MD := (yX12_isPerson, cX12_isPerson, 2, some .boolean)
theorem iX12_isPerson : Mi mX12_isPerson 12 1 := ⟨gt7 (i := 98) (by decide +kernel) rfl, gp6 (x := 47) (i := 3) (by decide +kernel), gt1 (i := 9) (by decide +kernel) rfl, gt7 (i := 99) (by decide +kernel) rfl, ⟨by decide, by decide⟩, (by decide +kernel), by decide, ⟨_, rfl, rfl⟩⟩
abbrev mX12_isPersonHere : MD := (yX12_isPersonHere, cX12_isPersonHere, 2, some .boolean)
theorem iX12_isPersonHere : Mi mX12_isPersonHere 12 1 := ⟨gt6 (i := 214) (by decide +kernel) rfl, gp4 (x := 47) (i := 12) (by decide +kernel), gt1 (i := 9) (by decide +kernel) rfl, gt6 (i := 215) (by decide +kernel) rfl, ⟨by decide, by decide⟩, (by decide +kernel), by decide, ⟨_, rfl, rfl⟩⟩
abbrev mX12_isRoom : MD := (yX12_isRoom, cX12_isRoom, 2, some .boolean)
theorem iX12_isRoom : Mi mX12_isRoom 12 1 := ⟨gt7 (i := 64) (by decide +kernel) rfl, gp5 (x := 47) (i := 13) (by decide +kernel), gt1 (i := 9) (by decide +kernel) rfl, gt7 (i := 65) (by decide +kernel) rfl, ⟨by decide, by decide⟩, (by decide +kernel), by decide, ⟨_, rfl, rfl⟩⟩
abbrev mX12_isRoomHere : MD := (yX12_isRoomHere, cX12_isRoomHere, 2, some .boolean)
theorem iX12_isRoomHere : Mi mX12_isRoomHere 12 1 := ⟨gt6 (i := 183) (by decide +kernel) rfl, gp4 (x := 47) (i := 5) (by decide +kernel), gt1 (i := 9) (by decide +kernel) rfl, gt6 (i := 184) (by decide +kernel) rfl, ⟨by decide, by decide⟩, (by decide +kernel), by decide, ⟨_, rfl, rfl⟩⟩
abbrev mX12_isRule : MD := (yX12_isRule, cX12_isRule, 2, some .boolean)
theorem iX12_isRule : Mi mX12_isRule 12 1 := ⟨gt7 (i := 139) (by decide +kernel) rfl, gp6 (x := 47) (i := 11) (by decide +kernel), gt1 (i := 9) (by decide +kernel) rfl, gt7 (i := 140) (by decide +kernel) rfl, ⟨by decide, by decide⟩, (by decide +kernel), by decide, ⟨_, rfl, rfl⟩⟩
abbrev mX12_isWay : MD := (yX12_isWay, cX12_isWay, 2, some .boolean)
theorem iX12_isWay : Mi mX12_isWay 12 1 := ⟨gt7 (i := 85) (by decide +kernel) rfl, gp6 (x := 47) (i := 1) (by decide +kernel), gt1 (i := 9) (by decide +kernel) rfl, gt7 (i := 86) (by decide +kernel) rfl, ⟨by decide, by decide⟩, (by decide +kernel), by decide, ⟨_, rfl, rfl⟩⟩
abbrev mX12_isWayHere : MD := (yX12_isWayHere, cX12_isWayHere, 6, some .boolean)
theorem iX12_isWayHere : Mi mX12_isWayHere 12 2 := ⟨gt6 (i := 202) (by decide +kernel) rfl, gp4 (x := 47) (i := 9) (by decide +kernel), gt1 (i := 9) (by decide +kernel) rfl, gt6 (i := 203) (by decide +kernel) rfl, ⟨by decide, by decide⟩, (by decide +kernel), by decide, ⟨_, rfl, rfl⟩⟩
abbrev mX12_isWord : MD := (yX12_isWord, cX12_isWord, 6, some .boolean)
theorem iX12_isWord : Mi mX12_isWord 12 1 := ⟨gt6 (i := 159) (by decide +kernel) rfl, gp4 (x := 47) (i := 1) (by decide +kernel), gt1 (i := 9) (by decide +kernel) rfl, gt6 (i := 160) (by decide +kernel) rfl, ⟨by decide, by decide⟩, (by decide +kernel), by decide, ⟨_, rfl, rfl⟩⟩
abbrev mX12_keeps : MD := (yX12_keeps, cX12_keeps, 2, none)
theorem iX12_keeps : Mi mX12_keeps 12 0 := ⟨gt7 (i := 178) (by decide +kernel) rfl, gp7 (x := 47) (i := 2) (by decide +kernel), gt1 (i := 9) (by decide +kernel) rfl, gt7 (i := 179) (by decide +kernel) rfl, ⟨by decide, by decide⟩, (by decide +kernel), by decide, ⟨_, rfl, rfl⟩⟩
abbrev mX12_later : MD := (yX12_later, cX12_later, 2, some .int)
theorem iX12_later : Ms mX12_later 2 := ⟨gt7 (i := 216) (by decide +kernel) rfl, gt1 (i := 9) (by decide +kernel) rfl, gt7 (i := 217) (by decide +kernel) rfl, ⟨by decide, by decide⟩, (by decide +kernel), by decide⟩
abbrev mX12_makes : MD := (yX12_makes, cX12_makes, 2, some .boolean)
theorem iX12_makes : Mi mX12_makes 12 1 := ⟨gt7 (i := 17) (by decide +kernel) rfl, gp5 (x := 47) (i := 6) (by decide +kernel), gt1 (i := 9) (by decide +kernel) rfl, gt7 (i := 18) (by decide +kernel) rfl, ⟨by decide, by decide⟩, (by decide +kernel), by decide, ⟨_, rfl, rfl⟩⟩
abbrev mX12_meeting : MD := (yX12_meeting, cX12_meeting, 10, some .int)
theorem iX12_meeting : Mi mX12_meeting 12 6 := ⟨gt8 (i := 29) (by decide +kernel) rfl, gt8 (i := 30) (by decide +kernel) rfl, gt1 (i := 9) (by decide +kernel) rfl, gt8 (i := 31) (by decide +kernel) rfl, ⟨by decide, by decide⟩, (by decide +kernel), by decide, ⟨_, rfl, rfl⟩⟩
abbrev mX12_minute : MD := (yX12_minute, cX12_minute, 4, none)
theorem iX12_minute : Mi mX12_minute 12 1 := ⟨gt7 (i := 144) (by decide +kernel) rfl, gp6 (x := 47) (i := 12) (by decide +kernel), gt1 (i := 9) (by decide +kernel) rfl, gt7 (i := 145) (by decide +kernel) rfl, ⟨by decide, by decide⟩, (by decide +kernel), by decide, ⟨_, rfl, rfl⟩⟩
abbrev mX12_nearest : MD := (yX12_nearest, cX12_nearest, 3, some .int)
theorem iX12_nearest : Mi mX12_nearest 12 0 := ⟨gt7 (i := 209) (by decide +kernel) rfl, gp7 (x := 47) (i := 8) (by decide +kernel), gt1 (i := 9) (by decide +kernel) rfl, gt7 (i := 210) (by decide +kernel) rfl, ⟨by decide, by decide⟩, (by decide +kernel), by decide, ⟨_, rfl, rfl⟩⟩
abbrev mX12_nextRider : MD := (yX12_nextRider, cX12_nextRider, 3, some .int)
theorem iX12_nextRider : Mi mX12_nextRider 12 0 := ⟨gt8 (i := 71) (by decide +kernel) rfl, gp8 (x := 47) (i := 5) (by decide +kernel), gt1 (i := 9) (by decide +kernel) rfl, gt8 (i := 72) (by decide +kernel) rfl, ⟨by decide, by decide⟩, (by decide +kernel), by decide, ⟨_, rfl, rfl⟩⟩
abbrev mX12_numberHere : MD := (yX12_numberHere, cX12_numberHere, 5, some .boolean)
theorem iX12_numberHere : Mi mX12_numberHere 12 2 := ⟨gt6 (i := 191) (by decide +kernel) rfl, gp4 (x := 47) (i := 7) (by decide +kernel), gt1 (i := 9) (by decide +kernel) rfl, gt6 (i := 192) (by decide +kernel) rfl, ⟨by decide, by decide⟩, (by decide +kernel), by decide, ⟨_, rfl, rfl⟩⟩
abbrev mX12_onTheWay : MD := (yX12_onTheWay, cX12_onTheWay, 3, some .int)
theorem iX12_onTheWay : Mi mX12_onTheWay 12 0 := ⟨gt7 (i := 186) (by decide +kernel) rfl, gp7 (x := 47) (i := 4) (by decide +kernel), gt1 (i := 9) (by decide +kernel) rfl, gt7 (i := 187) (by decide +kernel) rfl, ⟨by decide, by decide⟩, (by decide +kernel), by decide, ⟨_, rfl, rfl⟩⟩
abbrev mX12_one : MD := (yX12_one, cX12_one, 5, some .long)
theorem iX12_one : Ms mX12_one 3 := ⟨gt7 (i := 170) (by decide +kernel) rfl, gt1 (i := 9) (by decide +kernel) rfl, gt7 (i := 171) (by decide +kernel) rfl, ⟨by decide, by decide⟩, (by decide +kernel), by decide⟩
abbrev mX12_opens : MD := (yX12_opens, cX12_opens, 2, some .boolean)
theorem iX12_opens : Mi mX12_opens 12 1 := ⟨gt6 (i := 236) (by decide +kernel) rfl, gp5 (x := 47) (i := 1) (by decide +kernel), gt1 (i := 9) (by decide +kernel) rfl, gt6 (i := 237) (by decide +kernel) rfl, ⟨by decide, by decide⟩, (by decide +kernel), by decide, ⟨_, rfl, rfl⟩⟩
abbrev mX12_opens_ : MD := (yX12_opens_, cX12_opens_, 4, some .int)
theorem iX12_opens_ : Mi mX12_opens_ 12 2 := ⟨gt7 (i := 213) (by decide +kernel) rfl, gp7 (x := 47) (i := 9) (by decide +kernel), gt1 (i := 9) (by decide +kernel) rfl, gt7 (i := 214) (by decide +kernel) rfl, ⟨by decide, by decide⟩, (by decide +kernel), by decide, ⟨_, rfl, rfl⟩⟩
abbrev mX12_order : MD := (yX12_order, cX12_order, 8, some .int)
theorem iX12_order : Mi mX12_order 12 2 := ⟨gt8 (i := 82) (by decide +kernel) rfl, gt8 (i := 83) (by decide +kernel) rfl, gt1 (i := 9) (by decide +kernel) rfl, gt8 (i := 84) (by decide +kernel) rfl, ⟨by decide, by decide⟩, (by decide +kernel), by decide, ⟨_, rfl, rfl⟩⟩
abbrev mX12_passWord : MD := (yX12_passWord, cX12_passWord, 1, none)
theorem iX12_passWord : Mi mX12_passWord 12 0 := ⟨gt6 (i := 187) (by decide +kernel) rfl, gp4 (x := 47) (i := 6) (by decide +kernel), gt1 (i := 9) (by decide +kernel) rfl, gt6 (i := 188) (by decide +kernel) rfl, ⟨by decide, by decide⟩, (by decide +kernel), by decide, ⟨_, rfl, rfl⟩⟩
abbrev mX12_person : MD := (yX12_person, cX12_person, 3, some .int)
theorem iX12_person : Mi mX12_person 12 2 := ⟨gt7 (i := 93) (by decide +kernel) rfl, gt7 (i := 94) (by decide +kernel) rfl, gt1 (i := 9) (by decide +kernel) rfl, gt7 (i := 95) (by decide +kernel) rfl, ⟨by decide, by decide⟩, (by decide +kernel), by decide, ⟨_, rfl, rfl⟩⟩
abbrev mX12_personOf : MD := (yX12_personOf, cX12_personOf, 3, some .int)
theorem iX12_personOf : Mi mX12_personOf 12 2 := ⟨gt7 (i := 73) (by decide +kernel) rfl, gp5 (x := 47) (i := 15) (by decide +kernel), gt1 (i := 9) (by decide +kernel) rfl, gt7 (i := 74) (by decide +kernel) rfl, ⟨by decide, by decide⟩, (by decide +kernel), by decide, ⟨_, rfl, rfl⟩⟩
abbrev mX12_pop : MD := (yX12_pop, cX12_pop, 1, some .long)
theorem iX12_pop : Mi mX12_pop 12 0 := ⟨gt7 (i := 167) (by decide +kernel) rfl, gp7 (x := 47) (i := 1) (by decide +kernel), gt1 (i := 9) (by decide +kernel) rfl, gt7 (i := 168) (by decide +kernel) rfl, ⟨by decide, by decide⟩, (by decide +kernel), by decide, ⟨_, rfl, rfl⟩⟩
abbrev mX12_push : MD := (yX12_push, cX12_push, 3, none)
theorem iX12_push : Mi mX12_push 12 1 := ⟨gt7 (i := 163) (by decide +kernel) rfl, gp7 (x := 47) (i := 0) (by decide +kernel), gt1 (i := 9) (by decide +kernel) rfl, gt7 (i := 164) (by decide +kernel) rfl, ⟨by decide, by decide⟩, (by decide +kernel), by decide, ⟨_, rfl, rfl⟩⟩
abbrev mX12_puts : MD := (yX12_puts, cX12_puts, 3, none)
theorem iX12_puts : Mi mX12_puts 12 2 := ⟨gt7 (i := 21) (by decide +kernel) rfl, gp5 (x := 47) (i := 7) (by decide +kernel), gt1 (i := 9) (by decide +kernel) rfl, gt7 (i := 22) (by decide +kernel) rfl, ⟨by decide, by decide⟩, (by decide +kernel), by decide, ⟨_, rfl, rfl⟩⟩
abbrev mX12_putsBack : MD := (yX12_putsBack, cX12_putsBack, 2, none)
theorem iX12_putsBack : Mi mX12_putsBack 12 0 := ⟨gt7 (i := 194) (by decide +kernel) rfl, gp7 (x := 47) (i := 6) (by decide +kernel), gt1 (i := 9) (by decide +kernel) rfl, gt7 (i := 195) (by decide +kernel) rfl, ⟨by decide, by decide⟩, (by decide +kernel), by decide, ⟨_, rfl, rfl⟩⟩
abbrev mX12_readsAll : MD := (yX12_readsAll, cX12_readsAll, 2, some .boolean)
theorem iX12_readsAll : Mi mX12_readsAll 12 0 := ⟨gt6 (i := 142) (by decide +kernel) rfl, gp3 (x := 47) (i := 13) (by decide +kernel), gt1 (i := 9) (by decide +kernel) rfl, gt6 (i := 143) (by decide +kernel) rfl, ⟨by decide, by decide⟩, (by decide +kernel), by decide, ⟨_, rfl, rfl⟩⟩
abbrev mX12_reckons : MD := (yX12_reckons, cX12_reckons, 11, some .long)
theorem iX12_reckons : Mi mX12_reckons 12 3 := ⟨gt7 (i := 159) (by decide +kernel) rfl, gp6 (x := 47) (i := 15) (by decide +kernel), gt1 (i := 9) (by decide +kernel) rfl, gt7 (i := 160) (by decide +kernel) rfl, ⟨by decide, by decide⟩, (by decide +kernel), by decide, ⟨_, rfl, rfl⟩⟩
abbrev mX12_ridden : MD := (yX12_ridden, cX12_ridden, 2, some .boolean)
theorem iX12_ridden : Mi mX12_ridden 12 1 := ⟨gt7 (i := 103) (by decide +kernel) rfl, gp6 (x := 47) (i := 4) (by decide +kernel), gt1 (i := 9) (by decide +kernel) rfl, gt7 (i := 104) (by decide +kernel) rfl, ⟨by decide, by decide⟩, (by decide +kernel), by decide, ⟨_, rfl, rfl⟩⟩
abbrev mX12_rider : MD := (yX12_rider, cX12_rider, 2, some .int)
theorem iX12_rider : Mi mX12_rider 12 1 := ⟨gt8 (i := 61) (by decide +kernel) rfl, gt8 (i := 62) (by decide +kernel) rfl, gt1 (i := 9) (by decide +kernel) rfl, gt8 (i := 63) (by decide +kernel) rfl, ⟨by decide, by decide⟩, (by decide +kernel), by decide, ⟨_, rfl, rfl⟩⟩
abbrev mX12_rides : MD := (yX12_rides, cX12_rides, 6, some .int)
theorem iX12_rides : Mi mX12_rides 12 1 := ⟨gt8 (i := 65) (by decide +kernel) rfl, gt8 (i := 66) (by decide +kernel) rfl, gt1 (i := 9) (by decide +kernel) rfl, gt8 (i := 67) (by decide +kernel) rfl, ⟨by decide, by decide⟩, (by decide +kernel), by decide, ⟨_, rfl, rfl⟩⟩
abbrev mX12_ridesIn : MD := (yX12_ridesIn, cX12_ridesIn, 4, some .int)
theorem iX12_ridesIn : Mi mX12_ridesIn 12 1 := ⟨gt8 (i := 75) (by decide +kernel) rfl, gp8 (x := 47) (i := 6) (by decide +kernel), gt1 (i := 9) (by decide +kernel) rfl, gt8 (i := 76) (by decide +kernel) rfl, ⟨by decide, by decide⟩, (by decide +kernel), by decide, ⟨_, rfl, rfl⟩⟩
abbrev mX12_ridesUp : MD := (yX12_ridesUp, cX12_ridesUp, 2, some .boolean)
theorem iX12_ridesUp : Mi mX12_ridesUp 12 1 := ⟨gt7 (i := 111) (by decide +kernel) rfl, gp6 (x := 47) (i := 5) (by decide +kernel), gt1 (i := 9) (by decide +kernel) rfl, gt7 (i := 112) (by decide +kernel) rfl, ⟨by decide, by decide⟩, (by decide +kernel), by decide, ⟨_, rfl, rfl⟩⟩
abbrev mX12_riding : MD := (yX12_riding, cX12_riding, 3, some .int)
theorem iX12_riding : Mi mX12_riding 12 0 := ⟨gt7 (i := 115) (by decide +kernel) rfl, gp6 (x := 47) (i := 6) (by decide +kernel), gt1 (i := 9) (by decide +kernel) rfl, gt7 (i := 116) (by decide +kernel) rfl, ⟨by decide, by decide⟩, (by decide +kernel), by decide, ⟨_, rfl, rfl⟩⟩
abbrev mX12_room : MD := (yX12_room, cX12_room, 3, some .int)
theorem iX12_room : Mi mX12_room 12 2 := ⟨gt7 (i := 59) (by decide +kernel) rfl, gt7 (i := 60) (by decide +kernel) rfl, gt1 (i := 9) (by decide +kernel) rfl, gt7 (i := 61) (by decide +kernel) rfl, ⟨by decide, by decide⟩, (by decide +kernel), by decide, ⟨_, rfl, rfl⟩⟩
abbrev mX12_rule : MD := (yX12_rule, cX12_rule, 1, some .int)
theorem iX12_rule : Mi mX12_rule 12 0 := ⟨gt6 (i := 137) (by decide +kernel) rfl, gt6 (i := 138) (by decide +kernel) rfl, gt1 (i := 9) (by decide +kernel) rfl, gt6 (i := 139) (by decide +kernel) rfl, ⟨by decide, by decide⟩, (by decide +kernel), by decide, ⟨_, rfl, rfl⟩⟩
abbrev mX12_see : MD := (yX12_see, cX12_see, 1, some .int)
theorem iX12_see : Mi mX12_see 12 0 := ⟨gt6 (i := 150) (by decide +kernel) rfl, gp3 (x := 47) (i := 15) (by decide +kernel), gt1 (i := 9) (by decide +kernel) rfl, gt6 (i := 151) (by decide +kernel) rfl, ⟨by decide, by decide⟩, (by decide +kernel), by decide, ⟨_, rfl, rfl⟩⟩
abbrev mX12_seed : MD := (yX12_seed, cX12_seed, 3, some .int)
theorem iX12_seed : Mi mX12_seed 12 1 := ⟨gt8 (i := 111) (by decide +kernel) rfl, gt8 (i := 112) (by decide +kernel) rfl, gt1 (i := 9) (by decide +kernel) rfl, gt8 (i := 113) (by decide +kernel) rfl, ⟨by decide, by decide⟩, (by decide +kernel), by decide, ⟨_, rfl, rfl⟩⟩
abbrev mX12_setsOff : MD := (yX12_setsOff, cX12_setsOff, 5, none)
theorem iX12_setsOff : Mi mX12_setsOff 12 3 := ⟨gt7 (i := 119) (by decide +kernel) rfl, gp6 (x := 47) (i := 7) (by decide +kernel), gt1 (i := 9) (by decide +kernel) rfl, gt7 (i := 120) (by decide +kernel) rfl, ⟨by decide, by decide⟩, (by decide +kernel), by decide, ⟨_, rfl, rfl⟩⟩
abbrev mX12_settles : MD := (yX12_settles, cX12_settles, 2, none)
theorem iX12_settles : Mi mX12_settles 12 1 := ⟨gt7 (i := 39) (by decide +kernel) rfl, gp5 (x := 47) (i := 10) (by decide +kernel), gt1 (i := 9) (by decide +kernel) rfl, gt7 (i := 40) (by decide +kernel) rfl, ⟨by decide, by decide⟩, (by decide +kernel), by decide, ⟨_, rfl, rfl⟩⟩
abbrev mX12_soonest : MD := (yX12_soonest, cX12_soonest, 5, some .int)
theorem iX12_soonest : Mi mX12_soonest 12 4 := ⟨gt7 (i := 197) (by decide +kernel) rfl, gt7 (i := 198) (by decide +kernel) rfl, gt1 (i := 9) (by decide +kernel) rfl, gt7 (i := 199) (by decide +kernel) rfl, ⟨by decide, by decide⟩, (by decide +kernel), by decide, ⟨_, rfl, rfl⟩⟩
abbrev mX12_soonestDone : MD := (yX12_soonestDone, cX12_soonestDone, 4, some .int)
theorem iX12_soonestDone : Mi mX12_soonestDone 12 1 := ⟨gt8 (i := 22) (by decide +kernel) rfl, gp7 (x := 47) (i := 15) (by decide +kernel), gt1 (i := 9) (by decide +kernel) rfl, gt8 (i := 23) (by decide +kernel) rfl, ⟨by decide, by decide⟩, (by decide +kernel), by decide, ⟨_, rfl, rfl⟩⟩
abbrev mX12_soonestTo : MD := (yX12_soonestTo, cX12_soonestTo, 3, some .int)
theorem iX12_soonestTo : Mi mX12_soonestTo 12 1 := ⟨gt7 (i := 224) (by decide +kernel) rfl, gp7 (x := 47) (i := 11) (by decide +kernel), gt1 (i := 9) (by decide +kernel) rfl, gt7 (i := 225) (by decide +kernel) rfl, ⟨by decide, by decide⟩, (by decide +kernel), by decide, ⟨_, rfl, rfl⟩⟩
abbrev mX12_spreads : MD := (yX12_spreads, cX12_spreads, 8, none)
theorem iX12_spreads : Mi mX12_spreads 12 3 := ⟨gt7 (i := 205) (by decide +kernel) rfl, gp7 (x := 47) (i := 7) (by decide +kernel), gt1 (i := 9) (by decide +kernel) rfl, gt7 (i := 206) (by decide +kernel) rfl, ⟨by decide, by decide⟩, (by decide +kernel), by decide, ⟨_, rfl, rfl⟩⟩
abbrev mX12_still : MD := (yX12_still, cX12_still, 6, some .int)
theorem iX12_still : Mi mX12_still 12 3 := ⟨gt7 (i := 227) (by decide +kernel) rfl, gt7 (i := 228) (by decide +kernel) rfl, gt1 (i := 9) (by decide +kernel) rfl, gt7 (i := 229) (by decide +kernel) rfl, ⟨by decide, by decide⟩, (by decide +kernel), by decide, ⟨_, rfl, rfl⟩⟩
abbrev mX12_strength : MD := (yX12_strength, cX12_strength, 1, some .int)
theorem iX12_strength : Ms mX12_strength 1 := ⟨gt7 (i := 42) (by decide +kernel) rfl, gt1 (i := 9) (by decide +kernel) rfl, gt7 (i := 43) (by decide +kernel) rfl, ⟨by decide, by decide⟩, (by decide +kernel), by decide⟩
abbrev mX12_sum : MD := (yX12_sum, cX12_sum, 2, some .boolean)
theorem iX12_sum : Mi mX12_sum 12 0 := ⟨gt7 (i := 4) (by decide +kernel) rfl, gp5 (x := 47) (i := 3) (by decide +kernel), gt1 (i := 9) (by decide +kernel) rfl, gt7 (i := 5) (by decide +kernel) rfl, ⟨by decide, by decide⟩, (by decide +kernel), by decide, ⟨_, rfl, rfl⟩⟩
abbrev mX12_takes : MD := (yX12_takes, cX12_takes, 3, some .boolean)
theorem iX12_takes : Mi mX12_takes 12 2 := ⟨gt7 (i := 123) (by decide +kernel) rfl, gp6 (x := 47) (i := 8) (by decide +kernel), gt1 (i := 9) (by decide +kernel) rfl, gt7 (i := 124) (by decide +kernel) rfl, ⟨by decide, by decide⟩, (by decide +kernel), by decide, ⟨_, rfl, rfl⟩⟩
abbrev mX12_takesWord : MD := (yX12_takesWord, cX12_takesWord, 3, some .boolean)
theorem iX12_takesWord : Mi mX12_takesWord 12 1 := ⟨gt6 (i := 223) (by decide +kernel) rfl, gp4 (x := 47) (i := 14) (by decide +kernel), gt1 (i := 9) (by decide +kernel) rfl, gt6 (i := 224) (by decide +kernel) rfl, ⟨by decide, by decide⟩, (by decide +kernel), by decide, ⟨_, rfl, rfl⟩⟩
abbrev mX12_term : MD := (yX12_term, cX12_term, 2, some .boolean)
theorem iX12_term : Mi mX12_term 12 0 := ⟨gt7 (i := 8) (by decide +kernel) rfl, gp5 (x := 47) (i := 4) (by decide +kernel), gt1 (i := 9) (by decide +kernel) rfl, gt7 (i := 9) (by decide +kernel) rfl, ⟨by decide, by decide⟩, (by decide +kernel), by decide, ⟨_, rfl, rfl⟩⟩
abbrev mX12_tested : MD := (yX12_tested, cX12_tested, 3, some .boolean)
theorem iX12_tested : Mi mX12_tested 12 0 := ⟨gt6 (i := 227) (by decide +kernel) rfl, gp4 (x := 47) (i := 15) (by decide +kernel), gt1 (i := 9) (by decide +kernel) rfl, gt6 (i := 228) (by decide +kernel) rfl, ⟨by decide, by decide⟩, (by decide +kernel), by decide, ⟨_, rfl, rfl⟩⟩
abbrev mX12_tick : MD := (yX12_tick, cX12_tick, 4, some .int)
theorem iX12_tick : Mi mX12_tick 12 2 := ⟨gt7 (i := 134) (by decide +kernel) rfl, gt7 (i := 135) (by decide +kernel) rfl, gt1 (i := 9) (by decide +kernel) rfl, gt7 (i := 136) (by decide +kernel) rfl, ⟨by decide, by decide⟩, (by decide +kernel), by decide, ⟨_, rfl, rfl⟩⟩
abbrev mX12_topRoom : MD := (yX12_topRoom, cX12_topRoom, 3, some .int)
theorem iX12_topRoom : Mi mX12_topRoom 12 0 := ⟨gt7 (i := 77) (by decide +kernel) rfl, gp6 (x := 47) (i := 0) (by decide +kernel), gt1 (i := 9) (by decide +kernel) rfl, gt7 (i := 78) (by decide +kernel) rfl, ⟨by decide, by decide⟩, (by decide +kernel), by decide, ⟨_, rfl, rfl⟩⟩
abbrev mX12_travels : MD := (yX12_travels, cX12_travels, 8, some .int)
theorem iX12_travels : Mi mX12_travels 12 3 := ⟨gt8 (i := 38) (by decide +kernel) rfl, gp8 (x := 47) (i := 1) (by decide +kernel), gt1 (i := 9) (by decide +kernel) rfl, gt8 (i := 39) (by decide +kernel) rfl, ⟨by decide, by decide⟩, (by decide +kernel), by decide, ⟨_, rfl, rfl⟩⟩
abbrev mX12_trip : MD := (yX12_trip, cX12_trip, 5, some .int)
theorem iX12_trip : Mi mX12_trip 12 3 := ⟨gt8 (i := 33) (by decide +kernel) rfl, gt8 (i := 34) (by decide +kernel) rfl, gt1 (i := 9) (by decide +kernel) rfl, gt8 (i := 35) (by decide +kernel) rfl, ⟨by decide, by decide⟩, (by decide +kernel), by decide, ⟨_, rfl, rfl⟩⟩
abbrev mX12_trips : MD := (yX12_trips, cX12_trips, 4, some .int)
theorem iX12_trips : Mi mX12_trips 12 2 := ⟨gt8 (i := 45) (by decide +kernel) rfl, gt8 (i := 46) (by decide +kernel) rfl, gt1 (i := 9) (by decide +kernel) rfl, gt8 (i := 47) (by decide +kernel) rfl, ⟨by decide, by decide⟩, (by decide +kernel), by decide, ⟨_, rfl, rfl⟩⟩
abbrev mX12_twos : MD := (yX12_twos, cX12_twos, 8, some .int)
theorem iX12_twos : Mi mX12_twos 12 1 := ⟨gt8 (i := 108) (by decide +kernel) rfl, gp8 (x := 47) (i := 10) (by decide +kernel), gt1 (i := 9) (by decide +kernel) rfl, gt8 (i := 109) (by decide +kernel) rfl, ⟨by decide, by decide⟩, (by decide +kernel), by decide, ⟨_, rfl, rfl⟩⟩
abbrev mX12_upward : MD := (yX12_upward, cX12_upward, 6, some .int)
theorem iX12_upward : Mi mX12_upward 12 1 := ⟨gt8 (i := 103) (by decide +kernel) rfl, gt8 (i := 104) (by decide +kernel) rfl, gt1 (i := 9) (by decide +kernel) rfl, gt8 (i := 105) (by decide +kernel) rfl, ⟨by decide, by decide⟩, (by decide +kernel), by decide, ⟨_, rfl, rfl⟩⟩
abbrev mX12_value : MD := (yX12_value, cX12_value, 3, some .boolean)
theorem iX12_value : Mi mX12_value 12 0 := ⟨gt7 (i := 12) (by decide +kernel) rfl, gp5 (x := 47) (i := 5) (by decide +kernel), gt1 (i := 9) (by decide +kernel) rfl, gt7 (i := 13) (by decide +kernel) rfl, ⟨by decide, by decide⟩, (by decide +kernel), by decide, ⟨_, rfl, rfl⟩⟩
abbrev mX12_way : MD := (yX12_way, cX12_way, 3, some .int)
theorem iX12_way : Mi mX12_way 12 2 := ⟨gt7 (i := 80) (by decide +kernel) rfl, gt7 (i := 81) (by decide +kernel) rfl, gt1 (i := 9) (by decide +kernel) rfl, gt7 (i := 82) (by decide +kernel) rfl, ⟨by decide, by decide⟩, (by decide +kernel), by decide, ⟨_, rfl, rfl⟩⟩
abbrev mX12_wayBy : MD := (yX12_wayBy, cX12_wayBy, 8, some .int)
theorem iX12_wayBy : Mi mX12_wayBy 12 4 := ⟨gt8 (i := 42) (by decide +kernel) rfl, gp8 (x := 47) (i := 2) (by decide +kernel), gt1 (i := 9) (by decide +kernel) rfl, gt8 (i := 43) (by decide +kernel) rfl, ⟨by decide, by decide⟩, (by decide +kernel), by decide, ⟨_, rfl, rfl⟩⟩
abbrev mX12_wayOf : MD := (yX12_wayOf, cX12_wayOf, 3, some .int)
theorem iX12_wayOf : Mi mX12_wayOf 12 2 := ⟨gt7 (i := 90) (by decide +kernel) rfl, gp6 (x := 47) (i := 2) (by decide +kernel), gt1 (i := 9) (by decide +kernel) rfl, gt7 (i := 91) (by decide +kernel) rfl, ⟨by decide, by decide⟩, (by decide +kernel), by decide, ⟨_, rfl, rfl⟩⟩
abbrev mX12_wordHere : MD := (yX12_wordHere, cX12_wordHere, 1, some .int)
theorem iX12_wordHere : Mi mX12_wordHere 12 0 := ⟨gt7 (i := 25) (by decide +kernel) rfl, gp5 (x := 47) (i := 8) (by decide +kernel), gt1 (i := 9) (by decide +kernel) rfl, gt7 (i := 26) (by decide +kernel) rfl, ⟨by decide, by decide⟩, (by decide +kernel), by decide, ⟨_, rfl, rfl⟩⟩
abbrev mX12_words : MD := (yX12_words, cX12_words, 3, none)
theorem iX12_words : Mi mX12_words 12 1 := ⟨gt7 (i := 152) (by decide +kernel) rfl, gp6 (x := 47) (i := 14) (by decide +kernel), gt1 (i := 9) (by decide +kernel) rfl, gt7 (i := 153) (by decide +kernel) rfl, ⟨by decide, by decide⟩, (by decide +kernel), by decide, ⟨_, rfl, rfl⟩⟩
abbrev mX12_worthOf : MD := (yX12_worthOf, cX12_worthOf, 4, some .int)
theorem iX12_worthOf : Mi mX12_worthOf 12 1 := ⟨gt8 (i := 26) (by decide +kernel) rfl, gp8 (x := 47) (i := 0) (by decide +kernel), gt1 (i := 9) (by decide +kernel) rfl, gt8 (i := 27) (by decide +kernel) rfl, ⟨by decide, by decide⟩, (by decide +kernel), by decide, ⟨_, rfl, rfl⟩⟩
abbrev mX1_clear : MD := (yX1_clear, cX1_clear, 1, none)
theorem iX1_clear : Mi mX1_clear 1 0 := ⟨gt2 (i := 193) (by decide +kernel) rfl, gt2 (i := 194) (by decide +kernel) rfl, gt1 (i := 3) (by decide +kernel) rfl, gt2 (i := 195) (by decide +kernel) rfl, ⟨by decide, by decide⟩, (by decide +kernel), by decide, ⟨_, rfl, rfl⟩⟩
abbrev mX1_copyFrom : MD := (yX1_copyFrom, cX1_copyFrom, 2, none)
theorem iX1_copyFrom : Mi mX1_copyFrom 1 1 := ⟨gt3 (i := 103) (by decide +kernel) rfl, gt3 (i := 104) (by decide +kernel) rfl, gt1 (i := 3) (by decide +kernel) rfl, gt3 (i := 105) (by decide +kernel) rfl, ⟨by decide, by decide⟩, (by decide +kernel), by decide, ⟨_, rfl, rfl⟩⟩
abbrev mX1_firstOfLongest : MD := (yX1_firstOfLongest, cX1_firstOfLongest, 5, some .int)
theorem iX1_firstOfLongest : Mi mX1_firstOfLongest 1 2 := ⟨gt4 (i := 225) (by decide +kernel) rfl, gt4 (i := 226) (by decide +kernel) rfl, gt1 (i := 3) (by decide +kernel) rfl, gt4 (i := 227) (by decide +kernel) rfl, ⟨by decide, by decide⟩, (by decide +kernel), by decide, ⟨_, rfl, rfl⟩⟩
abbrev mX1_hoistLeaves : MD := (yX1_hoistLeaves, cX1_hoistLeaves, 3, some .int)
theorem iX1_hoistLeaves : Mi mX1_hoistLeaves 1 1 := ⟨gt4 (i := 60) (by decide +kernel) rfl, gt4 (i := 61) (by decide +kernel) rfl, gt1 (i := 3) (by decide +kernel) rfl, gt4 (i := 62) (by decide +kernel) rfl, ⟨by decide, by decide⟩, (by decide +kernel), by decide, ⟨_, rfl, rfl⟩⟩
abbrev mX1_init : MD := (yX1_init, cX1_init, 1, none)
abbrev mX1_isFlightFrom : MD := (yX1_isFlightFrom, cX1_isFlightFrom, 3, some .boolean)
theorem iX1_isFlightFrom : Mi mX1_isFlightFrom 1 2 := ⟨gt4 (i := 219) (by decide +kernel) rfl, gp2 (x := 15) (i := 15) (by decide +kernel), gt1 (i := 3) (by decide +kernel) rfl, gt4 (i := 220) (by decide +kernel) rfl, ⟨by decide, by decide⟩, (by decide +kernel), by decide, ⟨_, rfl, rfl⟩⟩
abbrev mX1_isPerson : MD := (yX1_isPerson, cX1_isPerson, 2, some .boolean)
theorem iX1_isPerson : Mi mX1_isPerson 1 1 := ⟨gt4 (i := 43) (by decide +kernel) rfl, gt4 (i := 44) (by decide +kernel) rfl, gt1 (i := 3) (by decide +kernel) rfl, gt4 (i := 45) (by decide +kernel) rfl, ⟨by decide, by decide⟩, (by decide +kernel), by decide, ⟨_, rfl, rfl⟩⟩
abbrev mX1_isRoom : MD := (yX1_isRoom, cX1_isRoom, 2, some .boolean)
theorem iX1_isRoom : Mi mX1_isRoom 1 1 := ⟨gt3 (i := 67) (by decide +kernel) rfl, gt3 (i := 68) (by decide +kernel) rfl, gt1 (i := 3) (by decide +kernel) rfl, gt3 (i := 69) (by decide +kernel) rfl, ⟨by decide, by decide⟩, (by decide +kernel), by decide, ⟨_, rfl, rfl⟩⟩
abbrev mX1_isWay : MD := (yX1_isWay, cX1_isWay, 2, some .boolean)
theorem iX1_isWay : Mi mX1_isWay 1 1 := ⟨gt3 (i := 77) (by decide +kernel) rfl, gt3 (i := 78) (by decide +kernel) rfl, gt1 (i := 3) (by decide +kernel) rfl, gt3 (i := 79) (by decide +kernel) rfl, ⟨by decide, by decide⟩, (by decide +kernel), by decide, ⟨_, rfl, rfl⟩⟩
abbrev mX1_leadsTo : MD := (yX1_leadsTo, cX1_leadsTo, 3, some .int)
theorem iX1_leadsTo : Mi mX1_leadsTo 1 2 := ⟨gt4 (i := 77) (by decide +kernel) rfl, gt4 (i := 78) (by decide +kernel) rfl, gt1 (i := 3) (by decide +kernel) rfl, gt4 (i := 79) (by decide +kernel) rfl, ⟨by decide, by decide⟩, (by decide +kernel), by decide, ⟨_, rfl, rfl⟩⟩
abbrev mX1_openFrom : MD := (yX1_openFrom, cX1_openFrom, 4, some .int)
theorem iX1_openFrom : Mi mX1_openFrom 1 2 := ⟨gt4 (i := 82) (by decide +kernel) rfl, gt4 (i := 83) (by decide +kernel) rfl, gt1 (i := 3) (by decide +kernel) rfl, gt4 (i := 84) (by decide +kernel) rfl, ⟨by decide, by decide⟩, (by decide +kernel), by decide, ⟨_, rfl, rfl⟩⟩
abbrev mX1_reckonDowns : MD := (yX1_reckonDowns, cX1_reckonDowns, 6, none)
theorem iX1_reckonDowns : Mi mX1_reckonDowns 1 3 := ⟨gt4 (i := 210) (by decide +kernel) rfl, gt4 (i := 211) (by decide +kernel) rfl, gt1 (i := 3) (by decide +kernel) rfl, gt4 (i := 212) (by decide +kernel) rfl, ⟨by decide, by decide⟩, (by decide +kernel), by decide, ⟨_, rfl, rfl⟩⟩
abbrev mX1_reckonDownsFrom : MD := (yX1_reckonDownsFrom, cX1_reckonDownsFrom, 7, none)
theorem iX1_reckonDownsFrom : Mi mX1_reckonDownsFrom 1 4 := ⟨gt4 (i := 215) (by decide +kernel) rfl, gp2 (x := 15) (i := 14) (by decide +kernel), gt1 (i := 3) (by decide +kernel) rfl, gt4 (i := 216) (by decide +kernel) rfl, ⟨by decide, by decide⟩, (by decide +kernel), by decide, ⟨_, rfl, rfl⟩⟩
abbrev mX1_twos : MD := (yX1_twos, cX1_twos, 6, some .int)
theorem iX1_twos : Mi mX1_twos 1 2 := ⟨gt5 (i := 169) (by decide +kernel) rfl, gt5 (i := 170) (by decide +kernel) rfl, gt1 (i := 3) (by decide +kernel) rfl, gt5 (i := 171) (by decide +kernel) rfl, ⟨by decide, by decide⟩, (by decide +kernel), by decide, ⟨_, rfl, rfl⟩⟩
abbrev mX1_widen : MD := (yX1_widen, cX1_widen, 4, some .boolean)
theorem iX1_widen : Ms mX1_widen 3 := ⟨gt5 (i := 173) (by decide +kernel) rfl, gt1 (i := 3) (by decide +kernel) rfl, gt5 (i := 174) (by decide +kernel) rfl, ⟨by decide, by decide⟩, (by decide +kernel), by decide⟩
abbrev mX2_init : MD := (yX2_init, cX2_init, 3, none)
abbrev mX2_joins : MD := (yX2_joins, cX2_joins, 4, some .boolean)
theorem iX2_joins : Mi mX2_joins 2 3 := ⟨gt3 (i := 64) (by decide +kernel) rfl, gp1 (x := 3) (i := 5) (by decide +kernel), gt1 (i := 10) (by decide +kernel) rfl, gt3 (i := 65) (by decide +kernel) rfl, ⟨by decide, by decide⟩, (by decide +kernel), by decide, ⟨_, rfl, rfl⟩⟩
abbrev mX2_opens : MD := (yX2_opens, cX2_opens, 2, some .boolean)
theorem iX2_opens : Mi mX2_opens 2 1 := ⟨gt3 (i := 37) (by decide +kernel) rfl, gp1 (x := 3) (i := 2) (by decide +kernel), gt1 (i := 10) (by decide +kernel) rfl, gt3 (i := 38) (by decide +kernel) rfl, ⟨by decide, by decide⟩, (by decide +kernel), by decide, ⟨_, rfl, rfl⟩⟩
abbrev mX2_readAll : MD := (yX2_readAll, cX2_readAll, 2, some .boolean)
theorem iX2_readAll : Mi mX2_readAll 2 0 := ⟨gt2 (i := 189) (by decide +kernel) rfl, gt2 (i := 190) (by decide +kernel) rfl, gt1 (i := 10) (by decide +kernel) rfl, gt2 (i := 191) (by decide +kernel) rfl, ⟨by decide, by decide⟩, (by decide +kernel), by decide, ⟨_, rfl, rfl⟩⟩
abbrev mX2_readClause : MD := (yX2_readClause, cX2_readClause, 1, some .boolean)
theorem iX2_readClause : Mi mX2_readClause 2 0 := ⟨gt2 (i := 220) (by decide +kernel) rfl, gp1 (x := 3) (i := 1) (by decide +kernel), gt1 (i := 10) (by decide +kernel) rfl, gt2 (i := 221) (by decide +kernel) rfl, ⟨by decide, by decide⟩, (by decide +kernel), by decide, ⟨_, rfl, rfl⟩⟩
abbrev mX2_readDoor : MD := (yX2_readDoor, cX2_readDoor, 3, some .boolean)
theorem iX2_readDoor : Mi mX2_readDoor 2 0 := ⟨gt3 (i := 74) (by decide +kernel) rfl, gp1 (x := 3) (i := 6) (by decide +kernel), gt1 (i := 10) (by decide +kernel) rfl, gt3 (i := 75) (by decide +kernel) rfl, ⟨by decide, by decide⟩, (by decide +kernel), by decide, ⟨_, rfl, rfl⟩⟩
abbrev mX2_readHoist : MD := (yX2_readHoist, cX2_readHoist, 1, some .boolean)
theorem iX2_readHoist : Mi mX2_readHoist 2 0 := ⟨gt3 (i := 83) (by decide +kernel) rfl, gp1 (x := 3) (i := 7) (by decide +kernel), gt1 (i := 10) (by decide +kernel) rfl, gt3 (i := 84) (by decide +kernel) rfl, ⟨by decide, by decide⟩, (by decide +kernel), by decide, ⟨_, rfl, rfl⟩⟩
abbrev mX2_readPerson : MD := (yX2_readPerson, cX2_readPerson, 1, some .boolean)
theorem iX2_readPerson : Mi mX2_readPerson 2 0 := ⟨gt3 (i := 88) (by decide +kernel) rfl, gp1 (x := 3) (i := 8) (by decide +kernel), gt1 (i := 10) (by decide +kernel) rfl, gt3 (i := 89) (by decide +kernel) rfl, ⟨by decide, by decide⟩, (by decide +kernel), by decide, ⟨_, rfl, rfl⟩⟩
abbrev mX2_readRoom : MD := (yX2_readRoom, cX2_readRoom, 1, some .boolean)
theorem iX2_readRoom : Mi mX2_readRoom 2 0 := ⟨gt3 (i := 46) (by decide +kernel) rfl, gp1 (x := 3) (i := 3) (by decide +kernel), gt1 (i := 10) (by decide +kernel) rfl, gt3 (i := 47) (by decide +kernel) rfl, ⟨by decide, by decide⟩, (by decide +kernel), by decide, ⟨_, rfl, rfl⟩⟩
abbrev mX2_readWay : MD := (yX2_readWay, cX2_readWay, 5, some .boolean)
theorem iX2_readWay : Mi mX2_readWay 2 1 := ⟨gt3 (i := 60) (by decide +kernel) rfl, gp1 (x := 3) (i := 4) (by decide +kernel), gt1 (i := 10) (by decide +kernel) rfl, gt3 (i := 61) (by decide +kernel) rfl, ⟨by decide, by decide⟩, (by decide +kernel), by decide, ⟨_, rfl, rfl⟩⟩
abbrev mX3_addCustomer : MD := (yX3_addCustomer, cX3_addCustomer, 3, some .int)
theorem iX3_addCustomer : Mi mX3_addCustomer 3 2 := ⟨gt5 (i := 133) (by decide +kernel) rfl, gt5 (i := 134) (by decide +kernel) rfl, gt1 (i := 6) (by decide +kernel) rfl, gt5 (i := 135) (by decide +kernel) rfl, ⟨by decide, by decide⟩, (by decide +kernel), by decide, ⟨_, rfl, rfl⟩⟩
abbrev mX3_addErrand : MD := (yX3_addErrand, cX3_addErrand, 5, some .int)
theorem iX3_addErrand : Mi mX3_addErrand 3 4 := ⟨gt4 (i := 233) (by decide +kernel) rfl, gt4 (i := 234) (by decide +kernel) rfl, gt1 (i := 6) (by decide +kernel) rfl, gt4 (i := 235) (by decide +kernel) rfl, ⟨by decide, by decide⟩, (by decide +kernel), by decide, ⟨_, rfl, rfl⟩⟩
abbrev mX3_addRider : MD := (yX3_addRider, cX3_addRider, 2, some .int)
theorem iX3_addRider : Mi mX3_addRider 3 1 := ⟨gt5 (i := 112) (by decide +kernel) rfl, gt5 (i := 113) (by decide +kernel) rfl, gt1 (i := 6) (by decide +kernel) rfl, gt5 (i := 114) (by decide +kernel) rfl, ⟨by decide, by decide⟩, (by decide +kernel), by decide, ⟨_, rfl, rfl⟩⟩
abbrev mX3_addTrip : MD := (yX3_addTrip, cX3_addTrip, 5, some .int)
theorem iX3_addTrip : Mi mX3_addTrip 3 4 := ⟨gt5 (i := 67) (by decide +kernel) rfl, gt5 (i := 68) (by decide +kernel) rfl, gt1 (i := 6) (by decide +kernel) rfl, gt5 (i := 69) (by decide +kernel) rfl, ⟨by decide, by decide⟩, (by decide +kernel), by decide, ⟨_, rfl, rfl⟩⟩
abbrev mX3_copyFrom : MD := (yX3_copyFrom, cX3_copyFrom, 2, none)
theorem iX3_copyFrom : Mi mX3_copyFrom 3 1 := ⟨gt5 (i := 207) (by decide +kernel) rfl, gt5 (i := 208) (by decide +kernel) rfl, gt1 (i := 6) (by decide +kernel) rfl, gt5 (i := 209) (by decide +kernel) rfl, ⟨by decide, by decide⟩, (by decide +kernel), by decide, ⟨_, rfl, rfl⟩⟩
abbrev mX3_customersFrom : MD := (yX3_customersFrom, cX3_customersFrom, 5, some .int)
theorem iX3_customersFrom : Mi mX3_customersFrom 3 2 := ⟨gt5 (i := 149) (by decide +kernel) rfl, gt5 (i := 150) (by decide +kernel) rfl, gt1 (i := 6) (by decide +kernel) rfl, gt5 (i := 151) (by decide +kernel) rfl, ⟨by decide, by decide⟩, (by decide +kernel), by decide, ⟨_, rfl, rfl⟩⟩
abbrev mX3_firstWaiting : MD := (yX3_firstWaiting, cX3_firstWaiting, 4, some .int)
theorem iX3_firstWaiting : Mi mX3_firstWaiting 3 1 := ⟨gt5 (i := 124) (by decide +kernel) rfl, gt5 (i := 125) (by decide +kernel) rfl, gt1 (i := 6) (by decide +kernel) rfl, gt5 (i := 126) (by decide +kernel) rfl, ⟨by decide, by decide⟩, (by decide +kernel), by decide, ⟨_, rfl, rfl⟩⟩
abbrev mX3_init : MD := (yX3_init, cX3_init, 1, none)
abbrev mX4_goOn : MD := (yX4_goOn, cX4_goOn, 7, none)
theorem iX4_goOn : Mi mX4_goOn 4 2 := ⟨gt5 (i := 52) (by decide +kernel) rfl, gp3 (x := 5) (i := 2) (by decide +kernel), gt1 (i := 21) (by decide +kernel) rfl, gt5 (i := 53) (by decide +kernel) rfl, ⟨by decide, by decide⟩, (by decide +kernel), by decide, ⟨_, rfl, rfl⟩⟩
abbrev mX4_init : MD := (yX4_init, cX4_init, 1, none)
abbrev mX4_layOut : MD := (yX4_layOut, cX4_layOut, 7, some .int)
theorem iX4_layOut : Mi mX4_layOut 4 2 := ⟨gt5 (i := 43) (by decide +kernel) rfl, gp3 (x := 5) (i := 0) (by decide +kernel), gt1 (i := 21) (by decide +kernel) rfl, gt5 (i := 44) (by decide +kernel) rfl, ⟨by decide, by decide⟩, (by decide +kernel), by decide, ⟨_, rfl, rfl⟩⟩
abbrev mX4_plan : MD := (yX4_plan, cX4_plan, 9, none)
theorem iX4_plan : Mi mX4_plan 4 4 := ⟨gt5 (i := 28) (by decide +kernel) rfl, gt5 (i := 29) (by decide +kernel) rfl, gt1 (i := 21) (by decide +kernel) rfl, gt5 (i := 30) (by decide +kernel) rfl, ⟨by decide, by decide⟩, (by decide +kernel), by decide, ⟨_, rfl, rfl⟩⟩
abbrev mX4_weigh : MD := (yX4_weigh, cX4_weigh, 6, none)
theorem iX4_weigh : Mi mX4_weigh 4 3 := ⟨gt5 (i := 47) (by decide +kernel) rfl, gp3 (x := 5) (i := 1) (by decide +kernel), gt1 (i := 21) (by decide +kernel) rfl, gt5 (i := 48) (by decide +kernel) rfl, ⟨by decide, by decide⟩, (by decide +kernel), by decide, ⟨_, rfl, rfl⟩⟩
abbrev mX5_clear : MD := (yX5_clear, cX5_clear, 1, none)
theorem iX5_clear : Mi mX5_clear 5 0 := ⟨gt4 (i := 165) (by decide +kernel) rfl, gt4 (i := 166) (by decide +kernel) rfl, gt1 (i := 7) (by decide +kernel) rfl, gt4 (i := 167) (by decide +kernel) rfl, ⟨by decide, by decide⟩, (by decide +kernel), by decide, ⟨_, rfl, rfl⟩⟩
abbrev mX5_from : MD := (yX5_from, cX5_from, 5, none)
theorem iX5_from : Mi mX5_from 5 4 := ⟨gt4 (i := 161) (by decide +kernel) rfl, gt4 (i := 162) (by decide +kernel) rfl, gt1 (i := 7) (by decide +kernel) rfl, gt4 (i := 163) (by decide +kernel) rfl, ⟨by decide, by decide⟩, (by decide +kernel), by decide, ⟨_, rfl, rfl⟩⟩
abbrev mX5_get : MD := (yX5_get, cX5_get, 4, some .int)
theorem iX5_get : Mi mX5_get 5 2 := ⟨gt4 (i := 183) (by decide +kernel) rfl, gt4 (i := 184) (by decide +kernel) rfl, gt1 (i := 7) (by decide +kernel) rfl, gt4 (i := 185) (by decide +kernel) rfl, ⟨by decide, by decide⟩, (by decide +kernel), by decide, ⟨_, rfl, rfl⟩⟩
abbrev mX5_goAlong : MD := (yX5_goAlong, cX5_goAlong, 8, some .boolean)
theorem iX5_goAlong : Mi mX5_goAlong 5 4 := ⟨gt4 (i := 189) (by decide +kernel) rfl, gp2 (x := 1) (i := 13) (by decide +kernel), gt1 (i := 7) (by decide +kernel) rfl, gt4 (i := 190) (by decide +kernel) rfl, ⟨by decide, by decide⟩, (by decide +kernel), by decide, ⟨_, rfl, rfl⟩⟩
abbrev mX5_goUp : MD := (yX5_goUp, cX5_goUp, 5, some .boolean)
theorem iX5_goUp : Mi mX5_goUp 5 1 := ⟨gt4 (i := 180) (by decide +kernel) rfl, gp2 (x := 1) (i := 12) (by decide +kernel), gt1 (i := 7) (by decide +kernel) rfl, gt4 (i := 181) (by decide +kernel) rfl, ⟨by decide, by decide⟩, (by decide +kernel), by decide, ⟨_, rfl, rfl⟩⟩
abbrev mX5_init : MD := (yX5_init, cX5_init, 1, none)
abbrev mX5_leastAt : MD := (yX5_leastAt, cX5_leastAt, 2, some .int)
theorem iX5_leastAt : Mi mX5_leastAt 5 1 := ⟨gt4 (i := 194) (by decide +kernel) rfl, gt4 (i := 195) (by decide +kernel) rfl, gt1 (i := 7) (by decide +kernel) rfl, gt4 (i := 196) (by decide +kernel) rfl, ⟨by decide, by decide⟩, (by decide +kernel), by decide, ⟨_, rfl, rfl⟩⟩
abbrev mX5_put : MD := (yX5_put, cX5_put, 5, some .boolean)
theorem iX5_put : Mi mX5_put 5 3 := ⟨gt4 (i := 171) (by decide +kernel) rfl, gt4 (i := 172) (by decide +kernel) rfl, gt1 (i := 7) (by decide +kernel) rfl, gt4 (i := 173) (by decide +kernel) rfl, ⟨by decide, by decide⟩, (by decide +kernel), by decide, ⟨_, rfl, rfl⟩⟩
abbrev mX5_spread : MD := (yX5_spread, cX5_spread, 6, none)
theorem iX5_spread : Mi mX5_spread 5 1 := ⟨gt4 (i := 175) (by decide +kernel) rfl, gt4 (i := 176) (by decide +kernel) rfl, gt1 (i := 7) (by decide +kernel) rfl, gt4 (i := 177) (by decide +kernel) rfl, ⟨by decide, by decide⟩, (by decide +kernel), by decide, ⟨_, rfl, rfl⟩⟩
abbrev mX6_clear : MD := (yX6_clear, cX6_clear, 1, none)
theorem iX6_clear : Mi mX6_clear 6 0 := ⟨gt3 (i := 192) (by decide +kernel) rfl, gt3 (i := 193) (by decide +kernel) rfl, gt1 (i := 18) (by decide +kernel) rfl, gt3 (i := 194) (by decide +kernel) rfl, ⟨by decide, by decide⟩, (by decide +kernel), by decide, ⟨_, rfl, rfl⟩⟩
abbrev mX6_holds : MD := (yX6_holds, cX6_holds, 8, some .boolean)
theorem iX6_holds : Mi mX6_holds 6 4 := ⟨gt4 (i := 105) (by decide +kernel) rfl, gt4 (i := 106) (by decide +kernel) rfl, gt1 (i := 18) (by decide +kernel) rfl, gt4 (i := 107) (by decide +kernel) rfl, ⟨by decide, by decide⟩, (by decide +kernel), by decide, ⟨_, rfl, rfl⟩⟩
abbrev mX6_init : MD := (yX6_init, cX6_init, 1, none)
abbrev mX6_join : MD := (yX6_join, cX6_join, 3, some .int)
theorem iX6_join : Mi mX6_join 6 2 := ⟨gt4 (i := 114) (by decide +kernel) rfl, gp2 (x := 8) (i := 9) (by decide +kernel), gt1 (i := 18) (by decide +kernel) rfl, gt4 (i := 115) (by decide +kernel) rfl, ⟨by decide, by decide⟩, (by decide +kernel), by decide, ⟨_, rfl, rfl⟩⟩
abbrev mX6_joined : MD := (yX6_joined, cX6_joined, 5, some .long)
theorem iX6_joined : Ms mX6_joined 3 := ⟨gt4 (i := 117) (by decide +kernel) rfl, gt1 (i := 18) (by decide +kernel) rfl, gt4 (i := 118) (by decide +kernel) rfl, ⟨by decide, by decide⟩, (by decide +kernel), by decide⟩
abbrev mX6_negate : MD := (yX6_negate, cX6_negate, 2, some .int)
theorem iX6_negate : Mi mX6_negate 6 1 := ⟨gt4 (i := 110) (by decide +kernel) rfl, gp2 (x := 8) (i := 8) (by decide +kernel), gt1 (i := 18) (by decide +kernel) rfl, gt4 (i := 111) (by decide +kernel) rfl, ⟨by decide, by decide⟩, (by decide +kernel), by decide, ⟨_, rfl, rfl⟩⟩
abbrev mX6_put : MD := (yX6_put, cX6_put, 2, some .boolean)
theorem iX6_put : Mi mX6_put 6 1 := ⟨gt4 (i := 5) (by decide +kernel) rfl, gt4 (i := 6) (by decide +kernel) rfl, gt1 (i := 18) (by decide +kernel) rfl, gt4 (i := 7) (by decide +kernel) rfl, ⟨by decide, by decide⟩, (by decide +kernel), by decide, ⟨_, rfl, rfl⟩⟩
abbrev mX7_comparison : MD := (yX7_comparison, cX7_comparison, 2, some .int)
theorem iX7_comparison : Mi mX7_comparison 7 0 := ⟨gt4 (i := 19) (by decide +kernel) rfl, gp2 (x := 4) (i := 2) (by decide +kernel), gt1 (i := 19) (by decide +kernel) rfl, gt4 (i := 20) (by decide +kernel) rfl, ⟨by decide, by decide⟩, (by decide +kernel), by decide, ⟨_, rfl, rfl⟩⟩
abbrev mX7_countPart : MD := (yX7_countPart, cX7_countPart, 1, some .boolean)
theorem iX7_countPart : Mi mX7_countPart 7 0 := ⟨gt4 (i := 2) (by decide +kernel) rfl, gp1 (x := 4) (i := 15) (by decide +kernel), gt1 (i := 19) (by decide +kernel) rfl, gt4 (i := 3) (by decide +kernel) rfl, ⟨by decide, by decide⟩, (by decide +kernel), by decide, ⟨_, rfl, rfl⟩⟩
abbrev mX7_init : MD := (yX7_init, cX7_init, 3, none)
abbrev mX7_readAll : MD := (yX7_readAll, cX7_readAll, 2, some .boolean)
theorem iX7_readAll : Mi mX7_readAll 7 0 := ⟨gt3 (i := 188) (by decide +kernel) rfl, gt3 (i := 189) (by decide +kernel) rfl, gt1 (i := 19) (by decide +kernel) rfl, gt3 (i := 190) (by decide +kernel) rfl, ⟨by decide, by decide⟩, (by decide +kernel), by decide, ⟨_, rfl, rfl⟩⟩
abbrev mX7_readComparison : MD := (yX7_readComparison, cX7_readComparison, 1, some .boolean)
theorem iX7_readComparison : Mi mX7_readComparison 7 0 := ⟨gt4 (i := 15) (by decide +kernel) rfl, gp2 (x := 4) (i := 1) (by decide +kernel), gt1 (i := 19) (by decide +kernel) rfl, gt4 (i := 16) (by decide +kernel) rfl, ⟨by decide, by decide⟩, (by decide +kernel), by decide, ⟨_, rfl, rfl⟩⟩
abbrev mX7_readDeed : MD := (yX7_readDeed, cX7_readDeed, 3, some .boolean)
theorem iX7_readDeed : Mi mX7_readDeed 7 0 := ⟨gt3 (i := 198) (by decide +kernel) rfl, gp1 (x := 4) (i := 9) (by decide +kernel), gt1 (i := 19) (by decide +kernel) rfl, gt3 (i := 199) (by decide +kernel) rfl, ⟨by decide, by decide⟩, (by decide +kernel), by decide, ⟨_, rfl, rfl⟩⟩
abbrev mX7_readFact : MD := (yX7_readFact, cX7_readFact, 3, some .boolean)
theorem iX7_readFact : Mi mX7_readFact 7 1 := ⟨gt3 (i := 215) (by decide +kernel) rfl, gp1 (x := 4) (i := 11) (by decide +kernel), gt1 (i := 19) (by decide +kernel) rfl, gt3 (i := 216) (by decide +kernel) rfl, ⟨by decide, by decide⟩, (by decide +kernel), by decide, ⟨_, rfl, rfl⟩⟩
abbrev mX7_readSum : MD := (yX7_readSum, cX7_readSum, 5, some .boolean)
theorem iX7_readSum : Mi mX7_readSum 7 0 := ⟨gt3 (i := 221) (by decide +kernel) rfl, gp1 (x := 4) (i := 12) (by decide +kernel), gt1 (i := 19) (by decide +kernel) rfl, gt3 (i := 222) (by decide +kernel) rfl, ⟨by decide, by decide⟩, (by decide +kernel), by decide, ⟨_, rfl, rfl⟩⟩
abbrev mX7_readTest : MD := (yX7_readTest, cX7_readTest, 5, some .boolean)
theorem iX7_readTest : Mi mX7_readTest 7 1 := ⟨gt3 (i := 211) (by decide +kernel) rfl, gp1 (x := 4) (i := 10) (by decide +kernel), gt1 (i := 19) (by decide +kernel) rfl, gt3 (i := 212) (by decide +kernel) rfl, ⟨by decide, by decide⟩, (by decide +kernel), by decide, ⟨_, rfl, rfl⟩⟩
abbrev mX7_readValue : MD := (yX7_readValue, cX7_readValue, 2, some .boolean)
theorem iX7_readValue : Mi mX7_readValue 7 0 := ⟨gt3 (i := 225) (by decide +kernel) rfl, gp1 (x := 4) (i := 13) (by decide +kernel), gt1 (i := 19) (by decide +kernel) rfl, gt3 (i := 226) (by decide +kernel) rfl, ⟨by decide, by decide⟩, (by decide +kernel), by decide, ⟨_, rfl, rfl⟩⟩
abbrev mX7_reckoning : MD := (yX7_reckoning, cX7_reckoning, 1, some .int)
theorem iX7_reckoning : Mi mX7_reckoning 7 0 := ⟨gt4 (i := 10) (by decide +kernel) rfl, gp2 (x := 4) (i := 0) (by decide +kernel), gt1 (i := 19) (by decide +kernel) rfl, gt4 (i := 11) (by decide +kernel) rfl, ⟨by decide, by decide⟩, (by decide +kernel), by decide, ⟨_, rfl, rfl⟩⟩
abbrev mX7_valueWord : MD := (yX7_valueWord, cX7_valueWord, 1, some .int)
theorem iX7_valueWord : Mi mX7_valueWord 7 0 := ⟨gt3 (i := 229) (by decide +kernel) rfl, gp1 (x := 4) (i := 14) (by decide +kernel), gt1 (i := 19) (by decide +kernel) rfl, gt3 (i := 230) (by decide +kernel) rfl, ⟨by decide, by decide⟩, (by decide +kernel), by decide, ⟨_, rfl, rfl⟩⟩
abbrev mX8_copyFrom : MD := (yX8_copyFrom, cX8_copyFrom, 2, none)
theorem iX8_copyFrom : Mi mX8_copyFrom 8 1 := ⟨gt5 (i := 202) (by decide +kernel) rfl, gt5 (i := 203) (by decide +kernel) rfl, gt1 (i := 4) (by decide +kernel) rfl, gt5 (i := 204) (by decide +kernel) rfl, ⟨by decide, by decide⟩, (by decide +kernel), by decide, ⟨_, rfl, rfl⟩⟩
abbrev mX8_init : MD := (yX8_init, cX8_init, 1, none)
abbrev mX8_moveInto : MD := (yX8_moveInto, cX8_moveInto, 2, none)
theorem iX8_moveInto : Mi mX8_moveInto 8 1 := ⟨gt3 (i := 99) (by decide +kernel) rfl, gt3 (i := 100) (by decide +kernel) rfl, gt1 (i := 4) (by decide +kernel) rfl, gt3 (i := 101) (by decide +kernel) rfl, ⟨by decide, by decide⟩, (by decide +kernel), by decide, ⟨_, rfl, rfl⟩⟩
abbrev mX9_advance : MD := (yX9_advance, cX9_advance, 3, none)
theorem iX9_advance : Mi mX9_advance 9 0 := ⟨gt2 (i := 201) (by decide +kernel) rfl, gt2 (i := 202) (by decide +kernel) rfl, gt1 (i := 2) (by decide +kernel) rfl, gt2 (i := 203) (by decide +kernel) rfl, ⟨by decide, by decide⟩, (by decide +kernel), by decide, ⟨_, rfl, rfl⟩⟩
abbrev mX9_append : MD := (yX9_append, cX9_append, 3, none)
theorem iX9_append : Mi mX9_append 9 1 := ⟨gt2 (i := 161) (by decide +kernel) rfl, gt2 (i := 162) (by decide +kernel) rfl, gt1 (i := 2) (by decide +kernel) rfl, gt2 (i := 163) (by decide +kernel) rfl, ⟨by decide, by decide⟩, (by decide +kernel), by decide, ⟨_, rfl, rfl⟩⟩
abbrev mX9_begin : MD := (yX9_begin, cX9_begin, 1, none)
theorem iX9_begin : Mi mX9_begin 9 0 := ⟨gt2 (i := 197) (by decide +kernel) rfl, gt2 (i := 198) (by decide +kernel) rfl, gt1 (i := 2) (by decide +kernel) rfl, gt2 (i := 199) (by decide +kernel) rfl, ⟨by decide, by decide⟩, (by decide +kernel), by decide, ⟨_, rfl, rfl⟩⟩
abbrev mX9_behindDigits : MD := (yX9_behindDigits, cX9_behindDigits, 3, some .int)
theorem iX9_behindDigits : Mi mX9_behindDigits 9 1 := ⟨gt2 (i := 216) (by decide +kernel) rfl, gp1 (x := 8) (i := 0) (by decide +kernel), gt1 (i := 2) (by decide +kernel) rfl, gt2 (i := 217) (by decide +kernel) rfl, ⟨by decide, by decide⟩, (by decide +kernel), by decide, ⟨_, rfl, rfl⟩⟩
abbrev mX9_byteAt : MD := (yX9_byteAt, cX9_byteAt, 2, some .int)
theorem iX9_byteAt : Mi mX9_byteAt 9 1 := ⟨gt2 (i := 205) (by decide +kernel) rfl, gt2 (i := 206) (by decide +kernel) rfl, gt1 (i := 2) (by decide +kernel) rfl, gt2 (i := 207) (by decide +kernel) rfl, ⟨by decide, by decide⟩, (by decide +kernel), by decide, ⟨_, rfl, rfl⟩⟩
abbrev mX9_init : MD := (yX9_init, cX9_init, 1, none)
abbrev mX9_isDigit : MD := (yX9_isDigit, cX9_isDigit, 1, some .boolean)
theorem iX9_isDigit : Ms mX9_isDigit 1 := ⟨gt2 (i := 212) (by decide +kernel) rfl, gt1 (i := 2) (by decide +kernel) rfl, gt2 (i := 213) (by decide +kernel) rfl, ⟨by decide, by decide⟩, (by decide +kernel), by decide⟩
abbrev mX9_isLetter : MD := (yX9_isLetter, cX9_isLetter, 1, some .boolean)
theorem iX9_isLetter : Ms mX9_isLetter 1 := ⟨gt2 (i := 209) (by decide +kernel) rfl, gt1 (i := 2) (by decide +kernel) rfl, gt2 (i := 210) (by decide +kernel) rfl, ⟨by decide, by decide⟩, (by decide +kernel), by decide⟩
abbrev mX9_isNumber : MD := (yX9_isNumber, cX9_isNumber, 4, some .boolean)
theorem iX9_isNumber : Mi mX9_isNumber 9 2 := ⟨gt3 (i := 49) (by decide +kernel) rfl, gt3 (i := 50) (by decide +kernel) rfl, gt1 (i := 2) (by decide +kernel) rfl, gt3 (i := 51) (by decide +kernel) rfl, ⟨by decide, by decide⟩, (by decide +kernel), by decide, ⟨_, rfl, rfl⟩⟩
abbrev mX9_isSign : MD := (yX9_isSign, cX9_isSign, 2, some .boolean)
theorem iX9_isSign : Mi mX9_isSign 9 1 := ⟨gt3 (i := 95) (by decide +kernel) rfl, gt3 (i := 96) (by decide +kernel) rfl, gt1 (i := 2) (by decide +kernel) rfl, gt3 (i := 97) (by decide +kernel) rfl, ⟨by decide, by decide⟩, (by decide +kernel), by decide, ⟨_, rfl, rfl⟩⟩
abbrev mX9_isWord : MD := (yX9_isWord, cX9_isWord, 4, some .boolean)
theorem iX9_isWord : Mi mX9_isWord 9 1 := ⟨gt2 (i := 224) (by decide +kernel) rfl, gt2 (i := 225) (by decide +kernel) rfl, gt1 (i := 2) (by decide +kernel) rfl, gt2 (i := 226) (by decide +kernel) rfl, ⟨by decide, by decide⟩, (by decide +kernel), by decide, ⟨_, rfl, rfl⟩⟩
abbrev mX9_passSign : MD := (yX9_passSign, cX9_passSign, 2, some .boolean)
theorem iX9_passSign : Mi mX9_passSign 9 1 := ⟨gt3 (i := 91) (by decide +kernel) rfl, gt3 (i := 92) (by decide +kernel) rfl, gt1 (i := 2) (by decide +kernel) rfl, gt3 (i := 93) (by decide +kernel) rfl, ⟨by decide, by decide⟩, (by decide +kernel), by decide, ⟨_, rfl, rfl⟩⟩
abbrev mX9_refuse : MD := (yX9_refuse, cX9_refuse, 2, some .boolean)
theorem iX9_refuse : Mi mX9_refuse 9 1 := ⟨gt3 (i := 40) (by decide +kernel) rfl, gt3 (i := 41) (by decide +kernel) rfl, gt1 (i := 2) (by decide +kernel) rfl, gt3 (i := 42) (by decide +kernel) rfl, ⟨by decide, by decide⟩, (by decide +kernel), by decide, ⟨_, rfl, rfl⟩⟩
abbrev mX9_take : MD := (yX9_take, cX9_take, 2, some .int)
theorem iX9_take : Mi mX9_take 9 0 := ⟨gt3 (i := 54) (by decide +kernel) rfl, gt3 (i := 55) (by decide +kernel) rfl, gt1 (i := 2) (by decide +kernel) rfl, gt3 (i := 56) (by decide +kernel) rfl, ⟨by decide, by decide⟩, (by decide +kernel), by decide, ⟨_, rfl, rfl⟩⟩
theorem lX11_87 : Cond.methodLink RX11 87 yX9_append ∈ gw := gt2 (i := 160) (by decide +kernel) rfl
theorem lX11_93 : Cond.methodLink RX11 93 yX2_init ∈ gw := gt2 (i := 174) (by decide +kernel) rfl
theorem lX11_96 : Cond.methodLink RX11 96 yX2_readAll ∈ gw := gt2 (i := 188) (by decide +kernel) rfl
theorem lX11_103 : Cond.methodLink RX11 103 yX8_moveInto ∈ gw := gt3 (i := 98) (by decide +kernel) rfl
theorem lX11_119 : Cond.methodLink RX11 119 yX7_init ∈ gw := gt3 (i := 170) (by decide +kernel) rfl
theorem lX11_122 : Cond.methodLink RX11 122 yX7_readAll ∈ gw := gt3 (i := 187) (by decide +kernel) rfl
theorem lX11_123 : Cond.methodLink RX11 123 yX1_isRoom ∈ gw := gt4 (i := 28) (by decide +kernel) rfl
theorem lX11_133 : Cond.methodLink RX11 133 yX0_peopleIn ∈ gw := gt4 (i := 29) (by decide +kernel) rfl
theorem lX11_140 : Cond.methodLink RX11 140 yX1_isWay ∈ gw := gt4 (i := 37) (by decide +kernel) rfl
theorem lX11_161 : Cond.methodLink RX11 161 yX1_isPerson ∈ gw := gt4 (i := 42) (by decide +kernel) rfl
theorem lX11_182 : Cond.methodLink RX11 182 yX0_takeHoist ∈ gw := gt4 (i := 50) (by decide +kernel) rfl
theorem lX11_186 : Cond.methodLink RX11 186 yX0_takeWay ∈ gw := gt4 (i := 67) (by decide +kernel) rfl
theorem lX11_190 : Cond.methodLink RX11 190 yX11_ruleTold ∈ gw := gt4 (i := 92) (by decide +kernel) rfl
theorem lX11_194 : Cond.methodLink RX11 194 yX0_pass ∈ gw := gt4 (i := 96) (by decide +kernel) rfl
theorem lX11_198 : Cond.methodLink RX11 198 yX0_copyFrom ∈ gw := gt4 (i := 141) (by decide +kernel) rfl
theorem lX11_202 : Cond.methodLink RX11 202 yX0_tally ∈ gw := gt4 (i := 145) (by decide +kernel) rfl
theorem lX11_205 : Cond.methodLink RX11 205 yX11_isStart ∈ gw := gt4 (i := 153) (by decide +kernel) rfl
theorem lX11_209 : Cond.methodLink RX11 209 yX5_from ∈ gw := gt4 (i := 160) (by decide +kernel) rfl
theorem lX11_212 : Cond.methodLink RX11 212 yX5_leastAt ∈ gw := gt4 (i := 193) (by decide +kernel) rfl
theorem lX11_216 : Cond.methodLink RX11 216 yX11_orNotToday ∈ gw := gt4 (i := 198) (by decide +kernel) rfl
theorem lX11_219 : Cond.methodLink RX11 219 yX1_reckonDowns ∈ gw := gt4 (i := 209) (by decide +kernel) rfl
theorem lX11_223 : Cond.methodLink RX11 223 yX1_firstOfLongest ∈ gw := gt4 (i := 224) (by decide +kernel) rfl
theorem lX11_236 : Cond.methodLink RX11 236 yX11_isMinute ∈ gw := gt4 (i := 157) (by decide +kernel) rfl
theorem lX11_239 : Cond.methodLink RX11 239 yX3_addErrand ∈ gw := gt4 (i := 232) (by decide +kernel) rfl
theorem lX11_250 : Cond.methodLink RX11 250 yX4_plan ∈ gw := gt5 (i := 27) (by decide +kernel) rfl
theorem lX11_264 : Cond.methodLink RX11 264 Lib.Math.max.name ∈ gw := gt5 (i := 61) (by decide +kernel) rfl
theorem lX11_273 : Cond.methodLink RX11 273 yX3_addTrip ∈ gw := gt5 (i := 66) (by decide +kernel) rfl
theorem lX11_279 : Cond.methodLink RX11 279 yX10_begin ∈ gw := gt5 (i := 74) (by decide +kernel) rfl
theorem lX11_283 : Cond.methodLink RX11 283 yX10_step ∈ gw := gt5 (i := 93) (by decide +kernel) rfl
theorem lX11_290 : Cond.methodLink RX11 290 yJ7_fill_53178 ∈ gw := gt5 (i := 102) (by decide +kernel) rfl
theorem lX11_296 : Cond.methodLink RX11 296 yX11_takeAlong ∈ gw := gt5 (i := 103) (by decide +kernel) rfl
theorem lX11_309 : Cond.methodLink RX11 309 yX3_addRider ∈ gw := gt5 (i := 111) (by decide +kernel) rfl
theorem lX11_315 : Cond.methodLink RX11 315 yX11_seatRiders ∈ gw := gt5 (i := 119) (by decide +kernel) rfl
theorem lX11_321 : Cond.methodLink RX11 321 yX3_firstWaiting ∈ gw := gt5 (i := 123) (by decide +kernel) rfl
theorem lX11_325 : Cond.methodLink RX11 325 yX1_hoistLeaves ∈ gw := gt5 (i := 127) (by decide +kernel) rfl
theorem lX11_334 : Cond.methodLink RX11 334 yX3_addCustomer ∈ gw := gt5 (i := 132) (by decide +kernel) rfl
theorem lX11_337 : Cond.methodLink RX11 337 yX11_weighOrders ∈ gw := gt5 (i := 140) (by decide +kernel) rfl
theorem lX11_340 : Cond.methodLink RX11 340 yX11_nextShop ∈ gw := gt5 (i := 152) (by decide +kernel) rfl
theorem lX11_343 : Cond.methodLink RX11 343 Lib.Math.min.name ∈ gw := gt3 (i := 109) (by decide +kernel) rfl
theorem lX11_346 : Cond.methodLink RX11 346 yX11_goDownWith ∈ gw := gt5 (i := 144) (by decide +kernel) rfl
theorem lX11_350 : Cond.methodLink RX11 350 yX3_customersFrom ∈ gw := gt5 (i := 148) (by decide +kernel) rfl
theorem lX11_356 : Cond.methodLink RX11 356 yX11_comesHome ∈ gw := gt5 (i := 160) (by decide +kernel) rfl
theorem lX11_359 : Cond.methodLink RX11 359 yX1_twos ∈ gw := gt5 (i := 168) (by decide +kernel) rfl
theorem lX11_368 : Cond.methodLink RX11 368 yX0_beginDrawn ∈ gw := gt5 (i := 184) (by decide +kernel) rfl
theorem lX11_374 : Cond.methodLink RX11 374 yX8_copyFrom ∈ gw := gt5 (i := 201) (by decide +kernel) rfl
theorem lX11_377 : Cond.methodLink RX11 377 arraycopyName ∈ gw := gt3 (i := 112) (by decide +kernel) rfl
theorem lX0_40 : Cond.methodLink RX0 40 yJ7_fill_53178 ∈ gw := gt3 (i := 120) (by decide +kernel) rfl
theorem lX0_46 : Cond.methodLink RX0 46 yX0_begin ∈ gw := gt5 (i := 188) (by decide +kernel) rfl
theorem lX0_64 : Cond.methodLink RX0 64 yX1_isPerson ∈ gw := gt4 (i := 58) (by decide +kernel) rfl
theorem lX0_68 : Cond.methodLink RX0 68 yX1_isWay ∈ gw := gt4 (i := 75) (by decide +kernel) rfl
theorem lX0_71 : Cond.methodLink RX0 71 yX1_leadsTo ∈ gw := gt4 (i := 76) (by decide +kernel) rfl
theorem lX0_75 : Cond.methodLink RX0 75 yX1_openFrom ∈ gw := gt4 (i := 81) (by decide +kernel) rfl
theorem lX0_81 : Cond.methodLink RX0 81 yX1_hoistLeaves ∈ gw := gt4 (i := 59) (by decide +kernel) rfl
theorem lX0_85 : Cond.methodLink RX0 85 yX0_canTake ∈ gw := gt4 (i := 71) (by decide +kernel) rfl
theorem lX0_92 : Cond.methodLink RX0 92 yX0_leave ∈ gw := gt4 (i := 63) (by decide +kernel) rfl
theorem lX0_96 : Cond.methodLink RX0 96 yX0_canRide ∈ gw := gt4 (i := 54) (by decide +kernel) rfl
theorem lX0_106 : Cond.methodLink RX0 106 yX0_act ∈ gw := gt4 (i := 100) (by decide +kernel) rfl
theorem lX0_110 : Cond.methodLink RX0 110 yX0_arrive ∈ gw := gt4 (i := 133) (by decide +kernel) rfl
theorem lX0_124 : Cond.methodLink RX0 124 yX6_holds ∈ gw := gt4 (i := 104) (by decide +kernel) rfl
theorem lX0_128 : Cond.methodLink RX0 128 yX0_takeWay ∈ gw := gt4 (i := 131) (by decide +kernel) rfl
theorem lX0_131 : Cond.methodLink RX0 131 yX0_takeHoist ∈ gw := gt4 (i := 132) (by decide +kernel) rfl
theorem lX0_134 : Cond.methodLink RX0 134 yX1_isRoom ∈ gw := gt4 (i := 123) (by decide +kernel) rfl
theorem lX0_140 : Cond.methodLink RX0 140 yX0_peopleIn ∈ gw := gt4 (i := 124) (by decide +kernel) rfl
theorem lX0_144 : Cond.methodLink RX0 144 yJ6_bitCount_0f7a4 ∈ gw := gt4 (i := 125) (by decide +kernel) rfl
theorem lX1_62 : Cond.methodLink RX1 62 yX1_isWay ∈ gw := gt4 (i := 80) (by decide +kernel) rfl
theorem lX1_66 : Cond.methodLink RX1 66 Lib.Math.max.name ∈ gw := gt4 (i := 85) (by decide +kernel) rfl
theorem lX1_72 : Cond.methodLink RX1 72 yX1_reckonDownsFrom ∈ gw := gt4 (i := 213) (by decide +kernel) rfl
theorem lX1_76 : Cond.methodLink RX1 76 yX1_isFlightFrom ∈ gw := gt4 (i := 217) (by decide +kernel) rfl
theorem lX1_80 : Cond.methodLink RX1 80 yX1_isRoom ∈ gw := gt4 (i := 221) (by decide +kernel) rfl
theorem lX1_84 : Cond.methodLink RX1 84 Lib.Math.min.name ∈ gw := gt4 (i := 223) (by decide +kernel) rfl
theorem lX1_87 : Cond.methodLink RX1 87 yX1_widen ∈ gw := gt5 (i := 172) (by decide +kernel) rfl
theorem lX1_91 : Cond.methodLink RX1 91 yJ6_bitCount_0f7a4 ∈ gw := gt5 (i := 175) (by decide +kernel) rfl
theorem lX2_19 : Cond.methodLink RX2 19 yX1_clear ∈ gw := gt2 (i := 192) (by decide +kernel) rfl
theorem lX2_28 : Cond.methodLink RX2 28 yX9_begin ∈ gw := gt2 (i := 196) (by decide +kernel) rfl
theorem lX2_33 : Cond.methodLink RX2 33 yX2_readClause ∈ gw := gt2 (i := 218) (by decide +kernel) rfl
theorem lX2_43 : Cond.methodLink RX2 43 yX9_refuse ∈ gw := gt3 (i := 39) (by decide +kernel) rfl
theorem lX2_47 : Cond.methodLink RX2 47 yX9_passSign ∈ gw := gt3 (i := 90) (by decide +kernel) rfl
theorem lX2_53 : Cond.methodLink RX2 53 yX9_isWord ∈ gw := gt2 (i := 223) (by decide +kernel) rfl
theorem lX2_57 : Cond.methodLink RX2 57 yX2_opens ∈ gw := gt3 (i := 35) (by decide +kernel) rfl
theorem lX2_61 : Cond.methodLink RX2 61 yX2_readRoom ∈ gw := gt3 (i := 44) (by decide +kernel) rfl
theorem lX2_69 : Cond.methodLink RX2 69 yX2_readWay ∈ gw := gt3 (i := 58) (by decide +kernel) rfl
theorem lX2_76 : Cond.methodLink RX2 76 yX2_readDoor ∈ gw := gt3 (i := 72) (by decide +kernel) rfl
theorem lX2_84 : Cond.methodLink RX2 84 yX2_readHoist ∈ gw := gt3 (i := 81) (by decide +kernel) rfl
theorem lX2_92 : Cond.methodLink RX2 92 yX2_readPerson ∈ gw := gt3 (i := 86) (by decide +kernel) rfl
theorem lX2_95 : Cond.methodLink RX2 95 yX9_advance ∈ gw := gt3 (i := 43) (by decide +kernel) rfl
theorem lX2_98 : Cond.methodLink RX2 98 yX9_isNumber ∈ gw := gt3 (i := 48) (by decide +kernel) rfl
theorem lX2_106 : Cond.methodLink RX2 106 yX9_take ∈ gw := gt3 (i := 53) (by decide +kernel) rfl
theorem lX2_116 : Cond.methodLink RX2 116 yX2_joins ∈ gw := gt3 (i := 62) (by decide +kernel) rfl
theorem lX2_136 : Cond.methodLink RX2 136 yX1_isRoom ∈ gw := gt3 (i := 66) (by decide +kernel) rfl
theorem lX2_139 : Cond.methodLink RX2 139 yX1_isWay ∈ gw := gt3 (i := 76) (by decide +kernel) rfl
theorem lX4_34 : Cond.methodLink RX4 34 Lib.Math.min.name ∈ gw := gt5 (i := 31) (by decide +kernel) rfl
theorem lX4_41 : Cond.methodLink RX4 41 yJ7_fill_fda19 ∈ gw := gt5 (i := 33) (by decide +kernel) rfl
theorem lX4_50 : Cond.methodLink RX4 50 yX5_clear ∈ gw := gt5 (i := 39) (by decide +kernel) rfl
theorem lX4_53 : Cond.methodLink RX4 53 yX5_put ∈ gw := gt5 (i := 40) (by decide +kernel) rfl
theorem lX4_57 : Cond.methodLink RX4 57 yX4_layOut ∈ gw := gt5 (i := 41) (by decide +kernel) rfl
theorem lX4_61 : Cond.methodLink RX4 61 yX4_weigh ∈ gw := gt5 (i := 45) (by decide +kernel) rfl
theorem lX4_69 : Cond.methodLink RX4 69 yX5_spread ∈ gw := gt5 (i := 49) (by decide +kernel) rfl
theorem lX4_73 : Cond.methodLink RX4 73 yX4_goOn ∈ gw := gt5 (i := 50) (by decide +kernel) rfl
theorem lX4_89 : Cond.methodLink RX4 89 yX5_get ∈ gw := gt5 (i := 54) (by decide +kernel) rfl
theorem lX4_95 : Cond.methodLink RX4 95 Lib.Math.max.name ∈ gw := gt5 (i := 55) (by decide +kernel) rfl
theorem lX5_16 : Cond.methodLink RX5 16 yJ7_fill_53178 ∈ gw := gt4 (i := 169) (by decide +kernel) rfl
theorem lX5_22 : Cond.methodLink RX5 22 yX5_clear ∈ gw := gt4 (i := 164) (by decide +kernel) rfl
theorem lX5_25 : Cond.methodLink RX5 25 yX5_put ∈ gw := gt4 (i := 170) (by decide +kernel) rfl
theorem lX5_29 : Cond.methodLink RX5 29 yX5_spread ∈ gw := gt4 (i := 174) (by decide +kernel) rfl
theorem lX5_33 : Cond.methodLink RX5 33 yX5_get ∈ gw := gt4 (i := 182) (by decide +kernel) rfl
theorem lX5_37 : Cond.methodLink RX5 37 Lib.Math.min.name ∈ gw := gt4 (i := 197) (by decide +kernel) rfl
theorem lX5_42 : Cond.methodLink RX5 42 yX5_goUp ∈ gw := gt4 (i := 178) (by decide +kernel) rfl
theorem lX5_55 : Cond.methodLink RX5 55 yX5_goAlong ∈ gw := gt4 (i := 187) (by decide +kernel) rfl
theorem lX5_62 : Cond.methodLink RX5 62 yX1_leadsTo ∈ gw := gt4 (i := 191) (by decide +kernel) rfl
theorem lX5_65 : Cond.methodLink RX5 65 yX1_openFrom ∈ gw := gt4 (i := 192) (by decide +kernel) rfl
theorem lX5_74 : Cond.methodLink RX5 74 yX1_hoistLeaves ∈ gw := gt4 (i := 186) (by decide +kernel) rfl
theorem lX6_38 : Cond.methodLink RX6 38 yX6_negate ∈ gw := gt4 (i := 108) (by decide +kernel) rfl
theorem lX6_42 : Cond.methodLink RX6 42 yX6_join ∈ gw := gt4 (i := 112) (by decide +kernel) rfl
theorem lX6_46 : Cond.methodLink RX6 46 yX0_word ∈ gw := gt4 (i := 119) (by decide +kernel) rfl
theorem lX6_52 : Cond.methodLink RX6 52 yX6_joined ∈ gw := gt4 (i := 116) (by decide +kernel) rfl
theorem lX7_19 : Cond.methodLink RX7 19 yX6_clear ∈ gw := gt3 (i := 191) (by decide +kernel) rfl
theorem lX7_24 : Cond.methodLink RX7 24 yX9_begin ∈ gw := gt3 (i := 195) (by decide +kernel) rfl
theorem lX7_29 : Cond.methodLink RX7 29 yX7_readDeed ∈ gw := gt3 (i := 196) (by decide +kernel) rfl
theorem lX7_43 : Cond.methodLink RX7 43 yX9_isWord ∈ gw := gt3 (i := 201) (by decide +kernel) rfl
theorem lX7_47 : Cond.methodLink RX7 47 yX9_advance ∈ gw := gt3 (i := 205) (by decide +kernel) rfl
theorem lX7_50 : Cond.methodLink RX7 50 yX7_readTest ∈ gw := gt3 (i := 209) (by decide +kernel) rfl
theorem lX7_60 : Cond.methodLink RX7 60 yX9_passSign ∈ gw := gt4 (i := 21) (by decide +kernel) rfl
theorem lX7_64 : Cond.methodLink RX7 64 yX9_refuse ∈ gw := gt3 (i := 204) (by decide +kernel) rfl
theorem lX7_79 : Cond.methodLink RX7 79 yX9_isNumber ∈ gw := gt3 (i := 206) (by decide +kernel) rfl
theorem lX7_86 : Cond.methodLink RX7 86 yX9_take ∈ gw := gt3 (i := 207) (by decide +kernel) rfl
theorem lX7_89 : Cond.methodLink RX7 89 yX7_readFact ∈ gw := gt3 (i := 213) (by decide +kernel) rfl
theorem lX7_92 : Cond.methodLink RX7 92 yX6_put ∈ gw := gt4 (i := 4) (by decide +kernel) rfl
theorem lX7_101 : Cond.methodLink RX7 101 yX9_isSign ∈ gw := gt3 (i := 218) (by decide +kernel) rfl
theorem lX7_104 : Cond.methodLink RX7 104 yX7_readSum ∈ gw := gt3 (i := 219) (by decide +kernel) rfl
theorem lX7_107 : Cond.methodLink RX7 107 yX7_readComparison ∈ gw := gt4 (i := 13) (by decide +kernel) rfl
theorem lX7_113 : Cond.methodLink RX7 113 yX7_comparison ∈ gw := gt4 (i := 17) (by decide +kernel) rfl
theorem lX7_116 : Cond.methodLink RX7 116 yX7_countPart ∈ gw := gt4 (i := 0) (by decide +kernel) rfl
theorem lX7_124 : Cond.methodLink RX7 124 yX9_byteAt ∈ gw := gt4 (i := 12) (by decide +kernel) rfl
theorem lX7_128 : Cond.methodLink RX7 128 yX7_readValue ∈ gw := gt3 (i := 223) (by decide +kernel) rfl
theorem lX7_131 : Cond.methodLink RX7 131 yX7_reckoning ∈ gw := gt4 (i := 8) (by decide +kernel) rfl
theorem lX7_134 : Cond.methodLink RX7 134 yX7_valueWord ∈ gw := gt3 (i := 227) (by decide +kernel) rfl
theorem lX8_30 : Cond.methodLink RX8 30 yX1_copyFrom ∈ gw := gt3 (i := 102) (by decide +kernel) rfl
theorem lX8_34 : Cond.methodLink RX8 34 yX0_copyFrom ∈ gw := gt5 (i := 205) (by decide +kernel) rfl
theorem lX8_37 : Cond.methodLink RX8 37 yX3_copyFrom ∈ gw := gt5 (i := 206) (by decide +kernel) rfl
theorem lX8_40 : Cond.methodLink RX8 40 yX0_begin ∈ gw := gt3 (i := 115) (by decide +kernel) rfl
theorem lX9_25 : Cond.methodLink RX9 25 yX9_advance ∈ gw := gt2 (i := 200) (by decide +kernel) rfl
theorem lX9_28 : Cond.methodLink RX9 28 yX9_byteAt ∈ gw := gt2 (i := 204) (by decide +kernel) rfl
theorem lX9_38 : Cond.methodLink RX9 38 yX9_isLetter ∈ gw := gt2 (i := 208) (by decide +kernel) rfl
theorem lX9_42 : Cond.methodLink RX9 42 yX9_isDigit ∈ gw := gt2 (i := 211) (by decide +kernel) rfl
theorem lX9_45 : Cond.methodLink RX9 45 yX9_behindDigits ∈ gw := gt2 (i := 214) (by decide +kernel) rfl
theorem lX9_54 : Cond.methodLink RX9 54 yJ0_length_8abf5 ∈ gw := gt2 (i := 227) (by decide +kernel) rfl
theorem lX9_59 : Cond.methodLink RX9 59 yJ0_charAt_5068e ∈ gw := gt2 (i := 237) (by decide +kernel) rfl
theorem lX9_63 : Cond.methodLink RX9 63 yX9_refuse ∈ gw := gt3 (i := 52) (by decide +kernel) rfl
theorem lX9_66 : Cond.methodLink RX9 66 yX9_isSign ∈ gw := gt3 (i := 94) (by decide +kernel) rfl
theorem lX10_15 : Cond.methodLink RX10 15 yJ7_fill_53178 ∈ gw := gt5 (i := 78) (by decide +kernel) rfl
theorem lX10_48 : Cond.methodLink RX10 48 yX10_put ∈ gw := gt5 (i := 79) (by decide +kernel) rfl
theorem lX10_60 : Cond.methodLink RX10 60 yX10_goBack ∈ gw := gt5 (i := 83) (by decide +kernel) rfl
theorem lX10_67 : Cond.methodLink RX10 67 yX1_leadsTo ∈ gw := gt5 (i := 87) (by decide +kernel) rfl
theorem lX10_71 : Cond.methodLink RX10 71 yX10_latestAt ∈ gw := gt5 (i := 88) (by decide +kernel) rfl
theorem lX10_84 : Cond.methodLink RX10 84 Lib.Math.min.name ∈ gw := gt5 (i := 92) (by decide +kernel) rfl
theorem lX10_89 : Cond.methodLink RX10 89 yX1_openFrom ∈ gw := gt5 (i := 97) (by decide +kernel) rfl
theorem lX12_113 : Cond.methodLink RX12 113 yX12_four ∈ gw := gt6 (i := 128) (by decide +kernel) rfl
theorem lX12_123 : Cond.methodLink RX12 123 yX12_see ∈ gw := gt6 (i := 148) (by decide +kernel) rfl
theorem lX12_127 : Cond.methodLink RX12 127 yX12_isLetter ∈ gw := gt6 (i := 161) (by decide +kernel) rfl
theorem lX12_131 : Cond.methodLink RX12 131 yX12_isWord ∈ gw := gt6 (i := 157) (by decide +kernel) rfl
theorem lX12_135 : Cond.methodLink RX12 135 yX12_passWord ∈ gw := gt6 (i := 185) (by decide +kernel) rfl
theorem lX12_138 : Cond.methodLink RX12 138 yX12_isDigit ∈ gw := gt6 (i := 193) (by decide +kernel) rfl
theorem lX12_141 : Cond.methodLink RX12 141 yX12_fails ∈ gw := gt6 (i := 173) (by decide +kernel) rfl
theorem lX12_148 : Cond.methodLink RX12 148 yX12_in ∈ gw := gt6 (i := 197) (by decide +kernel) rfl
theorem lX12_180 : Cond.methodLink RX12 180 yX12_strength ∈ gw := gt7 (i := 41) (by decide +kernel) rfl
theorem lX12_184 : Cond.methodLink RX12 184 yX12_puts ∈ gw := gt7 (i := 19) (by decide +kernel) rfl
theorem lX12_189 : Cond.methodLink RX12 189 yX12_numberHere ∈ gw := gt6 (i := 189) (by decide +kernel) rfl
theorem lX12_192 : Cond.methodLink RX12 192 yX12_makes ∈ gw := gt7 (i := 15) (by decide +kernel) rfl
theorem lX12_195 : Cond.methodLink RX12 195 yX12_wordHere ∈ gw := gt7 (i := 23) (by decide +kernel) rfl
theorem lX12_198 : Cond.methodLink RX12 198 yX12_value ∈ gw := gt7 (i := 10) (by decide +kernel) rfl
theorem lX12_202 : Cond.methodLink RX12 202 yX12_term ∈ gw := gt7 (i := 6) (by decide +kernel) rfl
theorem lX12_205 : Cond.methodLink RX12 205 yX12_sum ∈ gw := gt7 (i := 2) (by decide +kernel) rfl
theorem lX12_210 : Cond.methodLink RX12 210 yX12_opens ∈ gw := gt6 (i := 234) (by decide +kernel) rfl
theorem lX12_213 : Cond.methodLink RX12 213 yX12_compare ∈ gw := gt6 (i := 238) (by decide +kernel) rfl
theorem lX12_216 : Cond.methodLink RX12 216 yX12_settles ∈ gw := gt7 (i := 37) (by decide +kernel) rfl
theorem lX12_219 : Cond.methodLink RX12 219 yX12_isInside ∈ gw := gt7 (i := 44) (by decide +kernel) rfl
theorem lX12_222 : Cond.methodLink RX12 222 yX12_fact ∈ gw := gt6 (i := 229) (by decide +kernel) rfl
theorem lX12_225 : Cond.methodLink RX12 225 yX12_closes ∈ gw := gt7 (i := 33) (by decide +kernel) rfl
theorem lX12_234 : Cond.methodLink RX12 234 yX12_takesWord ∈ gw := gt6 (i := 221) (by decide +kernel) rfl
theorem lX12_237 : Cond.methodLink RX12 237 yX12_tested ∈ gw := gt6 (i := 225) (by decide +kernel) rfl
theorem lX12_249 : Cond.methodLink RX12 249 yX12_isRoomHere ∈ gw := gt6 (i := 181) (by decide +kernel) rfl
theorem lX12_256 : Cond.methodLink RX12 256 yX12_isWayHere ∈ gw := gt6 (i := 200) (by decide +kernel) rfl
theorem lX12_262 : Cond.methodLink RX12 262 yX12_isDoorHere ∈ gw := gt6 (i := 204) (by decide +kernel) rfl
theorem lX12_267 : Cond.methodLink RX12 267 yX12_isHoistHere ∈ gw := gt6 (i := 208) (by decide +kernel) rfl
theorem lX12_270 : Cond.methodLink RX12 270 yX12_isPersonHere ∈ gw := gt6 (i := 212) (by decide +kernel) rfl
theorem lX12_273 : Cond.methodLink RX12 273 yX12_isHouseWord ∈ gw := gt6 (i := 152) (by decide +kernel) rfl
theorem lX12_285 : Cond.methodLink RX12 285 yX12_houseLineHere ∈ gw := gt6 (i := 177) (by decide +kernel) rfl
theorem lX12_288 : Cond.methodLink RX12 288 yX12_isDoingHere ∈ gw := gt6 (i := 216) (by decide +kernel) rfl
theorem lX12_291 : Cond.methodLink RX12 291 yX12_clauseHere ∈ gw := gt6 (i := 144) (by decide +kernel) rfl
theorem lX12_297 : Cond.methodLink RX12 297 yX12_readsAll ∈ gw := gt6 (i := 140) (by decide +kernel) rfl
theorem lX12_300 : Cond.methodLink RX12 300 yX12_begins ∈ gw := gt7 (i := 54) (by decide +kernel) rfl
theorem lX12_306 : Cond.methodLink RX12 306 yX12_push ∈ gw := gt7 (i := 161) (by decide +kernel) rfl
theorem lX12_310 : Cond.methodLink RX12 310 yX12_pop ∈ gw := gt7 (i := 165) (by decide +kernel) rfl
theorem lX12_314 : Cond.methodLink RX12 314 yX12_one ∈ gw := gt7 (i := 169) (by decide +kernel) rfl
theorem lX12_318 : Cond.methodLink RX12 318 yX12_personOf ∈ gw := gt7 (i := 71) (by decide +kernel) rfl
theorem lX12_322 : Cond.methodLink RX12 322 yX12_wayOf ∈ gw := gt7 (i := 88) (by decide +kernel) rfl
theorem lX12_325 : Cond.methodLink RX12 325 yX12_isRoom ∈ gw := gt7 (i := 62) (by decide +kernel) rfl
theorem lX12_330 : Cond.methodLink RX12 330 yX12_inRoom ∈ gw := gt7 (i := 67) (by decide +kernel) rfl
theorem lX12_333 : Cond.methodLink RX12 333 yX12_topRoom ∈ gw := gt7 (i := 75) (by decide +kernel) rfl
theorem lX12_336 : Cond.methodLink RX12 336 yX12_isWay ∈ gw := gt7 (i := 83) (by decide +kernel) rfl
theorem lX12_341 : Cond.methodLink RX12 341 yX12_isPerson ∈ gw := gt7 (i := 96) (by decide +kernel) rfl
theorem lX12_346 : Cond.methodLink RX12 346 yX12_ridden ∈ gw := gt7 (i := 101) (by decide +kernel) rfl
theorem lX12_349 : Cond.methodLink RX12 349 yX12_endOf ∈ gw := gt7 (i := 125) (by decide +kernel) rfl
theorem lX12_352 : Cond.methodLink RX12 352 yX12_isOpen ∈ gw := gt7 (i := 129) (by decide +kernel) rfl
theorem lX12_355 : Cond.methodLink RX12 355 yX12_setsOff ∈ gw := gt7 (i := 117) (by decide +kernel) rfl
theorem lX12_359 : Cond.methodLink RX12 359 yX12_riding ∈ gw := gt7 (i := 113) (by decide +kernel) rfl
theorem lX12_362 : Cond.methodLink RX12 362 yX12_ridesUp ∈ gw := gt7 (i := 109) (by decide +kernel) rfl
theorem lX12_365 : Cond.methodLink RX12 365 yX12_takes ∈ gw := gt7 (i := 121) (by decide +kernel) rfl
theorem lX12_368 : Cond.methodLink RX12 368 yX12_bits ∈ gw := gt7 (i := 154) (by decide +kernel) rfl
theorem lX12_371 : Cond.methodLink RX12 371 yX12_words ∈ gw := gt7 (i := 150) (by decide +kernel) rfl
theorem lX12_374 : Cond.methodLink RX12 374 yX12_reckons ∈ gw := gt7 (i := 157) (by decide +kernel) rfl
theorem lX12_378 : Cond.methodLink RX12 378 yX12_does ∈ gw := gt7 (i := 146) (by decide +kernel) rfl
theorem lX12_381 : Cond.methodLink RX12 381 yX12_isRule ∈ gw := gt7 (i := 137) (by decide +kernel) rfl
theorem lX12_386 : Cond.methodLink RX12 386 yX12_minute ∈ gw := gt7 (i := 142) (by decide +kernel) rfl
theorem lX12_389 : Cond.methodLink RX12 389 yX12_keeps ∈ gw := gt7 (i := 176) (by decide +kernel) rfl
theorem lX12_392 : Cond.methodLink RX12 392 yX12_atHome ∈ gw := gt7 (i := 180) (by decide +kernel) rfl
theorem lX12_395 : Cond.methodLink RX12 395 yX12_onTheWay ∈ gw := gt7 (i := 184) (by decide +kernel) rfl
theorem lX12_398 : Cond.methodLink RX12 398 yX12_haveRidden ∈ gw := gt7 (i := 188) (by decide +kernel) rfl
theorem lX12_401 : Cond.methodLink RX12 401 yX12_putsBack ∈ gw := gt7 (i := 192) (by decide +kernel) rfl
theorem lX12_404 : Cond.methodLink RX12 404 yX12_later ∈ gw := gt7 (i := 215) (by decide +kernel) rfl
theorem lX12_407 : Cond.methodLink RX12 407 yX12_nearest ∈ gw := gt7 (i := 207) (by decide +kernel) rfl
theorem lX12_410 : Cond.methodLink RX12 410 yX12_opens_ ∈ gw := gt7 (i := 211) (by decide +kernel) rfl
theorem lX12_412 : Cond.methodLink RX12 412 yX12_comesTo ∈ gw := gt7 (i := 218) (by decide +kernel) rfl
theorem lX12_415 : Cond.methodLink RX12 415 yX12_isMinute ∈ gw := gt7 (i := 200) (by decide +kernel) rfl
theorem lX12_418 : Cond.methodLink RX12 418 yX12_spreads ∈ gw := gt7 (i := 203) (by decide +kernel) rfl
theorem lX12_422 : Cond.methodLink RX12 422 yX12_soonestTo ∈ gw := gt7 (i := 222) (by decide +kernel) rfl
theorem lX12_426 : Cond.methodLink RX12 426 yX12_descends ∈ gw := gt7 (i := 234) (by decide +kernel) rfl
theorem lX12_433 : Cond.methodLink RX12 433 yX12_isOf ∈ gw := gt8 (i := 13) (by decide +kernel) rfl
theorem lX12_436 : Cond.methodLink RX12 436 yX12_errandOf ∈ gw := gt8 (i := 16) (by decide +kernel) rfl
theorem lX12_439 : Cond.methodLink RX12 439 yX12_doesNext ∈ gw := gt8 (i := 9) (by decide +kernel) rfl
theorem lX12_442 : Cond.methodLink RX12 442 yX12_soonestDone ∈ gw := gt8 (i := 20) (by decide +kernel) rfl
theorem lX12_445 : Cond.methodLink RX12 445 yX12_worthOf ∈ gw := gt8 (i := 24) (by decide +kernel) rfl
theorem lX12_451 : Cond.methodLink RX12 451 yX12_wayBy ∈ gw := gt8 (i := 40) (by decide +kernel) rfl
theorem lX12_455 : Cond.methodLink RX12 455 yX12_travels ∈ gw := gt8 (i := 36) (by decide +kernel) rfl
theorem lX12_459 : Cond.methodLink RX12 459 yX12_goesTrip ∈ gw := gt8 (i := 48) (by decide +kernel) rfl
theorem lX12_462 : Cond.methodLink RX12 462 yX12_carries ∈ gw := gt8 (i := 56) (by decide +kernel) rfl
theorem lX12_467 : Cond.methodLink RX12 467 yX12_nextRider ∈ gw := gt8 (i := 69) (by decide +kernel) rfl
theorem lX12_470 : Cond.methodLink RX12 470 yX12_ridesIn ∈ gw := gt8 (i := 73) (by decide +kernel) rfl
theorem lX12_475 : Cond.methodLink RX12 475 yX12_isOrder ∈ gw := gt8 (i := 86) (by decide +kernel) rfl
theorem lX12_478 : Cond.methodLink RX12 478 yX12_goDown ∈ gw := gt8 (i := 90) (by decide +kernel) rfl
theorem lX12_481 : Cond.methodLink RX12 481 yX12_comesHome ∈ gw := gt8 (i := 98) (by decide +kernel) rfl
theorem lX12_484 : Cond.methodLink RX12 484 yX12_twos ∈ gw := gt8 (i := 106) (by decide +kernel) rfl
theorem lJ7_13 : Cond.methodLink RJ7 13 yJ7_rangeCheck_23922 ∈ gw := gt5 (i := 36) (by decide +kernel) rfl
theorem wmax2 : Cond.static Lib.Math.max.name ∈ gw := gt4 (i := 86) (by decide +kernel) rfl
theorem wmax4 : Cond.code Lib.Math.max.name Lib.Math.max.code 2 (some .int) ∈ gw := gt4 (i := 87) (by decide +kernel) rfl
theorem wmin2 : Cond.static Lib.Math.min.name ∈ gw := gt3 (i := 110) (by decide +kernel) rfl
theorem wmin4 : Cond.code Lib.Math.min.name Lib.Math.min.code 2 (some .int) ∈ gw := gt3 (i := 111) (by decide +kernel) rfl
theorem wmath : Cond.initialized "java/lang/Math" ∈ gw := gt1 (i := 15) (by decide +kernel) rfl
theorem wac2 : Cond.native arraycopyName ∈ gw := gt3 (i := 114) (by decide +kernel) rfl
theorem wac3 : Cond.static arraycopyName ∈ gw := gt3 (i := 113) (by decide +kernel) rfl
theorem wac4 : Cond.initialized "java/lang/System" ∈ gw := gt1 (i := 16) (by decide +kernel) rfl
theorem nX0_31 : Cond.methodLinkNest RX0 31 yX11_copyRow "DownOnly" ∈ nw := List.mem_filter.mpr ⟨List.mem_of_getElem? (i := 599) (by decide +kernel), rfl⟩
theorem nX1_58 : Cond.methodLinkNest RX1 58 yX11_copyRow "DownOnly" ∈ nw := List.mem_filter.mpr ⟨List.mem_of_getElem? (i := 586) (by decide +kernel), rfl⟩
theorem nX3_61 : Cond.methodLinkNest RX3 61 yX11_copyRow "DownOnly" ∈ nw := List.mem_filter.mpr ⟨List.mem_of_getElem? (i := 1170) (by decide +kernel), rfl⟩
theorem kX11_263 : Cond.constant RX11 263 (1000000) ∈ gw := gt5 (i := 60) (by decide +kernel) rfl
theorem kX1_83 : Cond.constant RX1 83 (1000000) ∈ gw := gt4 (i := 222) (by decide +kernel) rfl
theorem kX4_40 : Cond.constant RX4 40 (1000000) ∈ gw := gt5 (i := 32) (by decide +kernel) rfl
theorem kX5_15 : Cond.constant RX5 15 (1000000) ∈ gw := gt4 (i := 168) (by decide +kernel) rfl
theorem kX7_137 : Cond.constant RX7 137 (99999) ∈ gw := gt3 (i := 239) (by decide +kernel) rfl
theorem kX12_188 : Cond.constant RX12 188 (99999) ∈ gw := gt7 (i := 14) (by decide +kernel) rfl
theorem kX12_425 : Cond.constant RX12 425 (1000000) ∈ gw := gt7 (i := 238) (by decide +kernel) rfl
theorem kJ6_265 : Cond.constant RJ6 265 (1431655765) ∈ gw := gt4 (i := 128) (by decide +kernel) rfl
theorem kJ6_266 : Cond.constant RJ6 266 (858993459) ∈ gw := gt4 (i := 129) (by decide +kernel) rfl
theorem kJ6_267 : Cond.constant RJ6 267 (252645135) ∈ gw := gt4 (i := 130) (by decide +kernel) rfl
theorem kX0_53 : Cond.constantLong RX0 53 (1103515245) ∈ gw := gt5 (i := 189) (by decide +kernel) rfl
theorem kX0_55 : Cond.constantLong RX0 55 (12345) ∈ gw := gt5 (i := 190) (by decide +kernel) rfl
theorem kX0_57 : Cond.constantLong RX0 57 (2147483648) ∈ gw := gt5 (i := 191) (by decide +kernel) rfl
theorem kX0_62 : Cond.constantLong RX0 62 (65536) ∈ gw := gt5 (i := 192) (by decide +kernel) rfl
theorem kX12_152 : Cond.constantLong RX12 152 (7237495) ∈ gw := gt7 (i := 27) (by decide +kernel) rfl
theorem kX12_154 : Cond.constantLong RX12 154 (123581014175598) ∈ gw := gt6 (i := 169) (by decide +kernel) rfl
theorem kX12_156 : Cond.constantLong RX12 156 (1919905645) ∈ gw := gt6 (i := 156) (by decide +kernel) rfl
theorem kX12_158 : Cond.constantLong RX12 158 (114784769370228) ∈ gw := gt7 (i := 28) (by decide +kernel) rfl
theorem kX12_160 : Cond.constantLong RX12 160 (1751478885) ∈ gw := gt7 (i := 29) (by decide +kernel) rfl
theorem kX12_162 : Cond.constantLong RX12 162 (1919902821) ∈ gw := gt7 (i := 30) (by decide +kernel) rfl
theorem kX12_164 : Cond.constantLong RX12 164 (1752132965) ∈ gw := gt7 (i := 31) (by decide +kernel) rfl
theorem kX12_166 : Cond.constantLong RX12 166 (7630704) ∈ gw := gt7 (i := 32) (by decide +kernel) rfl
theorem kX12_208 : Cond.constantLong RX12 208 (7237492) ∈ gw := gt6 (i := 233) (by decide +kernel) rfl
theorem kX12_228 : Cond.constantLong RX12 228 (6385252) ∈ gw := gt7 (i := 48) (by decide +kernel) rfl
theorem kX12_230 : Cond.constantLong RX12 230 (28530) ∈ gw := gt7 (i := 49) (by decide +kernel) rfl
theorem kX12_232 : Cond.constantLong RX12 232 (26982) ∈ gw := gt6 (i := 220) (by decide +kernel) rfl
theorem kX12_252 : Cond.constantLong RX12 252 (112615810885748) ∈ gw := gt6 (i := 165) (by decide +kernel) rfl
theorem kX12_254 : Cond.constantLong RX12 254 (31632345876490085) ∈ gw := gt6 (i := 166) (by decide +kernel) rfl
theorem kX12_260 : Cond.constantLong RX12 260 (1685024626) ∈ gw := gt6 (i := 167) (by decide +kernel) rfl
theorem kX12_265 : Cond.constantLong RX12 265 (448545780596) ∈ gw := gt6 (i := 168) (by decide +kernel) rfl
theorem kX12_276 : Cond.constantLong RX12 276 (1952541541) ∈ gw := gt6 (i := 170) (by decide +kernel) rfl
theorem kX12_278 : Cond.constantLong RX12 278 (1919509605) ∈ gw := gt6 (i := 171) (by decide +kernel) rfl
theorem kX12_280 : Cond.constantLong RX12 280 (2002872692) ∈ gw := gt6 (i := 172) (by decide +kernel) rfl
theorem kX12_328 : Cond.constantLong RX12 328 (2) ∈ gw := gt7 (i := 66) (by decide +kernel) rfl
theorem kX12_339 : Cond.constantLong RX12 339 (5) ∈ gw := gt7 (i := 87) (by decide +kernel) rfl
theorem kX12_344 : Cond.constantLong RX12 344 (4) ∈ gw := gt7 (i := 100) (by decide +kernel) rfl
theorem kX12_384 : Cond.constantLong RX12 384 (1440) ∈ gw := gt7 (i := 141) (by decide +kernel) rfl
theorem kX12_429 : Cond.constantLong RX12 429 (1439) ∈ gw := gt8 (i := 3) (by decide +kernel) rfl
theorem kX12_431 : Cond.constantLong RX12 431 (99) ∈ gw := gt8 (i := 4) (by decide +kernel) rfl
theorem kX12_465 : Cond.constantLong RX12 465 (20) ∈ gw := gt8 (i := 68) (by decide +kernel) rfl
theorem kX12_473 : Cond.constantLong RX12 473 (6) ∈ gw := gt8 (i := 85) (by decide +kernel) rfl
theorem kX12_487 : Cond.constantLong RX12 487 (1103515245) ∈ gw := gt8 (i := 118) (by decide +kernel) rfl
theorem kX12_489 : Cond.constantLong RX12 489 (12345) ∈ gw := gt8 (i := 119) (by decide +kernel) rfl
theorem kX12_491 : Cond.constantLong RX12 491 (2147483648) ∈ gw := gt8 (i := 120) (by decide +kernel) rfl
theorem kX12_493 : Cond.constantLong RX12 493 (65536) ∈ gw := gt8 (i := 121) (by decide +kernel) rfl
theorem kX12_495 : Cond.constantLong RX12 495 (3) ∈ gw := gt8 (i := 130) (by decide +kernel) rfl
