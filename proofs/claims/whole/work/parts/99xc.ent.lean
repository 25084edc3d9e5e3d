/-! ===== the words of the law's own makings ===== -/
theorem eC_11 : Cond.classLink RL 7 RX11 ∈ gw := gt1 (i := 22) (by decide +kernel) rfl
theorem eI_11 : Cond.instantiable RX11 17 ∈ gw := gt1 (i := 23) (by decide +kernel) rfl
theorem eN_11 : Cond.initialized RX11 ∈ gw := gt1 (i := 1) (by decide +kernel) rfl
theorem eL_11 : Cond.methodLink RL 9 yX11_init ∈ gw := gt1 (i := 24) (by decide +kernel) rfl
theorem eM_11 : Cond.instanceMethod yX11_init ∈ gw := gt1 (i := 25) (by decide +kernel) rfl
theorem eO_11 : Cond.code yX11_init cX11_init 1 none ∈ gw := gt1 (i := 26) (by decide +kernel) rfl
def eF_11 : List Value := [.null, .null, .null, .int 0, .null, .null, .null, .null, .null, .null, .null, .null, .null, .null, .null, .null, .null]
theorem eD_11 : ∀ j, j < eF_11.length → defaultValue (tyX11 j) = vp_V eF_11 j := fun j hj => by have hj : j < 17 := hj; rcases (show j = 0 ∨ j = 1 ∨ j = 2 ∨ j = 3 ∨ j = 4 ∨ j = 5 ∨ j = 6 ∨ j = 7 ∨ j = 8 ∨ j = 9 ∨ j = 10 ∨ j = 11 ∨ j = 12 ∨ j = 13 ∨ j = 14 ∨ j = 15 ∨ j = 16 by omega) with rfl|rfl|rfl|rfl|rfl|rfl|rfl|rfl|rfl|rfl|rfl|rfl|rfl|rfl|rfl|rfl|rfl <;> rfl
theorem eC_12 : Cond.classLink RL 10 RX12 ∈ gw := gt5 (i := 215) (by decide +kernel) rfl
theorem eI_12 : Cond.instantiable RX12 47 ∈ gw := gt5 (i := 216) (by decide +kernel) rfl
theorem eN_12 : Cond.initialized RX12 ∈ gw := gt1 (i := 9) (by decide +kernel) rfl
theorem eL_12 : Cond.methodLink RL 12 yX12_init ∈ gw := gt5 (i := 217) (by decide +kernel) rfl
theorem eM_12 : Cond.instanceMethod yX12_init ∈ gw := gt5 (i := 218) (by decide +kernel) rfl
theorem eO_12 : Cond.code yX12_init cX12_init 1 none ∈ gw := gt5 (i := 219) (by decide +kernel) rfl
def eF_12 : List Value := [.null, .int 0, .int 0, .null, .null, .null, .null, .int 0, .int 0, .int 0, .null, .null, .null, .null, .int 0, .int 0, .int 0, .int 0, .int 0, .int 0, .int 0, .null, .int 0, .null, .int 0, .null, .null, .null, .null, .null, .null, .null, .null, .null, .null, .null, .null, .null, .null, .int 0, .null, .null, .null, .null, .null, .null, .null]
theorem eD_12 : ∀ j, j < eF_12.length → defaultValue (tyX12 j) = vp_V eF_12 j := fun j hj => by have hj : j < 47 := hj; rcases (show j = 0 ∨ j = 1 ∨ j = 2 ∨ j = 3 ∨ j = 4 ∨ j = 5 ∨ j = 6 ∨ j = 7 ∨ j = 8 ∨ j = 9 ∨ j = 10 ∨ j = 11 ∨ j = 12 ∨ j = 13 ∨ j = 14 ∨ j = 15 ∨ j = 16 ∨ j = 17 ∨ j = 18 ∨ j = 19 ∨ j = 20 ∨ j = 21 ∨ j = 22 ∨ j = 23 ∨ j = 24 ∨ j = 25 ∨ j = 26 ∨ j = 27 ∨ j = 28 ∨ j = 29 ∨ j = 30 ∨ j = 31 ∨ j = 32 ∨ j = 33 ∨ j = 34 ∨ j = 35 ∨ j = 36 ∨ j = 37 ∨ j = 38 ∨ j = 39 ∨ j = 40 ∨ j = 41 ∨ j = 42 ∨ j = 43 ∨ j = 44 ∨ j = 45 ∨ j = 46 by omega) with rfl|rfl|rfl|rfl|rfl|rfl|rfl|rfl|rfl|rfl|rfl|rfl|rfl|rfl|rfl|rfl|rfl|rfl|rfl|rfl|rfl|rfl|rfl|rfl|rfl|rfl|rfl|rfl|rfl|rfl|rfl|rfl|rfl|rfl|rfl|rfl|rfl|rfl|rfl|rfl|rfl|rfl|rfl|rfl|rfl|rfl|rfl <;> rfl
