/-! ===== the law's loop ===== -/
section LWL
variable {K : Kx} {L : Nat} {xs : Nat → Int32} {F : State → Prop}
theorem law_loop (fin : ∀ (G : Gx) (M : Mem) (cs sl i : Nat), cs ≤ 600000 → sl ≤ 7302250 → CX G K mL (room_1, aN K, cs, sl) 1270 (LO i) [] M F) : ∀ (t : Nat) (G : Gx) (M : Mem) (cs sl i : Nat), L ≤ i + 7 * t → i ≤ L → Lst K L xs G M cs sl t → CX G K mL (room_1, aN K, cs, sl) 18 (LO i) [] M F := by
  intro t
  induction t with
  | zero =>
    intro G M cs sl i h1 h2 h
    have S := h.2.2.1
    have b1 := h.2.2.2.1
    have b2 := h.2.2.2.2
    have b3 := S.2.2
    refine xr_iload_n (x := (i : Int)) dL_law_18 rfl ?_
    refine xr_aload_n (x := some (2000, 1)) dL_law_19 rfl ?_
    refine xl_len S dL_law_20 ?_
    refine xr_bipush dL_law_21 (by decide) (by decide) ?_
    refine xr_isub dL_law_23 ?_
    have e : wr ((L : Int) - 7) = (L : Int) - 7 := wr_id (by constructor <;> omega)
    rw [e]
    exact xr_icmp_gt (tgt := 1270) dL_law_24 (by decide) (fun _ => fin G M cs sl i (by omega) (by omega)) (fun z => absurd (by omega) z)
  | succ t ih =>
    intro G M cs sl i h1 h2 h
    have S := h.2.2.1
    have b1 := h.2.2.2.1
    have b2 := h.2.2.2.2
    have b3 := S.2.2
    refine xr_iload_n (x := (i : Int)) dL_law_18 rfl ?_
    refine xr_aload_n (x := some (2000, 1)) dL_law_19 rfl ?_
    refine xl_len S dL_law_20 ?_
    refine xr_bipush dL_law_21 (by decide) (by decide) ?_
    refine xr_isub dL_law_23 ?_
    have e : wr ((L : Int) - 7) = (L : Int) - 7 := wr_id (by constructor <;> omega)
    rw [e]
    refine xr_icmp_gt (tgt := 1270) dL_law_24 (by decide) (fun _ => fin G M cs sl i (by omega) (by omega)) (fun z => ?_)
    have hi : i + 7 ≤ L := by omega
    have nx : Nxt K L xs i t F := by
      intro G' M' cs' sl' h'
      have ei : wr ((i : Int) + 7) = ((i + 7 : Nat) : Int) := by rw [wr_id (by constructor <;> omega)]; omega
      refine xr_iinc (x := (i : Int)) (lo' := LO (i + 7)) dL_law_1264 rfl (by decide) (by rw [ei]; rfl) ?_
      refine xr_goto (tgt := 18) dL_law_1267 (by decide) ?_
      exact ih G' M' cs' sl' (i + 7) (by omega) (by omega) h'
    refine xr_aload_n (x := some (2000, 1)) dL_law_27 rfl ?_
    refine xr_iload_n (x := (i : Int)) dL_law_28 rfl ?_
    refine xl_ald S dL_law_29 ⟨by omega, by omega⟩ ?_
    refine xr_bipush dL_law_30 (by decide) (by decide) ?_
    refine xr_iand dL_law_32 ?_
    refine xr_tsw (td := 1264) (tg := [168, 231, 254, 267, 280, 313, 346, 379, 412, 445, 478, 547, 606, 649, 702, 771, 862, 905, 938, 981, 1004, 1027, 1060, 1093, 1106, 1129, 1152, 1195, 1218, 1241]) dL_law_33 (by decide) (by decide) (by decide) (fun _ => nx G M cs sl (Lst_same h h.1)) (fun j q hj _ => law_case h hi nx j q hj)
end LWL
