/-! ===== the law: its script, its locals, its words ===== -/
section LWB
variable {G : Gx} {K : Kx} {md : MD} {R : Room} {L cs sl pc i : Nat} {xs : Nat → Int32} {lo : List (Option V)} {st : List V} {M : Mem} {F : State → Prop} {x : Int}
abbrev mL : MD := (yL_law, cL_law, 4, ret)
abbrev aN (K : Kx) : Nat → Prop := fun q => (ks K).heap.size ≤ q
/-- the script lies where it lay -/
def Sc (K : Kx) (G : Gx) (L : Nat) (xs : Nat → Int32) : Prop := va_X (gp G (2000, 1)) L xs (ks K) (ks K).heap ∧ gp G (2000, 1) < (ks K).heap.size ∧ L ≤ 3584
def sc (xs : Nat → Int32) (j : Nat) : Int := (xs j).toInt
abbrev LO (i : Nat) : List (Option V) := [some (vA 2000 1), some (vO 1), some (vO 0), some (vI (i : Int))]
theorem xl_ald {j : Int} (S : Sc K G L xs) (d : decode md.2.1 pc = .ok (.iaload, 1)) (h : 0 ≤ j ∧ j < (L : Int)) (kk : CX G K md (R, aN K, cs, sl) (pc + 1) lo (vI (sc xs j.toNat) :: st) M F) : CX G K md (R, aN K, cs, sl) pc lo (vI j :: vA 2000 1 :: st) M F := by
  intro C hM hs hl H locs ls hP hS hL
  have hs1 := okS_cons.mp hs
  have hs2 := okS_cons.mp hs1.2
  have hi : inI j := hs1.1
  have kk' := kk C hM (okS_cons.mpr ⟨i32_in _, hs2.2⟩) hl H locs ls hP hS hL
  refine va_sld C.1 C.2.1 S.1 S.2.1 (Nat.not_le.mpr S.2.1) hS ((i32_vp hi).mpr h) d ?_
  rw [i32_nat hi, ← i32_of (xs j.toNat)]
  exact kk'
theorem xl_len (S : Sc K G L xs) (d : decode md.2.1 pc = .ok (.arraylength, 1)) (kk : CX G K md (R, aN K, cs, sl) (pc + 1) lo (vI (L : Int) :: st) M F) : CX G K md (R, aN K, cs, sl) pc lo (vA 2000 1 :: st) M F := by
  intro C hM hs hl H locs ls hP hS hL
  have hs1 := okS_cons.mp hs
  have h3 := S.2.2
  have kk' := kk C hM (okS_cons.mpr ⟨⟨by omega, by omega⟩, hs1.2⟩) hl H locs ls hP hS hL
  have e : Int32.ofNat L = Int32.ofInt (L : Int) := by
    apply Int32.toInt_inj.mp
    rw [i32_id ⟨by omega, by omega⟩]
    have := nI_toInt (n := L) (by omega)
    unfold nI at this
    rw [this]
  refine va_slen C.1 C.2.1 S.1 S.2.1 (Nat.not_le.mpr S.2.1) hS d ?_
  rw [e]
  exact kk'
/-- script[i + k] onto the stack -/
theorem xl_arg (k : Nat) {z : Int} (S : Sc K G L xs) (hz : z = (k : Int)) (hk : i + k < L) (hk' : k ≤ 5) (d0 : decode mL.2.1 pc = .ok (.aload_n 0, 1)) (d1 : decode mL.2.1 (pc + 1) = .ok (.iload_n 3, 1)) (d2 : decode mL.2.1 (pc + 2) = .ok (.iconst z, 1)) (d3 : decode mL.2.1 (pc + 3) = .ok (.iadd, 1)) (d4 : decode mL.2.1 (pc + 4) = .ok (.iaload, 1)) (kk : CX G K mL (R, aN K, cs, sl) (pc + 5) (LO i) (vI (sc xs (i + k)) :: st) M F) : CX G K mL (R, aN K, cs, sl) pc (LO i) st M F := by
  have h3 := S.2.2
  refine xr_aload_n (x := some (2000, 1)) d0 rfl ?_
  refine xr_iload_n (x := (i : Int)) d1 rfl ?_
  refine xr_iconst d2 (by omega) ?_
  refine xr_iadd d3 ?_
  have e : wr ((i : Int) + z) = ((i + k : Nat) : Int) := by rw [hz, wr_id (by constructor <;> omega)]; omega
  rw [e]
  refine xl_ald S d4 ⟨by omega, by omega⟩ ?_
  rw [Int.toNat_natCast]
  exact kk
theorem xl_arg6 {z : Int} (S : Sc K G L xs) (hz : z = 6) (hk : i + 6 < L) (d0 : decode mL.2.1 pc = .ok (.aload_n 0, 1)) (d1 : decode mL.2.1 (pc + 1) = .ok (.iload_n 3, 1)) (d2 : decode mL.2.1 (pc + 2) = .ok (.bipush z, 2)) (d3 : decode mL.2.1 (pc + 4) = .ok (.iadd, 1)) (d4 : decode mL.2.1 (pc + 5) = .ok (.iaload, 1)) (kk : CX G K mL (R, aN K, cs, sl) (pc + 6) (LO i) (vI (sc xs (i + 6)) :: st) M F) : CX G K mL (R, aN K, cs, sl) pc (LO i) st M F := by
  have h3 := S.2.2
  subst hz
  refine xr_aload_n (x := some (2000, 1)) d0 rfl ?_
  refine xr_iload_n (x := (i : Int)) d1 rfl ?_
  refine xr_bipush d2 (by omega) (by decide) ?_
  refine xr_iadd d3 ?_
  have e : wr ((i : Int) + 6) = ((i + 6 : Nat) : Int) := by rw [wr_id (by constructor <;> omega)]; omega
  rw [e]
  refine xl_ald S d4 ⟨by omega, by omega⟩ ?_
  rw [Int.toNat_natCast]
  exact kk
def bz (x : Int) : Int := if x = 0 then 0 else 1
theorem xl_bool {Z : Zx} (d0 : decode md.2.1 pc = .ok (.ifCond .eq 7, 3)) (d1 : decode md.2.1 (pc + 3) = .ok (.iconst 1, 1)) (d2 : decode md.2.1 (pc + 4) = .ok (.goto 4, 3)) (d3 : decode md.2.1 (pc + 7) = .ok (.iconst 0, 1)) (kk : CX G K md Z (pc + 8) lo (vI (bz x) :: st) M F) : CX G K md Z pc lo (vI x :: st) M F := by
  refine xr_if_eq (tgt := pc + 7) d0 (by omega) (fun h => ?_) (fun h => ?_)
  · refine xr_iconst d3 (by decide) ?_
    have e : bz x = 0 := if_pos h
    rw [e] at kk
    exact kk
  · refine xr_iconst d1 (by decide) ?_
    refine xr_goto (tgt := pc + 8) d2 (by omega) ?_
    have e : bz x = 1 := if_neg h
    rw [e] at kk
    exact kk
/-- cells and slots that the planner may still cost -/
def pC (G : Gx) : Nat := if 12 ∈ gL G then 0 else 4
def pS (G : Gx) : Nat := if 12 ∈ gL G then 0 else 20518
/-- what holds at the head of the loop, t calls left at most -/
def Lst (K : Kx) (L : Nat) (xs : Nat → Int32) (G : Gx) (M : Mem) (cs sl t : Nat) : Prop := InvG G M ∧ AZ G K (aN K) ∧ Sc K G L xs ∧ cs + 40 * t + pC G ≤ 600000 ∧ sl + 600 * t + pS G ≤ 7302250
theorem Lst_same {t : Nat} {M2 : Mem} (h : Lst K L xs G M cs sl (t + 1)) (I : InvG G M2) : Lst K L xs G M2 cs sl t := ⟨I, h.2.1, h.2.2.1, by have := h.2.2.2.1; omega, by have := h.2.2.2.2; omega⟩
theorem Lst_rm {t : Nat} (h : Lst K L xs G M cs sl t) : RmZ 60 (room_1, aN K, cs, sl) := ⟨by show 60 + 1 ≤ 2048; decide, by show 119 + 120 * 60 ≤ 84000; decide, by show cs ≤ 600000; have := h.2.2.2.1; omega, by show sl ≤ 7302250; have := h.2.2.2.2; omega⟩
theorem pot_le {G1 : Gx} (h : Gr G G1) : pC G1 ≤ pC G ∧ pS G1 ≤ pS G := by
  unfold pC pS
  by_cases q : 12 ∈ gL G
  · rw [if_pos q, if_pos q, if_pos (h.le q), if_pos (h.le q)]; exact ⟨Nat.le_refl _, Nat.le_refl _⟩
  · rw [if_neg q, if_neg q]
    constructor <;> (split <;> omega)
theorem Sc_gr {G1 : Gx} (h : Gr G G1) (S : Sc K G L xs) : Sc K G1 L xs := by
  obtain ⟨π, L1, rfl, a1, a2⟩ := h
  unfold Sc
  show va_X (π (2000, 1)) L xs (ks K) (ks K).heap ∧ π (2000, 1) < (ks K).heap.size ∧ L ≤ 3584
  rw [a2 (2000, 1) (by decide)]
  exact S
theorem Lst_gr {t mc ms : Nat} {G1 : Gx} {M2 : Mem} (h : Lst K L xs G M cs sl (t + 1)) (g : Gr G G1) (hA : AZ G1 K (aN K)) (I : InvG G1 M2) (h1 : mc ≤ 40) (h2 : ms ≤ 600) : Lst K L xs G1 M2 (cs + mc) (sl + ms) t := by
  obtain ⟨p1, p2⟩ := pot_le g
  exact ⟨I, hA, Sc_gr g h.2.2.1, by have := h.2.2.2.1; omega, by have := h.2.2.2.2; omega⟩
/-- the equal answers: on to the loop's end -/
theorem xl_eq {Z : Zx} {off : Int} {r : Int} (d : decode md.2.1 pc = .ok (.if_icmp .eq off, 3)) (ht : (pc : Int) + off = ((1264 : Nat) : Int)) (kk : CX G K md Z 1264 lo [] M F) : CX G K md Z pc lo [vI r, vI r] M F := xr_icmp_eq (tgt := 1264) d ht (fun _ => kk) (fun h => absurd rfl h)
end LWB
