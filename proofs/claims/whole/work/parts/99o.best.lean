/-! ===== the class's best: a planner is made once ===== -/
section BES
variable {G : Gx} {M : Mem} {n mc ms : Nat} {s : Int → Int}
def PlN (G : Gx) (M : Mem) (G1 : Gx) (M1 : Mem) : Prop := Gr G G1 ∧ ((M1 = M ∧ G1 = G ∧ M 1 10 0 ≠ 0) ∨ (M 1 10 0 = 0 ∧ gL G1 = gL G ++ [12, 13] ∧ M1 = mset (MN M [12, 13]) 1 10 0 1))
theorem PlN_eq {G1 : Gx} {M1 : Mem} (h : PlN G M G1 M1) {o : Nat} (h1 : o ≠ 1) (h2 : o ≠ 12) (h3 : o ≠ 13) : M1 o = M o := by
  rcases h.2 with ⟨rfl, -⟩ | ⟨-, -, rfl⟩
  · rfl
  · funext k i
    rw [mset_ne (by omega), MN_out (by simp; omega)]
theorem PlN_ne {G1 : Gx} {M1 : Mem} (h : PlN G M G1 M1) : M1 1 10 0 ≠ 0 := by
  rcases h.2 with ⟨rfl, -, h⟩ | ⟨-, -, rfl⟩
  · exact h
  · rw [mset_self]; decide
theorem c11_best {x1 x2 x3 x4 : Int} {Q : Gx → Int → Mem → Prop} (hE : NoR G M) (h12 : M 1 10 0 = 0 → 12 ∉ gL G ∧ 13 ∉ gL G) (hcs : M 1 10 0 = 0 → (0 ≤ x1 ∧ x1 < s 0 ∧ 0 ≤ x2 ∧ x2 ≤ 1439 ∧ 0 ≤ x4 ∧ x4 ≤ 2) → 4 ≤ mc ∧ 20518 ≤ ms) (H : HR (M 4) s) (K : HOK s) (L : LR (M 6) s) (LO : LOK s)
    (no : ¬ (0 ≤ x1 ∧ x1 < s 0 ∧ 0 ≤ x2 ∧ x2 ≤ 1439 ∧ 0 ≤ x4 ∧ x4 ≤ 2) → Q G (-1) M)
    (yes : 0 ≤ x1 → x1 < s 0 → 0 ≤ x2 → x2 ≤ 1439 → 0 ≤ x4 → x4 ≤ 2 → ∀ (G1 : Gx) (M1 M' : Mem) (b : Nat × Int), PlN G M G1 M1 → b = bw s (src1 x1 (if x3 = 0 then 1 else 0) x2) x2 (2 ^ (s 7).toNat) → EqX plF M1 M' → (x4 = 0 → Q G1 (wS s b.1 (s 7).toNat) M') ∧ (x4 = 1 → Q G1 (b.1 : Int) M') ∧ (x4 = 2 → Q G1 b.2 M')) :
    OkN G (n + 6) mX11_best [vO 1, vI x1, vI x2, vI x3, vI x4] M mc ms Q := by
  refine OkN_of (md := mX11_best) (by decide) (Nat.le_of_ble_eq_true rfl) rfl (fun Kx sz hsz => ?_)
  have hA : AZ G Kx (Az G sz) := Az_AZ hsz
  have from40 : ∀ (G1 : Gx) (M1 : Mem) (cs sl : Nat), 0 ≤ x1 → x1 < s 0 → 0 ≤ x2 → x2 ≤ 1439 → 0 ≤ x4 → x4 ≤ 2 → PlN G M G1 M1 → AZ G1 Kx (Az G sz) → cs ≤ mc → sl ≤ ms → CX G1 Kx mX11_best ({ frames := n + 6, cells := mc, slots := ms, locals := 120 * (n + 6) }, Az G sz, cs, sl) 40 [some (vO 1), some (vI x1), some (vI x2), some (vI x3), some (vI x4)] [] M1 (MQ (kb Kx) (QmN G sz Q) (ka Kx) (ks Kx) mc ms (Az G sz)) := by
    intro G1 M1 cs sl a1 a2 a3 a4 a5 a6 hN hA1 hcs hsl
    have hne := PlN_ne hN
    refine xr_aload_n (x := some (1, 99)) dX11_best_40 rfl ?_
    refine xr_getN (o' := 12) dX11_best_41 fX11_243 rfl tX11_10 rfl ?_
    rw [if_neg hne]
    refine xr_aload_n (x := some (1, 99)) dX11_best_44 rfl ?_
    refine xr_getO (o' := 3) dX11_best_45 fX11_32 rfl tX11_4 rfl ?_
    refine xr_iload_n (x := x1) dX11_best_48 rfl ?_
    refine xr_iload_n (x := x2) dX11_best_49 rfl ?_
    refine xr_iload_n (x := x3) dX11_best_50 rfl ?_
    refine xr_callV (n := n + 4) (md' := mX4_plan) (o := 12) (as := [vO 3, vI x1, vI x2, vI x3]) hA1.1 hA1.2.2 ⟨by show n + 4 + 1 ≤ n + 6; omega, by show 119 + 120 * (n + 4) ≤ 120 * (n + 6); omega, hcs, hsl⟩ dX11_best_51 lX11_250 iX4_plan rfl rfl rfl (Nat.le_of_ble_eq_true rfl) (c4_plan (s := s) (Q := fun M' => EqX plF M1 M' ∧ M' 12 2 0 = wS s (bw s (src1 x1 (if x3 = 0 then 1 else 0) x2) x2 (2 ^ (s 7).toNat)).1 (s 7).toNat ∧ M' 12 3 0 = ((bw s (src1 x1 (if x3 = 0 then 1 else 0) x2) x2 (2 ^ (s 7).toNat)).1 : Int) ∧ M' 12 4 0 = (bw s (src1 x1 (if x3 = 0 then 1 else 0) x2) x2 (2 ^ (s 7).toNat)).2) (by rw [PlN_eq hN (by decide) (by decide) (by decide)]; exact H) K (by rw [PlN_eq hN (by decide) (by decide) (by decide)]; exact L) LO a1 a2 a3 a4 (fun M' e1 e2 e3 e4 => ⟨e1, e2, e3, e4⟩)) (fun r_1 M' T => ?_)
    obtain ⟨rfl, e1, e2, e3, e4⟩ := T
    have Y := yes a1 a2 a3 a4 a5 a6 G1 M1 M' _ hN rfl e1
    generalize bw s (src1 x1 (if x3 = 0 then 1 else 0) x2) x2 (2 ^ (s 7).toNat) = b at e2 e3 e4 Y
    have hne' : M' 1 10 0 ≠ 0 := by rw [e1 1 10 0 (by decide)]; exact hne
    refine xr_iload (x := x4) dX11_best_54 rfl ?_
    refine xr_if_ne (tgt := 67) dX11_best_56 (by decide) (fun h => ?_) (fun h => ?_)
    · refine xr_iload (x := x4) dX11_best_67 rfl ?_
      refine xr_iconst dX11_best_69 (by decide) ?_
      refine xr_icmp_ne (tgt := 83) dX11_best_70 (by decide) (fun h' => ?_) (fun h' => ?_)
      · refine xr_aload_n (x := some (1, 99)) dX11_best_83 rfl ?_
        refine xr_getN (o' := 12) dX11_best_84 fX11_243 rfl tX11_10 rfl ?_
        rw [if_neg hne']
        refine xr_getI dX11_best_87 fX11_260 rfl tX4_4 ?_
        rw [e4]
        exact xr_retN dX11_best_90 rfl hN.1 hA1 hcs hsl (Y.2.2 (by omega))
      · refine xr_aload_n (x := some (1, 99)) dX11_best_73 rfl ?_
        refine xr_getN (o' := 12) dX11_best_74 fX11_243 rfl tX11_10 rfl ?_
        rw [if_neg hne']
        refine xr_getI dX11_best_77 fX11_257 rfl tX4_3 ?_
        rw [e3]
        refine xr_goto (tgt := 90) dX11_best_80 (by decide) ?_
        exact xr_retN dX11_best_90 rfl hN.1 hA1 hcs hsl (Y.2.1 h')
    · refine xr_aload_n (x := some (1, 99)) dX11_best_59 rfl ?_
      refine xr_getN (o' := 12) dX11_best_60 fX11_243 rfl tX11_10 rfl ?_
      rw [if_neg hne']
      refine xr_getI dX11_best_63 fX11_254 rfl tX4_2 ?_
      rw [e2]
      exact xr_retN dX11_best_66 rfl hN.1 hA1 hcs hsl (Y.1 h)
  have bad : ¬ (0 ≤ x1 ∧ x1 < s 0 ∧ 0 ≤ x2 ∧ x2 ≤ 1439 ∧ 0 ≤ x4 ∧ x4 ≤ 2) → CX G Kx mX11_best ({ frames := n + 6, cells := mc, slots := ms, locals := 120 * (n + 6) }, Az G sz, 0, 0) 20 [some (vO 1), some (vI x1), some (vI x2), some (vI x3), some (vI x4)] [] M (MQ (kb Kx) (QmN G sz Q) (ka Kx) (ks Kx) mc ms (Az G sz)) := fun z => by
    refine xr_iconst dX11_best_20 (by decide) ?_
    exact xr_retN dX11_best_21 rfl Gr.rf hA (Nat.zero_le _) (Nat.zero_le _) (no z)
  refine xr_aload_n (x := some (1, 99)) dX11_best_0 rfl ?_
  refine xr_iload_n (x := x1) dX11_best_1 rfl ?_
  refine xr_iload_n (x := x2) dX11_best_2 rfl ?_
  refine xr_callV (n := n + 1) (md' := mX11_isStart) (o := 1) (as := [vI x1, vI x2]) hA.1 hA.2.2 ⟨by show n + 1 + 1 ≤ n + 6; omega, by show 119 + 120 * (n + 1) ≤ 120 * (n + 6); omega, Nat.zero_le _, Nat.zero_le _⟩ dX11_best_3 lX11_205 iX11_isStart rfl rfl rfl (Nat.le_of_ble_eq_true rfl) (c11_isStart (Q := fun r M' => M' = M ∧ ((r = 1 ∧ (0 ≤ x1 ∧ x1 < s 0 ∧ 0 ≤ x2 ∧ x2 ≤ 1439)) ∨ (r = 0 ∧ ¬ (0 ≤ x1 ∧ x1 < s 0 ∧ 0 ≤ x2 ∧ x2 ≤ 1439)))) H K (fun a1 a2 a3 a4 => ⟨rfl, Or.inl ⟨rfl, a1, a2, a3, a4⟩⟩) (fun z => ⟨rfl, Or.inr ⟨rfl, z⟩⟩)) (fun r_1 M' T => ?_)
  obtain ⟨r, rfl, rfl, T⟩ := T
  refine xr_if_eq (tgt := 20) dX11_best_6 (by decide) (fun h => bad (fun z => ?_)) (fun h => ?_)
  · rcases T with ⟨h1, _⟩ | ⟨_, h2⟩
    · omega
    · exact h2 ⟨z.1, z.2.1, z.2.2.1, z.2.2.2.1⟩
  have T : 0 ≤ x1 ∧ x1 < s 0 ∧ 0 ≤ x2 ∧ x2 ≤ 1439 := by
    rcases T with ⟨_, h2⟩ | ⟨h1, _⟩
    · exact h2
    · exact absurd h1 h
  obtain ⟨a1, a2, a3, a4⟩ := T
  refine xr_iload (x := x4) dX11_best_9 rfl ?_
  refine xr_if_lt (tgt := 20) dX11_best_11 (by decide) (fun h => bad (by omega)) (fun h5 => ?_)
  refine xr_iload (x := x4) dX11_best_14 rfl ?_
  refine xr_iconst dX11_best_16 (by decide) ?_
  refine xr_icmp_le (tgt := 22) dX11_best_17 (by decide) (fun h6 => ?_) (fun h6 => bad (by omega))
  refine xr_aload_n (x := some (1, 99)) dX11_best_22 rfl ?_
  refine xr_getN (o' := 12) dX11_best_23 fX11_243 rfl tX11_10 rfl ?_
  by_cases h0 : M' 1 10 0 = 0
  · rw [if_pos h0]
    refine xr_ifnonnull (tgt := 40) dX11_best_26 (by decide) (fun c e => by cases e) (fun _ => ?_)
    refine xr_aload_n (x := some (1, 99)) dX11_best_29 rfl ?_
    obtain ⟨c1, c2⟩ := hcs h0 ⟨a1, a2, a3, a4, by omega, h6⟩
    have n12 : ∀ o ∈ [12, 13], o ∉ gL G := fun o ho => by
      rcases List.mem_cons.mp ho with rfl | ho
      · exact (h12 h0).1
      · rw [List.mem_singleton.mp ho]; exact (h12 h0).2
    have b12 : ∀ o ∈ [12, 13], o < 1000 := by decide
    refine xw_new0 (L1 := [12, 13]) (o1 := 12) (mc := 3) (ms := 20513) hA hE dX11_best_30 dX11_best_33 dX11_best_34 hX11_247_249 (fun q z => nX4 (G := G) (a := q) (sz := z)) ⟨rfl, rfl, by show 2 + 1 ≤ n + 6; omega, by show 24 + 300 ≤ 120 * (n + 6); omega⟩ (Nat.le_of_ble_eq_true rfl) (by show 0 + 1 + 3 ≤ mc; omega) (by show 0 + 5 + 20513 ≤ ms; omega) n12 b12 List.mem_cons_self (fun o ho j h7 => ?_) (fun q ws' h => ms_12 q ws' h) (fun π hoff hA1 => ?_)
    · have all : ∀ o ∈ [12, 13], ∀ j, j < 48 → fK (oc o) j = 7 → lk o j ∈ [12, 13] := by decide +kernel
      exact List.mem_append_right _ (all o ho j (fK_7 h7) h7)
    · refine xr_putN hA1.1 dX11_best_37 rfl ?_
      exact from40 _ _ _ _ a1 a2 a3 a4 (by omega) h6 ⟨Gr.mk hoff n12 b12, Or.inr ⟨h0, rfl, rfl⟩⟩ hA1 (by show 0 + 1 + 3 ≤ mc; omega) (by show 0 + 5 + 20513 ≤ ms; omega)
  · rw [if_neg h0]
    refine xr_ifnonnull (tgt := 40) dX11_best_26 (by decide) (fun c e => ?_) (fun e => by cases e)
    exact from40 G M' 0 0 a1 a2 a3 a4 (by omega) h6 ⟨Gr.rf, Or.inl ⟨rfl, rfl, h0⟩⟩ hA (Nat.zero_le _) (Nat.zero_le _)
end BES
