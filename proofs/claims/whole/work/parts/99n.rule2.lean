section RU2
variable {G G1 : Gx} {K : Kx} {md : MD} {R : Room} {A : Nat → Prop} {Z : Zx} {n cs sl mc ms sz pc : Nat} {lo : List (Option V)} {M : Mem} {F : State → Prop} {x : Int} {π : Nat × Nat → Nat} {L2 : List Nat}
theorem okM_drop (hM : okM (gx G π (gL G ++ L2)) M) (hE : NoR G M) (h12 : 12 ∉ L2) : okM G M := by
  intro o k i
  have h := hM o k i
  unfold okC at h ⊢
  split
  · rename_i w; rw [if_pos w] at h; exact h
  rename_i w; rw [if_neg w] at h
  split
  · rename_i w; rw [if_pos w] at h; exact h
  rename_i w; rw [if_neg w] at h
  split
  · rename_i w; rw [if_pos w] at h; exact h
  rename_i w; rw [if_neg w] at h
  split
  · rename_i w; exact fun a b _ => hE o b k i w a
  rename_i w; rw [if_neg w] at h
  split
  · rename_i w; rw [if_pos w] at h
    intro a b
    rcases List.mem_append.mp (h a (List.mem_append_left _ b)) with y | y
    · exact y
    · obtain ⟨e1, e2⟩ := fK_8 w
      rw [oc_11 e1, e2] at y
      exact absurd y h12
  rename_i w; rw [if_neg w] at h
  exact h
/-- the end of a method whose last objects are not kept -/
theorem xr_retD {Q : Gx → Int → Mem → Prop} (d : decode md.2.1 pc = .ok (.ireturn, 1)) (hr : md.2.2.2 = some .int) (hG : Gr G G1) (hA : AZ G1 K (Az G sz)) (hKU : KU G1 (ks K)) (hGO : GOK G1) (hπ : ∀ c ∈ LC (gL G1), π c = gp G1 c) (h12 : 12 ∉ L2) (h1 : cs ≤ mc) (h2 : sl ≤ ms) (hE : NoR G1 M) (T : Q G1 x M) : CX (gx G1 π (gL G1 ++ L2)) K md (R, Az G sz, cs, sl) pc lo [vI x] M (MQ (kb K) (QmN G sz Q) (ka K) (ks K) mc ms (Az G sz)) := by
  refine xr_widen mc ms h1 h2 ?_
  intro C hM hs
  have hx : inI x := hs _ List.mem_cons_self
  refine xr_ret (Qc := QmN G sz Q) (mc := mc) (ms := ms) d hr rfl rfl rfl (fun H locs t C' hM' hP hS ht hW => ?_) C hM hs
  have hMb := okM_drop hM' hE h12
  refine ⟨⟨G1, x, M, hG, hA.1, hGO, rfl, hx, T, hMb, ?_, KU_movedZ (A := Az G sz) (locs := locs) hKU hA.2.2 hW (by rw [ht]; exact hS)⟩, hS.F ht⟩
  rw [ht]
  refine Pic_less (π := π) (L1 := L2) hP (fun c hc => ?_)
  rw [ce_ext (M' := M) hGO hMb hE hπ (fun _ _ _ _ => rfl) hc, hπ c hc]
theorem r_rest {k : Nat} (hk : k ≤ 5) (hZ : ∀ q, gA G q → Z.2.1 q) (hZ' : ∀ q, q < (ks K).heap.size → Z.2.1 q → gA G q) (hR : RmZ n Z)
    (T : OkI G n mX7_readAll [vO (21 + k)] M (fun r M1 => ∀ M2 : Mem, M2 = mset M1 2 1 0 0 → (r = 0 → CX G K mX11_rule Z 94 [some (vO 1), some (vO (21 + k)), some (vI r)] [vI (wr ((-2) - M2 2 7 0))] M2 F) ∧ (¬ r = 0 → ∀ M3 : Mem, M3 = mset M2 1 3 0 (wr (M2 1 3 0 + 1)) → CX G K mX11_rule Z 111 [some (vO 1), some (vO (21 + k)), some (vI r)] [vI (wr (M3 1 3 0 - 1))] M3 F))) : CX G K mX11_rule Z 66 [some (vO 1), none, none] [vO (21 + k)] M F := by
  have ho : oc (21 + k) = 7 := by
    rcases (show k = 0 ∨ k = 1 ∨ k = 2 ∨ k = 3 ∨ k = 4 ∨ k = 5 by omega) with rfl | rfl | rfl | rfl | rfl | rfl <;> rfl
  refine xr_astore_n dX11_rule_66 (by decide) rfl ?_
  refine xr_aload_n (x := some (21 + k, 99)) dX11_rule_67 rfl ?_
  refine xr_callV (md' := mX7_readAll) (as := []) hZ hZ' hR dX11_rule_68 lX11_122 iX7_readAll ho rfl rfl (Nat.le_of_ble_eq_true rfl) T (fun r_1 M1 T => ?_)
  obtain ⟨r, rfl, T⟩ := T
  refine xr_istore_n dX11_rule_71 (by decide) rfl ?_
  refine xr_aload_n (x := some (1, 99)) dX11_rule_72 rfl ?_
  refine xr_getO (o' := 2) dX11_rule_73 fX11_10 rfl tX11_0 rfl ?_
  refine xr_iconst dX11_rule_76 (by decide) ?_
  refine xr_put hZ dX11_rule_77 pX11_83 rfl tX9_1 ?_
  have T := T _ rfl
  generalize mset M1 2 1 0 0 = M2 at T ⊢
  refine xr_iload_n (x := r) dX11_rule_80 rfl ?_
  refine xr_if_ne (tgt := 95) dX11_rule_81 (by decide) (fun h => ?_) (fun h => ?_)
  · refine xr_aload_n (x := some (1, 99)) dX11_rule_95 rfl ?_
    refine xr_dup dX11_rule_96 rfl ?_
    refine xr_getI dX11_rule_97 fX11_113 rfl tX11_3 ?_
    refine xr_iconst dX11_rule_100 (by decide) ?_
    refine xr_iadd dX11_rule_101 ?_
    refine xr_put hZ dX11_rule_102 pX11_113 rfl tX11_3 ?_
    have T := T.2 h _ rfl
    generalize mset M2 1 3 0 (wr (M2 1 3 0 + 1)) = M3 at T ⊢
    refine xr_aload_n (x := some (1, 99)) dX11_rule_105 rfl ?_
    refine xr_getI dX11_rule_106 fX11_113 rfl tX11_3 ?_
    refine xr_iconst dX11_rule_109 (by decide) ?_
    refine xr_isub dX11_rule_110 ?_
    exact T
  · refine xr_bipush dX11_rule_84 (by decide) (by decide) ?_
    refine xr_aload_n (x := some (1, 99)) dX11_rule_86 rfl ?_
    refine xr_getO (o' := 2) dX11_rule_87 fX11_10 rfl tX11_0 rfl ?_
    refine xr_getI dX11_rule_90 fX11_100 rfl tX9_7 ?_
    refine xr_isub dX11_rule_93 ?_
    exact T.1 h
/-- the new rule stands in its place -/
def RuN (G : Gx) (M : Mem) (k : Nat) (G1 : Gx) (M1 : Mem) : Prop := Gr G G1 ∧ NoR G1 M1 ∧ ((M1 = M ∧ G1 = G ∧ M 1 2 k ≠ 0) ∨ (M 1 2 k = 0 ∧ gL G1 = gL G ++ [15 + k] ∧ M1 = mset (MN M [15 + k]) 1 2 k 1))
theorem ms_ru {k : Nat} (hk : k ≤ 5) (a : Nat) (ws : va_W) (h : SX6 G a ws) : ∃ (π : Nat × Nat → Nat) (is : List Nat), (∀ c, c ∉ LC [15 + k] → π c = gp G c) ∧ π (15 + k, 99) = a ∧ va_nd is = true ∧ is.map (fun i => ws[i]?) = ((LC [15 + k]).map (fun c => ((π c, ce (gx G π (gL G ++ [15 + k])) (MN M [15 + k]) c) : Nat × va_E))).map some := by
  rcases (show k = 0 ∨ k = 1 ∨ k = 2 ∨ k = 3 ∨ k = 4 ∨ k = 5 by omega) with rfl | rfl | rfl | rfl | rfl | rfl
  · exact ms_15 a ws h
  · exact ms_16 a ws h
  · exact ms_17 a ws h
  · exact ms_18 a ws h
  · exact ms_19 a ws h
  · exact ms_20 a ws h
theorem c11_rule {Q : Gx → Int → Mem → Prop} (h1 : 1 ∈ gL G) (h2 : 2 ∈ gL G) (hE : NoR G M) (h21 : ∀ k, k ≤ 5 → 21 + k ∉ gL G) (h15 : ∀ k, k ≤ 5 → M 1 2 k = 0 → 15 + k ∉ gL G)
    (hbad : (M 1 3 0 < 0 ∨ 6 ≤ M 1 3 0) → Q G (-1) M)
    (T : ∀ (k : Nat) (G1 : Gx) (M1 : Mem), k ≤ 5 → M 1 3 0 = (k : Int) → RuN G M k G1 M1 → ∀ π : Nat × Nat → Nat, OkI (gx G1 π (gL G1 ++ [21 + k])) n mX7_readAll [vO (21 + k)] (MN M1 [21 + k]) (fun r M2 => ∀ M3 : Mem, M3 = mset M2 2 1 0 0 → (r = 0 → NoR G1 M3 ∧ Q G1 (wr ((-2) - M3 2 7 0)) M3) ∧ (¬ r = 0 → ∀ M4 : Mem, M4 = mset M3 1 3 0 (wr (M3 1 3 0 + 1)) → NoR G1 M4 ∧ Q G1 (wr (M4 1 3 0 - 1)) M4))) : OkN G (n + 3) mX11_rule [vO 1] M 8 524 Q := by
  refine OkN_of (md := mX11_rule) (by decide) (by decide) rfl (fun K sz hsz => ?_)
  have hA : AZ G K (Az G sz) := Az_AZ hsz
  -- from 46 on
  have from46 : ∀ (k : Nat) (G1 : Gx) (M1 : Mem) (cs sl : Nat), k ≤ 5 → M 1 3 0 = (k : Int) → RuN G M k G1 M1 → AZ G1 K (Az G sz) → cs ≤ 7 → sl ≤ 520 → 15 + k ∈ gL G1 → M1 1 3 0 = (k : Int) → M1 1 2 k ≠ 0 → 21 + k ∉ gL G1 → CX G1 K mX11_rule ({ frames := n + 3, cells := 8, slots := 524, locals := 120 * (n + 3) }, Az G sz, cs, sl) 46 [some (vO 1), none, none] [] M1 (MQ (kb K) (QmN G sz Q) (ka K) (ks K) 8 524 (Az G sz)) := by
    intro k G1 M1 cs sl hk hk3 hN hA1 hcs hsl g15 gk3 gk2 g21
    intro C
    have hKU := C.2.2.2.2.2.2.2.1
    have hGO := C.2.2.2.2.2.2.2.2
    refine r_window hk gk3 gk2 hA1 hN.2.1 (hN.1.le h1) (hN.1.le h2) g15 g21 ⟨by show 2 ≤ n + 3; omega, by show 150 ≤ 120 * (n + 3); omega, by show cs + 1 ≤ 8; omega, by show sl + 4 ≤ 524; omega⟩ (fun π hoff hA2 => ?_) C
    have hπ : ∀ c ∈ LC (gL G1), π c = gp G1 c := fun c hc => hoff c (fun e => g21 (by have e1 := List.mem_singleton.mp (lc_live e); rw [← e1]; exact lc_live hc))
    refine r_rest hk hA2.1 hA2.2.2 ⟨by show n + 1 ≤ n + 3; omega, by show 119 + 120 * n ≤ 120 * (n + 3); omega, by show cs + 1 ≤ 8; omega, by show sl + 4 ≤ 524; omega⟩ (OkI_mono (T k G1 M1 hk hk3 hN π) (fun r M2 t M3 m3 => ⟨fun z => ?_, fun z M4 m4 => ?_⟩))
    · have t := (t M3 m3).1 z
      exact xr_retD dX11_rule_94 rfl hN.1 hA1 hKU hGO hπ (by simp; omega) (by omega) (by omega) t.1 t.2
    · have t := (t M3 m3).2 z M4 m4
      exact xr_retD dX11_rule_111 rfl hN.1 hA1 hKU hGO hπ (by simp; omega) (by omega) (by omega) t.1 t.2
  refine xr_aload_n (x := some (1, 99)) dX11_rule_0 rfl ?_
  refine xr_getI dX11_rule_1 fX11_113 rfl tX11_3 ?_
  have bad : (M 1 3 0 < 0 ∨ 6 ≤ M 1 3 0) → CX G K mX11_rule ({ frames := n + 3, cells := 8, slots := 524, locals := 120 * (n + 3) }, Az G sz, 0, 0) 16 [some (vO 1), none, none] [] M (MQ (kb K) (QmN G sz Q) (ka K) (ks K) 8 524 (Az G sz)) := fun z => by
    refine xr_iconst dX11_rule_16 (by decide) ?_
    exact xr_retN dX11_rule_17 rfl Gr.rf hA (by omega) (by omega) (hbad z)
  refine xr_if_lt (tgt := 16) dX11_rule_4 (by decide) (fun h => bad (Or.inl h)) (fun h => ?_)
  refine xr_aload_n (x := some (1, 99)) dX11_rule_7 rfl ?_
  refine xr_getI dX11_rule_8 fX11_113 rfl tX11_3 ?_
  refine xr_bipush dX11_rule_11 (by decide) (by decide) ?_
  refine xr_icmp_lt (tgt := 18) dX11_rule_13 (by decide) (fun h' => ?_) (fun h' => bad (Or.inr (by omega)))
  obtain ⟨k, hk3⟩ : ∃ k : Nat, M 1 3 0 = (k : Int) := ⟨(M 1 3 0).toNat, by omega⟩
  have hk : k ≤ 5 := by omega
  refine xr_aload_n (x := some (1, 99)) dX11_rule_18 rfl ?_
  refine xr_getA dX11_rule_19 fX11_25 rfl rfl ?_
  refine xr_aload_n (x := some (1, 99)) dX11_rule_22 rfl ?_
  refine xr_getI dX11_rule_23 fX11_113 rfl tX11_3 ?_
  rw [hk3]
  refine xs_aald (N := 6) dX11_rule_26 rfl (Or.inl tX11_2) rfl ⟨by omega, by omega⟩ ?_
  rw [Int.toNat_natCast]
  by_cases h0 : M 1 2 k = 0
  · rw [if_pos h0]
    refine xr_ifnonnull (tgt := 46) dX11_rule_27 (by decide) (fun c e => by cases e) (fun _ => ?_)
    refine xr_aload_n (x := some (1, 99)) dX11_rule_30 rfl ?_
    refine xr_getA dX11_rule_31 fX11_25 rfl rfl ?_
    refine xr_aload_n (x := some (1, 99)) dX11_rule_34 rfl ?_
    refine xr_getI dX11_rule_35 fX11_113 rfl tX11_3 ?_
    rw [hk3]
    have n15 : ∀ o ∈ [15 + k], o ∉ gL G := fun o ho => by rw [List.mem_singleton.mp ho]; exact h15 k hk h0
    have b15 : ∀ o ∈ [15 + k], o < 1000 := fun o ho => by rw [List.mem_singleton.mp ho]; omega
    refine xw_new0 (L1 := [15 + k]) (o1 := 15 + k) (mc := 6) (ms := 512) hA hE dX11_rule_38 dX11_rule_41 dX11_rule_42 hX11_23_116 (fun q z => nX6 (G := G) (a := q) (sz := z)) ⟨rfl, rfl, by show 1 + 1 ≤ n + 3; omega, by show 24 + 120 ≤ 120 * (n + 3); omega⟩ (Nat.le_of_ble_eq_true rfl) (by show 0 + 1 + 6 ≤ 8; omega) (by show 0 + 8 + 512 ≤ 524; omega) n15 b15 List.mem_cons_self (fun o ho j h7 => ?_) (fun q ws' h => ms_ru hk q ws' h) (fun π hoff hA1 => ?_)
    · exfalso
      rw [List.mem_singleton.mp ho] at h7
      have all : ∀ k, k < 6 → ∀ j, j < 48 → ¬ fK (oc (15 + k)) j = 7 := by decide +kernel
      exact all k (by omega) j (fK_7 h7) h7
    · have ho : oc (15 + k) = 6 := by
        rcases (show k = 0 ∨ k = 1 ∨ k = 2 ∨ k = 3 ∨ k = 4 ∨ k = 5 by omega) with rfl | rfl | rfl | rfl | rfl | rfl <;> rfl
      refine xr_aast (t0 := 4) (ci := 6) (r := (RX6, TX6, 8)) hA1.1 dX11_rule_45 (Or.inl tX11_2) ⟨by omega, by show (k : Int) < (6 : Nat); omega⟩ (by rw [Int.toNat_natCast]; rfl) ho rfl rfl ?_
      rw [Int.toNat_natCast]
      have e13 : ∀ j i, MN M [15 + k] 1 j i = M 1 j i := fun j i => MN_out (by simp; omega)
      refine from46 k _ _ _ _ hk hk3 ⟨Gr.mk hoff n15 b15, ?_, Or.inr ⟨h0, rfl, rfl⟩⟩ hA1 (by omega) (by show 0 + 8 + 512 ≤ 520; omega) (List.mem_append_right _ List.mem_cons_self) (by rw [mset_ne (by omega), e13]; exact hk3) (by rw [mset_self]; decide) (fun e => ?_)
      · intro o ho' j i hj hz
        by_cases e : o = 1 ∧ j = 2 ∧ i = k
        · obtain ⟨rfl, rfl, rfl⟩ := e
          exact List.mem_append_right _ (by show 15 + i ∈ [15 + i]; exact List.mem_cons_self)
        · rw [mset_ne e] at hz
          exact NoR_new n15 hE o ho' j i hj hz
      · rcases List.mem_append.mp e with y | y
        · exact h21 k hk y
        · have := List.mem_singleton.mp y; omega
  · rw [if_neg h0]
    refine xr_ifnonnull (tgt := 46) dX11_rule_27 (by decide) (fun c e => ?_) (fun e => by cases e)
    exact from46 k G M 0 0 hk hk3 ⟨Gr.rf, hE, Or.inl ⟨rfl, rfl, h0⟩⟩ hA (by omega) (by omega) (hE 1 h1 2 k (Or.inl tX11_2) h0) hk3 h0 (h21 k hk)
end RU2
