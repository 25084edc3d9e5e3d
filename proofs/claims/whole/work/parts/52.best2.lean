/-! ===== errands of the most worth: the class ===== -/
section BSC
variable {G : Gx} {n : Nat} {M : Mem} {s : Int → Int} {st : Src}
theorem c_fillr {Q : Mem → Prop} {o k N z : Nat} {v : Int} (hk : fK (oc o) k = 1) (hN : aL (oc o) k = N) (hz : N ≤ 100000) (hzN : z ≤ N) (h : Q (mfill M o k z v)) : OkV G (n + 2) mJ7_fill_fda19 [vA o k, vI 0, vI (z : Int), vI v] M Q := by
  refine eJ7_fill_fda19 (fun K => ?_)
  refine bJ7_fill_fda19_0 (NA := (N : Int)) hk (by rw [hN]) ⟨by omega, by omega⟩ ?_
  refine eJ7_rangeCheck_23922 (fun K2 => bJ7_rangeCheck_23922_0 ⟨fun _ => ⟨fun _ => ⟨fun _ => ?_, fun y => y (by omega)⟩, fun y => y (by decide)⟩, fun y => y (by omega)⟩)
  have loop : ∀ (j : Nat) (Mc : Mem), j ≤ z → Mc = mfill M o k j v → CW G K mJ7_fill_fda19 (n + 2) 10 [some (vA o k), none, some (vI (z : Int)), some (vI v), some (vI (j : Int))] [] Mc (qV Q) := by
    refine up_ind (fun Mc e => ?_) (fun j Mc hj e ih => ?_)
    · subst e
      exact bJ7_fill_fda19_10 (NA := (N : Int)) hk (by rw [hN]) ⟨by omega, by omega⟩ ⟨fun _ => h, fun y => absurd (Int.le_refl _) y⟩
    · subst e
      refine bJ7_fill_fda19_10 (NA := (N : Int)) hk (by rw [hN]) ⟨by omega, by omega⟩ ⟨fun y => absurd y (by omega), fun _ => ⟨⟨by omega, by omega⟩, fun M1 e => ?_⟩⟩
      rw [Int.toNat_natCast, mfill_s] at e
      rw [wr_n (b := 100001) (k := j) (by omega) (by omega)]
      exact ih M1 e
  exact loop 0 M (by omega) mfill_0.symm
theorem td2 {c : Nat} (hc : c < 20) : wr (Int.tdiv (c : Int) 2) = ((c / 2 : Nat) : Int) := by
  rw [show Int.tdiv (c : Int) 2 = ((c / 2 : Nat) : Int) from rfl]; exact wrs (by omega) (by omega)
theorem tm2 {c : Nat} (hc : c < 20) : wr (Int.tmod (c : Int) 2) = ((c % 2 : Nat) : Int) := by
  rw [show Int.tmod (c : Int) 2 = ((c % 2 : Nat) : Int) from rfl]; exact wrs (by omega) (by omega)
theorem ix20 {S c : Nat} (hS : S < 1024) (hc : c < 20) : wr (wr ((S : Int) * 20) + (c : Int)) = ((20 * S + c : Nat) : Int) := by
  rw [wrs (x := (S : Int) * 20) (by omega) (by omega), wrs (x := (S : Int) * 20 + (c : Int)) (by omega) (by omega)]; omega
theorem LR.er {f : Nat → Nat → Int} (L : LR f s) {e : Int} (h1 : 0 ≤ e) (h2 : e < s 7) : f 5 e.toNat = s (212 + 4 * e + 0) ∧ f 6 e.toNat = s (212 + 4 * e + 1) ∧ f 7 e.toNat = s (212 + 4 * e + 2) ∧ f 8 e.toNat = s (212 + 4 * e + 3) := L.2.2.2.2.2.1 e h1 h2
theorem Snd_or {S1 S2 : Src} {D : Tb} (h : Snd s S1 D) : Snd s (orS S1 S2) D := fun r u hv hd => Rch_or.mpr (Or.inl (h r u hv hd))
theorem c4_layOut {Q : Int → Mem → Prop} {S : Nat} {B : Nat → Int} (K : HOK s) (L : LR (M 6) s) (LO : LOK s) (hS : S < 1024) (hB : ∀ c, (0 ≤ B c ∧ B c ≤ 1439 ∧ ((c / 2 : Nat) : Int) < s 7) ∨ B c = 99999) (hM : ∀ c, c < 20 → M 12 1 (20 * S + c) = enA (B c)) (hT : TO (tbC M 13)) (hT0 : ∀ r u, VN s r u → tbC M 13 r u = 1000000)
    (h : ∀ M' : Mem, EqX [(13, 0)] M M' → TO (tbC M' 13) → Snd s (srcC s B 20) (tbC M' 13) → (∀ r u m, srcC s B 20 r u m → tbC M' 13 r u ≤ m) → Q (enA (sM B 20)) M') : OkI G (n + 1) mX4_layOut [vO 12, vO 6, vI (S : Int)] M Q := by
  have k16 := K.2.1
  have l7 := LO.1
  have hB' : ∀ c, (0 ≤ B c ∧ B c ≤ 1439) ∨ B c = 99999 := fun c => by rcases hB c with q | q; exact Or.inl ⟨q.1, q.2.1⟩; exact Or.inr q
  refine eX4_layOut (fun Kx => bX4_layOut_0 ?_)
  have loop : ∀ (c : Nat) (Mc : Mem), c ≤ 20 → (EqX [(13, 0)] M Mc ∧ TO (tbC Mc 13) ∧ Snd s (srcC s B c) (tbC Mc 13) ∧ ∀ r u m, srcC s B c r u m → tbC Mc 13 r u ≤ m) → CW G Kx mX4_layOut (n + 1) 6 [some (vO 12), some (vO 6), some (vI (S : Int)), some (vI (enA (sM B c))), some (vI (c : Int)), none, none] [] Mc (qI Q) := by
    refine up_ind (fun Mc i => ?_) (fun c Mc hc i ih => ?_)
    · refine bX4_layOut_6 rfl ⟨fun _ => h Mc i.1 i.2.1 i.2.2.1 i.2.2.2, fun z => absurd (Int.le_refl _) z⟩
    · obtain ⟨i1, i2, i3, i4⟩ := i
      have e12 : Mc 12 1 (20 * S + c) = enA (B c) := by rw [i1 12 1 _ (by decide)]; exact hM c hc
      refine bX4_layOut_6 rfl ⟨fun z => absurd z (by omega), fun _ => ?_⟩
      rw [ix20 hS hc, Int.toNat_natCast, e12, td2 hc, tm2 hc, Int.toNat_natCast, wr_n (b := 21) (k := c) (by omega) (by omega)]
      have ib : (0 : Int) ≤ ((20 * S + c : Nat) : Int) ∧ ((20 * S + c : Nat) : Int) < 20480 := ⟨by omega, by omega⟩
      have hs9 : sM B c ≤ 99999 := by rcases sM_gd hB' c with q | q <;> omega
      refine ⟨fun z => absurd z (by omega), fun _ => ⟨fun z => absurd z (by omega), fun _ => ⟨ib, fun z => ?_, fun z => ?_⟩⟩⟩
      · have hne : ¬ B c ≤ 1439 := fun y => by unfold enA at z; rw [if_pos y] at z; omega
        have hb9 : B c = 99999 := by rcases hB c with q | q; exact absurd q.2.1 hne; exact q
        have e : sM B (c + 1) = sM B c := by
          show (if B c < sM B c then B c else sM B c) = _
          rw [if_neg (by omega)]
        have g := ih Mc ⟨i1, i2, by rw [srcC_off hne]; exact i3, by rw [srcC_off hne]; exact i4⟩
        rw [e] at g
        exact g
      · have hy : B c ≤ 1439 := by
          apply Classical.byContradiction
          intro y; unfold enA at z; rw [if_neg y] at z; omega
        have hc7 : 0 ≤ B c ∧ ((c / 2 : Nat) : Int) < s 7 := by rcases hB c with q | q; exact ⟨q.1, q.2.2⟩; omega
        have eB : enA (B c) = B c := by unfold enA; rw [if_pos hy]
        have hr := LO.er (e := ((c / 2 : Nat) : Int)) (by omega) hc7.2
        have hl := (L.er (e := ((c / 2 : Nat) : Int)) (by omega) hc7.2).1
        rw [Int.toNat_natCast] at hl
        have e6 : Mc 6 5 (c / 2) = rmE s c := by rw [i1.obj (o := 6) (by decide)]; exact hl
        have hv : VN s (rmE s c) ((c % 2 : Nat) : Int) := ⟨hr.1.1, hr.1.2, by omega⟩
        rw [e6, eB]
        refine ⟨⟨by omega, by omega⟩, ib, ?_⟩
        have hso : srcC s B (c + 1) = orS (srcC s B c) (src1c s B c) := srcC_on hy
        have e13 : (if B c < enA (sM B c) then B c else enA (sM B c)) = enA (sM B (c + 1)) := by
          have hlt := enA_lt (x := B c) (a := sM B c) hy
          show _ = enA (if B c < sM B c then B c else sM B c)
          by_cases q : B c < sM B c
          · rw [if_pos (hlt.mpr q), if_pos q, eB]
          · rw [if_neg (fun w => q (hlt.mp w)), if_neg q]
        have hv3 := hv.2.2
        refine c5_put rfl hr.1.1 (by have := hr.1.2; unfold rmE; omega) hv3 (fun z => ⟨ib, ?_⟩) (fun z1 z2 => ⟨ib, ?_⟩)
        · rw [e12, eB, e13]
          refine ih Mc ⟨i1, i2, by rw [hso]; exact Snd_or i3, ?_⟩
          rw [hso]
          rintro r u m (q | ⟨rfl, rfl, rfl⟩)
          · exact i4 r u m q
          · rcases z with z | z
            · omega
            · exact z
        · have i3' : Snd s (srcC s B (c + 1)) (tbC Mc 13) := by rw [hso]; exact Snd_or i3
          have hsg := put_Sg K hv i2 i3' hc7.1 hy z2 (by rw [hso]; exact Rch_src (Or.inr ⟨rfl, rfl, rfl⟩))
          have hq : mset Mc 13 0 (16 * ((c % 2 : Nat) : Int) + rmE s c).toNat (B c) 12 1 (20 * S + c) = B c := by rw [mset_ne (by simp), e12, eB]
          rw [hq, e13]
          refine ih _ ⟨i1.trans (EqX.mset (by decide)), hsg.1, hsg.2.1, ?_⟩
          rw [hso]
          rintro r u m (q | ⟨rfl, rfl, rfl⟩)
          · have hvr := (srcC_ok K LO hB c r u m q).1
            have := hsg.2.2 r u hvr
            have := i4 r u m q
            omega
          · rw [tbC_set hv.1 (by have := hr.1.2; unfold rmE; omega) hv3 hv.1 (by have := hr.1.2; unfold rmE; omega) hv3, if_pos ⟨rfl, rfl⟩]; exact Int.le_refl _
  have g := loop 0 M (by omega) ⟨EqX.rf, hT, fun r u hv hd => by rw [hT0 r u hv] at hd; omega, fun r u m q => absurd q (srcC_0 r u m)⟩
  exact g
theorem c4_weigh {Q : Mem → Prop} {S : Nat} {so : Int} (L : LR (M 6) s) (LO : LOK s) (hS : S < 1024) (hn : ¬ (M 12 2 0 < wS s S (s 7).toNat ∨ (wS s S (s 7).toNat = M 12 2 0 ∧ so < M 12 4 0)) → Q M) (hy : (M 12 2 0 < wS s S (s 7).toNat ∨ (wS s S (s 7).toNat = M 12 2 0 ∧ so < M 12 4 0)) → ∀ M' : Mem, EqX [(12, 2), (12, 3), (12, 4)] M M' → M' 12 2 0 = wS s S (s 7).toNat → M' 12 3 0 = (S : Int) → M' 12 4 0 = so → Q M') : OkV G n mX4_weigh [vO 12, vO 6, vI (S : Int), vI so] M Q := by
  have l7 := LO.1
  have e1 : M 6 1 0 = s 7 := L.2.1
  refine eX4_weigh (fun Kx => bX4_weigh_0 ?_)
  have fin : CW G Kx mX4_weigh n 47 [some (vO 12), none, some (vI (S : Int)), some (vI so), some (vI (wS s S (s 7).toNat)), none] [] M (qV Q) := by
    have put : (M 12 2 0 < wS s S (s 7).toNat ∨ (wS s S (s 7).toNat = M 12 2 0 ∧ so < M 12 4 0)) → ∀ M1 : Mem, M1 = mset M 12 2 0 (wS s S (s 7).toNat) → ∀ M2 : Mem, M2 = mset M1 12 3 0 (S : Int) → ∀ M3 : Mem, M3 = mset M2 12 4 0 so → Q M3 := by
      intro c M1 m1 M2 m2 M3 m3
      refine hy c M3 ?_ ?_ ?_ ?_
      · rw [m3, m2, m1]; exact ((EqX.mset (by decide)).trans (EqX.mset (by decide))).trans (EqX.mset (by decide))
      · rw [m3, mset_ne (by simp), m2, mset_ne (by simp), m1, mset_self]
      · rw [m3, mset_ne (by simp), m2, mset_self]
      · rw [m3, mset_self]
    refine bX4_weigh_47 ⟨fun z => put (Or.inl z), fun z => ⟨fun y => hn (by omega), fun y => ⟨fun x => hn (by omega), fun x => put (Or.inr ⟨y, by omega⟩)⟩⟩⟩
  have loop : ∀ (k : Nat) (_ : Unit), k ≤ (s 7).toNat → True → CW G Kx mX4_weigh n 6 [some (vO 12), some (vO 6), some (vI (S : Int)), some (vI so), some (vI (wS s S k)), some (vI (k : Int))] [] M (qV Q) := by
    refine up_ind (fun _ _ => ?_) (fun k _ hk _ ih => ?_)
    · refine bX4_weigh_6 rfl ?_
      rw [e1]
      exact ⟨fun _ => fin, fun z => absurd (by omega) z⟩
    · have hk' : (k : Int) < s 7 := by omega
      have ih' := ih () trivial
      obtain ⟨-, -, -, g8⟩ := L.er (e := (k : Int)) (by omega) hk'
      have hr := LO.er (e := (k : Int)) (by omega) hk'
      have hw := wS_rng LO (S := S) k (by omega)
      unfold wS at ih'
      refine bX4_weigh_6 rfl ?_
      rw [e1, g8, k_bitN (by omega) (by omega), wr_n (b := 11) (k := k) (by omega) (by omega)]
      refine ⟨fun z => absurd z (by omega), fun _ => ⟨fun z => absurd z (by omega), fun _ => ⟨⟨by omega, by omega⟩, ?_⟩⟩⟩
      by_cases b : S.testBit k = true
      · rw [if_pos b] at ih' ⊢
        rw [Int.one_mul, wrs (x := s (212 + 4 * (k : Int) + 3)) (by omega) (by omega), wrs (x := wS s S k + s (212 + 4 * (k : Int) + 3)) (by omega) (by omega)]
        exact ih'
      · rw [if_neg b] at ih' ⊢
        rw [Int.zero_mul, show wr 0 = 0 from rfl, Int.add_zero, wrs (x := wS s S k) (by omega) (by omega)]
        rw [Int.add_zero] at ih'
        exact ih'
  exact loop 0 () (by omega) trivial
/-- the planner's table -/
def PTb (s : Int → Int) (M : Mem) (B : Nat → Nat → Int) : Prop := ∀ S2 c, S2 < 2 ^ (s 7).toNat → c < 20 → M 12 1 (20 * S2 + c) = enA (B S2 c)
theorem E1024 (LO : LOK s) : 2 ^ (s 7).toNat ≤ 1024 := Nat.pow_le_pow_right (n := 2) (by decide) (show (s 7).toNat ≤ 10 by have := LO.1; omega)
theorem enA_vf (LO : LOK s) {e d : Int} (h1 : 0 ≤ e) (h2 : e < s 7) : vf s e (if d ≤ 1439 then d else 99999) = if s (212 + 4 * e + 2) < (if d < s (212 + 4 * e + 1) then s (212 + 4 * e + 1) else d) then 99999 else (if d < s (212 + 4 * e + 1) then s (212 + 4 * e + 1) else d) := by
  have := LO.er h1 h2
  unfold vf
  by_cases a : d ≤ 1439
  · rw [if_pos a]
    by_cases b : d ≤ s (212 + 4 * e + 2)
    · rw [if_pos b]
      by_cases c : d < s (212 + 4 * e + 1)
      · rw [if_pos c, if_pos (by omega), if_neg (by omega)]
      · rw [if_neg c, if_neg (show ¬ s (212 + 4 * e + 2) < d by omega)]
        split <;> omega
    · rw [if_neg b, if_neg (show ¬ d < s (212 + 4 * e + 1) by omega), if_pos (by omega)]
  · rw [if_neg a, if_neg (show ¬ (99999 : Int) ≤ s (212 + 4 * e + 2) by omega), if_neg (show ¬ d < s (212 + 4 * e + 1) by omega), if_pos (by omega)]
theorem c4_goOn {Q : Mem → Prop} {S : Nat} {src : Src} {B : Nat → Nat → Int} (K : HOK s) (L : LR (M 6) s) (LO : LOK s) (hS : S < 2 ^ (s 7).toNat) (hsr : SOK s src) (hT : Tab s src (tbC M 13)) (hTO : TO (tbC M 13)) (hB : gB s B) (hM : PTb s M B)
    (h : ∀ M' : Mem, EqX [(12, 1)] M M' → PTb s M' (upS s src S B) → Q M') : OkV G (n + 1) mX4_goOn [vO 12, vO 6, vI (S : Int)] M Q := by
  have k16 := K.2.1
  have l7 := LO.1
  have hE := E1024 LO
  have e1 : M 6 1 0 = s 7 := L.2.1
  refine eX4_goOn (fun Kx => bX4_goOn_0 ?_)
  have loop : ∀ (c : Nat) (Mc : Mem), c ≤ 20 → (EqX [(12, 1)] M Mc ∧ ∀ S2 d, S2 < 2 ^ (s 7).toNat → d < 20 → Mc 12 1 (20 * S2 + d) = enA (if d < c then upS s src S B S2 d else B S2 d)) → CW G Kx mX4_goOn (n + 1) 2 [some (vO 12), some (vO 6), some (vI (S : Int)), some (vI (c : Int)), none, none, none] [] Mc (qV Q) := by
    refine up_ind (fun Mc i => ?_) (fun c Mc hc i ih => ?_)
    · refine bX4_goOn_2 rfl ⟨fun _ => h Mc i.1 (fun S2 d h1 h2 => by rw [i.2 S2 d h1 h2, if_pos h2]), fun z => absurd (Int.le_refl _) z⟩
    · obtain ⟨i1, i2⟩ := i
      have e6 : Mc 6 = M 6 := i1.obj (by decide)
      refine bX4_goOn_2 rfl ⟨fun z => absurd z (by omega), fun _ => ?_⟩
      rw [td2 hc, tm2 hc, e6, e1, wr_n (b := 21) (k := c) (by omega) (by omega)]
      have keep : (∀ S2, S2 < 2 ^ (s 7).toNat → enA (upS s src S B S2 c) = enA (B S2 c)) → CW G Kx mX4_goOn (n + 1) 2 [some (vO 12), some (vO 6), some (vI (S : Int)), some (vI ((c + 1 : Nat) : Int)), none, none, none] [] Mc (qV Q) := by
        intro z
        refine ih Mc ⟨i1, fun S2 d h1 h2 => ?_⟩
        rw [i2 S2 d h1 h2]
        by_cases e : d = c
        · subst e
          rw [if_neg (Nat.lt_irrefl _), if_pos (Nat.lt_succ_self _)]; exact (z S2 h1).symm
        · by_cases e2 : d < c
          · rw [if_pos e2, if_pos (by omega)]
          · rw [if_neg e2, if_neg (by omega)]
      refine ⟨fun z => keep (fun S2 _ => by rw [upS_off (fun w => absurd w.1 (by omega))]), fun z => ?_⟩
      rw [k_bitN (by omega) (by omega)]
      refine ⟨fun y => keep (fun S2 _ => by rw [upS_off (fun w => y (by rw [w.2.1]; rfl))]), fun y => ?_⟩
      have hb : S.testBit (c / 2) = false := by
        cases q : S.testBit (c / 2)
        · rfl
        · rw [q] at y; exact absurd y (by decide)
      have hc7 : ((c / 2 : Nat) : Int) < s 7 := by omega
      have hr := LO.er (e := ((c / 2 : Nat) : Int)) (by omega) hc7
      obtain ⟨g5, g6, g7, -⟩ := L.er (e := ((c / 2 : Nat) : Int)) (by omega) hc7
      rw [Int.toNat_natCast] at g5 g6 g7
      have hcb : (0 : Int) ≤ ((c / 2 : Nat) : Int) ∧ ((c / 2 : Nat) : Int) < 10 := ⟨by omega, by omega⟩
      rw [Int.toNat_natCast, g5]
      have hv : VN s (rmE s c) ((c % 2 : Nat) : Int) := ⟨hr.1.1, hr.1.2, by omega⟩
      have h13 : tbC Mc 13 = tbC M 13 := by funext r u; exact i1 13 0 _ (by decide)
      refine ⟨hcb, c5_get rfl hr.1.1 (by omega) hv.2.2 ?_⟩
      rw [h13, e6, g6, g7]
      have hto := hTO (rmE s c) ((c % 2 : Nat) : Int) hv.1 (by have := hv.2.1; omega) hv.2.2
      have hsn := sn_tab K hsr hT hv
      have hvf := enA_vf LO (e := ((c / 2 : Nat) : Int)) (d := tbC M 13 (rmE s c) ((c % 2 : Nat) : Int)) (by omega) hc7
      rw [← hsn] at hvf
      have er : s (212 + 4 * ((c / 2 : Nat) : Int) + 0) = rmE s c := rfl
      rw [er]
      generalize tbC M 13 (rmE s c) ((c % 2 : Nat) : Int) = dd at *
      have hadl : ad S (c / 2) < 2 ^ (s 7).toNat := ad_lt hS (by omega)
      have hcd : cdE s S (ad S (c / 2)) c := ⟨hc7, hb, rfl⟩
      refine ⟨hcb, hcb, fun x => keep (fun S2 _ => ?_), fun x => ?_⟩
      · by_cases w : cdE s S S2 c
        · rw [upS_on w, hvf, if_pos x]
          unfold mn
          rcases hB S2 c with q | q
          · rw [if_neg (by omega)]
          · rw [if_neg (by omega)]
        · rw [upS_off w]
      · rw [k_adN (by omega) (by omega), ix20 (by omega) hc, Int.toNat_natCast, i2 _ c hadl hc, if_neg (Nat.lt_irrefl _)]
        have ib : (0 : Int) ≤ ((20 * ad S (c / 2) + c : Nat) : Int) ∧ ((20 * ad S (c / 2) + c : Nat) : Int) < 20480 := ⟨by omega, by omega⟩
        refine ⟨fun w => absurd w (by omega), fun _ => ⟨fun w => absurd w (by omega), fun _ => ⟨ib, ib, fun M2 em => ih M2 ⟨?_, fun S2 d h1 h2 => ?_⟩⟩⟩⟩
        · rw [em]; exact i1.trans (EqX.mset (by decide))
        · rw [if_neg x] at hvf
          generalize hmx : (if dd < s (212 + 4 * ((c / 2 : Nat) : Int) + 1) then s (212 + 4 * ((c / 2 : Nat) : Int) + 1) else dd) = mx0 at *
          have hm9 : mx0 ≤ 1439 := by omega
          by_cases e : d = c
          · subst e
            rw [if_pos (Nat.lt_succ_self _)]
            by_cases e2 : S2 = ad S (d / 2)
            · subst e2
              rw [em, mset_self, upS_on hcd, hvf]
              have hlt := enA_lt (x := mx0) (a := B (ad S (d / 2)) d) hm9
              unfold mn
              by_cases q : mx0 < B (ad S (d / 2)) d
              · rw [if_pos (hlt.mpr q), if_pos q]; unfold enA; rw [if_pos hm9]
              · rw [if_neg (fun w => q (hlt.mp w)), if_neg q]
            · rw [em, mset_ne (fun w => e2 (by have := w.2.2; omega)), i2 S2 d h1 h2, if_neg (Nat.lt_irrefl _), upS_off (fun w => e2 w.2.2)]
          · rw [em, mset_ne (fun w => e (by have := w.2.2; omega)), i2 S2 d h1 h2]
            by_cases e2 : d < c
            · rw [if_pos e2, if_pos (by omega)]
            · rw [if_neg e2, if_neg (by omega)]
  exact loop 0 M (by omega) ⟨EqX.rf, fun S2 d h1 h2 => by rw [if_neg (Nat.not_lt_zero _)]; exact hM S2 d h1 h2⟩
end BSC
