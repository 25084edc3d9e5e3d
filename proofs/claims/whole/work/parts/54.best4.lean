/-! ===== errands of the most worth: the reference ===== -/
section BSM
variable {G : Gx} {n : Nat} {M : Mem} {s : Int → Int} {st : Src}
def RTb (s : Int → Int) (M : Mem) (B : Nat → Nat → Int) : Prop := ∀ S2 c, S2 < 2 ^ (s 7).toNat → c < 20 → M 0 32 (20 * S2 + c) = B S2 c
theorem c12_er {Q : Int → Mem → Prop} {e k : Int} (hs : sd M = s) (h1 : 0 ≤ e) (h2 : e < 10) (h3 : 0 ≤ k) (h4 : k < 4) (h : Q (s (212 + 4 * e + k)) M) : OkI G n mX12_errandOf [vO 0, vI e, vI k] M Q := c12_errandOf h1 h2 h3 h4 (by rw [hs]; exact h)
theorem ix20m {S c : Nat} (hS : S < 1024) (hc : c < 20) : wr (wr (20 * (S : Int)) + (c : Int)) = ((20 * S + c : Nat) : Int) := by
  rw [wrs (x := 20 * (S : Int)) (by omega) (by omega), wrs (x := 20 * (S : Int) + (c : Int)) (by omega) (by omega)]; omega
theorem c12_doesNext {Q : Mem → Prop} {S : Nat} {src : Src} {B : Nat → Nat → Int} (hs : sd M = s) (K : HOK s) (LO : LOK s) (hS : S < 2 ^ (s 7).toNat) (hsr : SOK s src) (hT : Tab s src (tbM M)) (hB : gB s B) (hM : RTb s M B)
    (h : ∀ M' : Mem, EqX [(0, 32)] M M' → RTb s M' (upS s src S B) → Q M') : OkV G (n + 2) mX12_doesNext [vO 0, vI (S : Int)] M Q := by
  have k16 := K.2.1
  have l7 := LO.1
  have hE := E1024 LO
  refine eX12_doesNext (fun Kx => bX12_doesNext_0 ?_)
  have loop : ∀ (e : Nat) (Mc : Mem), e ≤ (s 7).toNat → (EqX [(0, 32)] M Mc ∧ ∀ S2 d, S2 < 2 ^ (s 7).toNat → d < 20 → Mc 0 32 (20 * S2 + d) = if d < 2 * e then upS s src S B S2 d else B S2 d) → CW G Kx mX12_doesNext (n + 2) 2 [some (vO 0), some (vI (S : Int)), some (vI (e : Int)), none, none, none, none] [] Mc (qV Q) := by
    refine up_ind (fun Mc i => ?_) (fun e Mc he i ih => ?_)
    · have e7 : Mc 0 26 7 = s 7 := by rw [← hs]; exact sd_eq i.1 (by decide) 7
      refine bX12_doesNext_2 ?_
      rw [e7]
      refine ⟨fun _ => h Mc i.1 (fun S2 d h1 h2 => ?_), fun z => absurd (by omega) z⟩
      rw [i.2 S2 d h1 h2]
      by_cases q : d < 2 * (s 7).toNat
      · rw [if_pos q]
      · rw [if_neg q, upS_off (fun w => by have := w.1; omega)]
    · obtain ⟨i1, i2⟩ := i
      have he' : (e : Int) < s 7 := by omega
      have es : sd Mc = s := (DR4 i1 (by decide)).trans hs
      have e7 : Mc 0 26 7 = s 7 := by rw [← es]; rfl
      have hr := LO.er (e := (e : Int)) (by omega) he'
      refine bX12_doesNext_2 ?_
      rw [e7, wr_n (b := 11) (k := e) (by omega) (by omega)]
      refine ⟨fun z => absurd z (by omega), fun _ => c12_isOf (fun z => ⟨fun y => absurd y (by decide), fun _ => ?_⟩) (fun z => ⟨fun _ => ?_, fun y => absurd rfl y⟩)⟩
      · rw [k_bitN (by omega) (by omega)] at z
        have hb : S.testBit e = true := by
          cases q : S.testBit e
          · rw [q] at z; exact absurd z (by decide)
          · rfl
        refine ih Mc ⟨i1, fun S2 d h1 h2 => ?_⟩
        rw [i2 S2 d h1 h2]
        by_cases q : d < 2 * e
        · rw [if_pos q, if_pos (by omega)]
        · rw [if_neg q]
          by_cases q2 : d < 2 * (e + 1)
          · rw [if_pos q2, upS_off (fun w => by have := w.2.1; rw [show d / 2 = e by omega, hb] at this; cases this)]
          · rw [if_neg q2]
      · rw [k_bitN (by omega) (by omega)] at z
        have hb : S.testBit e = false := by
          cases q : S.testBit e
          · rfl
          · rw [q] at z; exact absurd rfl z
        have hadl : ad S e < 2 ^ (s 7).toNat := ad_lt hS (by omega)
        have inner : ∀ (u : Nat) (M2 : Mem), u ≤ 2 → (EqX [(0, 32)] M M2 ∧ ∀ S2 d, S2 < 2 ^ (s 7).toNat → d < 20 → M2 0 32 (20 * S2 + d) = if d < 2 * e + u then upS s src S B S2 d else B S2 d) → CW G Kx mX12_doesNext (n + 2) 26 [some (vO 0), some (vI (S : Int)), some (vI (e : Int)), some (vI (u : Int)), none, none, none] [] M2 (qV Q) := by
          refine up_ind (fun M2 j => ?_) (fun u M2 hu j ihu => ?_)
          · refine bX12_doesNext_26 ⟨fun _ => ?_, fun y => absurd (Int.le_refl _) y⟩
            rw [wr_n (b := 11) (k := e) (by omega) (by omega)]
            exact ih M2 ⟨j.1, fun S2 d h1 h2 => by rw [j.2 S2 d h1 h2, show 2 * e + 2 = 2 * (e + 1) by omega]⟩
          · obtain ⟨j1, j2⟩ := j
            have es2 : sd M2 = s := (DR4 j1 (by decide)).trans hs
            refine bX12_doesNext_26 ⟨fun y => absurd y (by omega), fun _ => ?_⟩
            rw [wr_n (b := 11) (k := u) (by omega) (by omega)]
            refine c12_er es2 (by omega) (by omega) (by decide) (by decide) ?_
            have hc20 : 2 * e + u < 20 := by omega
            have hc2 : (2 * e + u) / 2 = e := by omega
            have hcm : (2 * e + u) % 2 = u := by omega
            have hcd : cdE s S (ad S e) (2 * e + u) := ⟨by rw [hc2]; exact he', by rw [hc2]; exact hb, by rw [hc2]⟩
            have hcd' : ∀ S2, cdE s S S2 (2 * e + u) → S2 = ad S e := fun S2 w => by have := w.2.2; rw [hc2] at this; exact this
            have hv : VN s (s (212 + 4 * (e : Int) + 0)) (u : Int) := ⟨hr.1.1, hr.1.2, by omega⟩
            have hv1 := hv.1
            have hv2 := hv.2.1
            have ei : wr (wr (2 * s (212 + 4 * (e : Int) + 0)) + (u : Int)) = 2 * s (212 + 4 * (e : Int) + 0) + (u : Int) := by rw [wrs (x := 2 * s (212 + 4 * (e : Int) + 0)) (by omega) (by omega), wrs (x := 2 * s (212 + 4 * (e : Int) + 0) + (u : Int)) (by omega) (by omega)]
            have hd : M2 0 28 (2 * s (212 + 4 * (e : Int) + 0) + (u : Int)).toNat = tbM M (s (212 + 4 * (e : Int) + 0)) (u : Int) := j1 0 28 _ (by decide)
            have hsn := sn_tab K hsr hT hv
            have hup : ∀ S2, cdE s S S2 (2 * e + u) → upS s src S B S2 (2 * e + u) = mn (B S2 (2 * e + u)) (vf s (e : Int) (sn s src (s (212 + 4 * (e : Int) + 0)) (u : Int))) := fun S2 w => by
              rw [upS_on w]
              unfold rmE
              rw [hc2, hcm]
            rw [ei, hd]
            generalize tbM M (s (212 + 4 * (e : Int) + 0)) (u : Int) = dd at *
            have keep : (∀ S2, upS s src S B S2 (2 * e + u) = B S2 (2 * e + u)) → CW G Kx mX12_doesNext (n + 2) 26 [some (vO 0), some (vI (S : Int)), some (vI (e : Int)), some (vI ((u + 1 : Nat) : Int)), none, none, none] [] M2 (qV Q) := by
              intro y
              refine ihu M2 ⟨j1, fun S2 d h1 h2 => ?_⟩
              rw [j2 S2 d h1 h2]
              by_cases q : d < 2 * e + u
              · rw [if_pos q, if_pos (by omega)]
              · rw [if_neg q]
                by_cases q2 : d = 2 * e + u
                · subst q2; rw [if_pos (by omega), y]
                · rw [if_neg (by omega)]
            have keep9 : vf s (e : Int) (sn s src (s (212 + 4 * (e : Int) + 0)) (u : Int)) = 99999 → CW G Kx mX12_doesNext (n + 2) 26 [some (vO 0), some (vI (S : Int)), some (vI (e : Int)), some (vI ((u + 1 : Nat) : Int)), none, none, none] [] M2 (qV Q) := by
              intro y
              refine keep (fun S2 => ?_)
              by_cases w : cdE s S S2 (2 * e + u)
              · rw [hup S2 w, y]
                unfold mn
                rcases hB S2 (2 * e + u) with q | q
                · rw [if_neg (by omega)]
                · rw [if_neg (by omega)]
              · rw [upS_off w]
            refine ⟨⟨by omega, by omega⟩, fun y => ?_, fun y => c12_er es2 (by omega) (by omega) (by decide) (by decide) ⟨fun x => ?_, fun x => ?_⟩⟩
            · refine keep9 ?_
              rw [hsn, if_neg (by omega)]
              unfold vf; rw [if_neg (by omega)]
            · refine c12_er es2 (by omega) (by omega) (by decide) (by decide) (c12_later ?_)
              have evf : vf s (e : Int) (sn s src (s (212 + 4 * (e : Int) + 0)) (u : Int)) = (if dd ≤ s (212 + 4 * (e : Int) + 1) then s (212 + 4 * (e : Int) + 1) else dd) := by
                rw [hsn, if_pos (by omega)]
                unfold vf; rw [if_pos x]
              rw [← evf]
              generalize vf s (e : Int) (sn s src (s (212 + 4 * (e : Int) + 0)) (u : Int)) = vv at *
              have eix : wr (wr (wr (20 * (bOr (S : Int) (bShl 1 (e : Int)))) + wr (2 * (e : Int))) + (u : Int)) = ((20 * ad S e + (2 * e + u) : Nat) : Int) := by
                rw [k_adN (by omega) (by omega)]
                generalize ad S e = a at *
                rw [wrs (x := 20 * (a : Int)) (by omega) (by omega), wrs (x := 2 * (e : Int)) (by omega) (by omega), wrs (x := 20 * (a : Int) + 2 * (e : Int)) (by omega) (by omega), wrs (x := 20 * (a : Int) + 2 * (e : Int) + (u : Int)) (by omega) (by omega)]
                omega
              rw [eix, Int.toNat_natCast, j2 (ad S e) (2 * e + u) hadl hc20, if_neg (Nat.lt_irrefl _)]
              have ib : (0 : Int) ≤ ((20 * ad S e + (2 * e + u) : Nat) : Int) ∧ ((20 * ad S e + (2 * e + u) : Nat) : Int) < 20480 := ⟨by omega, by omega⟩
              refine ⟨ib, fun w => keep (fun S2 => ?_), fun w => ⟨ib, fun M5 em => ihu M5 ⟨?_, fun S2 d h1 h2 => ?_⟩⟩⟩
              · by_cases q : cdE s S S2 (2 * e + u)
                · have := hcd' S2 q
                  subst this
                  rw [hup _ q]; unfold mn; rw [if_neg (by omega)]
                · rw [upS_off q]
              · rw [em]; exact j1.trans (EqX.mset (by decide))
              · by_cases q2 : d = 2 * e + u
                · subst q2
                  rw [if_pos (by omega)]
                  by_cases q3 : S2 = ad S e
                  · subst q3
                    rw [em, mset_self, hup _ hcd]; unfold mn; rw [if_pos (by omega)]
                  · rw [em, mset_ne (fun p => q3 (by have := p.2.2; omega)), j2 S2 _ h1 h2, if_neg (Nat.lt_irrefl _), upS_off (fun p => q3 (hcd' S2 p))]
                · rw [em, mset_ne (fun p => q2 (by have := p.2.2; omega)), j2 S2 d h1 h2]
                  by_cases q : d < 2 * e + u
                  · rw [if_pos q, if_pos (by omega)]
                  · rw [if_neg q, if_neg (by omega)]
            · refine keep9 ?_
              rw [hsn, if_pos (by omega)]
              unfold vf; rw [if_neg x]
        exact inner 0 Mc (by omega) ⟨i1, i2⟩
  exact loop 0 M (by omega) ⟨EqX.rf, fun S2 d h1 h2 => by rw [if_neg (by omega)]; exact hM S2 d h1 h2⟩
theorem c12_worthOf {Q : Int → Mem → Prop} {S : Nat} (hs : sd M = s) (LO : LOK s) (hS : S < 1024) (h : Q (wS s S (s 7).toNat) M) : OkI G (n + 1) mX12_worthOf [vO 0, vI (S : Int)] M Q := by
  have l7 := LO.1
  have e7 : M 0 26 7 = s 7 := by rw [← hs]; rfl
  refine eX12_worthOf (fun Kx => bX12_worthOf_0 ?_)
  have loop : ∀ (k : Nat) (_ : Unit), k ≤ (s 7).toNat → True → CW G Kx mX12_worthOf (n + 1) 4 [some (vO 0), some (vI (S : Int)), some (vI (wS s S k)), some (vI (k : Int))] [] M (qI Q) := by
    refine up_ind (fun _ _ => ?_) (fun k _ hk _ ih => ?_)
    · refine bX12_worthOf_4 ?_
      rw [e7]
      exact ⟨fun _ => h, fun z => absurd (by omega) z⟩
    · have hk' : (k : Int) < s 7 := by omega
      have ih' := ih () trivial
      have hr := LO.er (e := (k : Int)) (by omega) hk'
      have hw := wS_rng LO (S := S) k (by omega)
      unfold wS at ih'
      refine bX12_worthOf_4 ?_
      rw [e7, wr_n (b := 11) (k := k) (by omega) (by omega)]
      refine ⟨fun z => absurd z (by omega), fun _ => c12_isOf (fun z => ⟨fun y => absurd y (by decide), fun _ => c12_er hs (by omega) (by omega) (by decide) (by decide) ?_⟩) (fun z => ⟨fun _ => ?_, fun y => absurd rfl y⟩)⟩
      · rw [k_bitN (by omega) (by omega)] at z
        have hb : S.testBit k = true := by
          cases q : S.testBit k
          · rw [q] at z; exact absurd z (by decide)
          · rfl
        rw [if_pos hb] at ih'
        rw [wrs (x := wS s S k + s (212 + 4 * (k : Int) + 3)) (by omega) (by omega)]
        exact ih'
      · rw [k_bitN (by omega) (by omega)] at z
        have hb : ¬ S.testBit k = true := fun q => by rw [if_pos q] at z; exact z rfl
        rw [if_neg hb] at ih'
        rw [wrs (x := wS s S k + 0) (by omega) (by omega)]
        exact ih'
  exact loop 0 () (by omega) trivial
theorem c12_soonestDone {Q : Int → Mem → Prop} {S : Nat} {B : Nat → Int} (hS : S < 1024) (hM : ∀ c, c < 20 → M 0 32 (20 * S + c) = B c) (h : Q (sM B 20) M) : OkI G n mX12_soonestDone [vO 0, vI (S : Int)] M Q := by
  refine eX12_soonestDone (fun Kx => bX12_soonestDone_0 ?_)
  have loop : ∀ (k : Nat) (_ : Unit), k ≤ 20 → True → CW G Kx mX12_soonestDone n 5 [some (vO 0), some (vI (S : Int)), some (vI (sM B k)), some (vI (k : Int))] [] M (qI Q) := by
    refine up_ind (fun _ _ => ?_) (fun k _ hk _ ih => ?_)
    · exact bX12_soonestDone_5 ⟨fun _ => h, fun z => absurd (Int.le_refl _) z⟩
    · have ih' := ih () trivial
      unfold sM at ih'
      refine bX12_soonestDone_5 ⟨fun z => absurd z (by omega), fun _ => ?_⟩
      rw [ix20m hS hk, Int.toNat_natCast, hM k hk, wr_n (b := 21) (k := k) (by omega) (by omega)]
      have ib : (0 : Int) ≤ ((20 * S + k : Nat) : Int) ∧ ((20 * S + k : Nat) : Int) < 20480 := ⟨by omega, by omega⟩
      refine ⟨ib, fun z => ?_, fun z => ⟨ib, ?_⟩⟩
      · rw [if_neg (by omega)] at ih'; exact ih'
      · rw [if_pos (by omega)] at ih'; exact ih'
  exact loop 0 () (by omega) trivial
theorem upS_same {src : Src} {S c : Nat} {B : Nat → Nat → Int} : upS s src S B S c = B S c := upS_off (fun w => by have := ad_gt w.2.1; have := w.2.2; omega)
theorem bw_lt {m0 : Int} : ∀ S, (bw s st m0 S).1 < S ∨ (bw s st m0 S).1 = 0
  | 0 => Or.inr rfl
  | S + 1 => by
    rw [bw_s]
    split
    · exact Or.inl (Nat.lt_succ_self _)
    · rcases bw_lt (m0 := m0) S with q | q
      · exact Or.inl (by omega)
      · exact Or.inr q
abbrev bsF : List (Nat × Nat) := [(0, 28), (0, 29), (0, 32)]
set_option maxHeartbeats 800000 in
theorem c12_best {x1 x2 x3 x4 : Int} {Q : Int → Mem → Prop} (hs : sd M = s) (K : HOK s) (LO : LOK s) (no : ¬ (0 ≤ x1 ∧ x1 < s 0 ∧ 0 ≤ x2 ∧ x2 ≤ 1439 ∧ 0 ≤ x4 ∧ x4 ≤ 2) → Q (-1) M)
    (yes : 0 ≤ x1 → x1 < s 0 → 0 ≤ x2 → x2 ≤ 1439 → 0 ≤ x4 → x4 ≤ 2 → ∀ (M' : Mem) (b : Nat × Int), b = bw s (src1 x1 (if x3 = 0 then 1 else 0) x2) x2 (2 ^ (s 7).toNat) → EqX bsF M M' → (x4 = 0 → Q (wS s b.1 (s 7).toNat) M') ∧ (x4 = 1 → Q (b.1 : Int) M') ∧ (x4 = 2 → Q b.2 M')) :
    OkI G (n + 4) mX12_best [vO 0, vI x1, vI x2, vI x3, vI x4] M Q := by
  have k16 := K.2.1
  have l7 := LO.1
  have hE := E1024 LO
  have hEp : 0 < 2 ^ (s 7).toNat := Nat.pow_pos (by decide)
  refine eX12_best (fun Kx => bX12_best_0 (c12_isRoom (fun p1 p2 => ⟨fun y => absurd y (by decide), fun _ => c12_isMinute (fun p3 p4 => ⟨fun y => absurd y (by decide), fun _ => c12_in (fun p5 p6 => ⟨fun _ => ?_, fun y => absurd y (by decide)⟩) (fun z => ⟨fun y => absurd rfl y, fun _ => no (by omega)⟩)⟩) (fun z => ⟨fun _ => no (by omega), fun y => absurd rfl y⟩)⟩) (fun z => ⟨fun _ => no (by rw [hs] at z; omega), fun y => absurd rfl y⟩)))
  rw [hs] at p2
  have yes' := yes p1 p2 p3 p4 p5 p6
  clear yes no
  have hu : VN s x1 (if x3 = 0 then 1 else 0) := ⟨p1, p2, by split; exact Or.inr rfl; exact Or.inl rfl⟩
  have hst : SOK s (src1 x1 (if x3 = 0 then 1 else 0) x2) := src1_ok hu p3 p4
  have hgd := bt_gB K LO hst
  have sets : ∀ (S : Nat) (Mc : Mem), S ≤ 2 ^ (s 7).toNat → (1 ≤ S ∧ EqX bsF M Mc ∧ RTb s Mc (bt s (src1 x1 (if x3 = 0 then 1 else 0) x2) S)) → CW G Kx mX12_best (n + 4) 77 [some (vO 0), none, none, none, some (vI x4), some (vI ((bw s (src1 x1 (if x3 = 0 then 1 else 0) x2) x2 S).1 : Int)), some (vI (bw s (src1 x1 (if x3 = 0 then 1 else 0) x2) x2 S).2), some (vI (S : Int)), none] [] Mc (qI Q) := by
    refine up_ind (fun Mc i => ?_) (fun S Mc hS i ih => ?_)
    · obtain ⟨i0, i1, i2⟩ := i
      have es : sd Mc = s := (DR4 i1 (by decide)).trans hs
      have e7 : Mc 0 26 7 = s 7 := by rw [← es]; rfl
      obtain ⟨q0, q1, q2⟩ := yes' Mc _ rfl i1
      have hb := bw_lt (s := s) (st := src1 x1 (if x3 = 0 then 1 else 0) x2) (m0 := x2) (2 ^ (s 7).toNat)
      refine bX12_best_77 ?_
      rw [e7, shE LO]
      refine ⟨fun _ => ⟨fun z => ⟨fun y => q2 (by omega), fun y => q1 y⟩, fun z => c12_worthOf es LO (by omega) (q0 z)⟩, fun z => absurd (Int.le_refl _) z⟩
    · obtain ⟨i0, i1, i2⟩ := i
      have es : sd Mc = s := (DR4 i1 (by decide)).trans hs
      have e7 : Mc 0 26 7 = s 7 := by rw [← es]; rfl
      have hS0 : S ≠ 0 := by omega
      have hb := bw_lt (s := s) (st := src1 x1 (if x3 = 0 then 1 else 0) x2) (m0 := x2) S
      have hbs := bw_s (s := s) (st := src1 x1 (if x3 = 0 then 1 else 0) x2) (m0 := x2) S
      have hbt := bt_s (s := s) (st := src1 x1 (if x3 = 0 then 1 else 0) x2) S
      have esb : srcB s (src1 x1 (if x3 = 0 then 1 else 0) x2) (bt s (src1 x1 (if x3 = 0 then 1 else 0) x2) S S) S 20 = srcC s (bt s (src1 x1 (if x3 = 0 then 1 else 0) x2) S S) 20 := if_neg hS0
      rw [esb] at hbt
      have hg := hgd S
      refine bX12_best_77 ?_
      rw [e7, shE LO]
      refine ⟨fun z => absurd z (by omega), fun _ => ?_⟩
      have ih' : ∀ Mc' : Mem, EqX bsF M Mc' → RTb s Mc' (bt s (src1 x1 (if x3 = 0 then 1 else 0) x2) (S + 1)) → ∀ b, b = bw s (src1 x1 (if x3 = 0 then 1 else 0) x2) x2 (S + 1) → CW G Kx mX12_best (n + 4) 77 [some (vO 0), none, none, none, some (vI x4), some (vI (b.1 : Int)), some (vI b.2), some (vI (wr ((S : Int) + 1))), none] [] Mc' (qI Q) := by
        intro Mc' a1 a2 b hb
        rw [hb, wr_n (b := 2000) (k := S) (by omega) (by omega)]
        exact ih Mc' ⟨by omega, a1, a2⟩
      rw [hbs, hbt] at ih'
      clear ih hbs hbt esb
      generalize bw s (src1 x1 (if x3 = 0 then 1 else 0) x2) x2 S = bb at *
      generalize bt s (src1 x1 (if x3 = 0 then 1 else 0) x2) S = B at *
      obtain ⟨b, when⟩ := bb
      dsimp only at *
      have hgS := hg S
      have cells : ∀ (k : Nat) (M2 : Mem), k ≤ 20 → (EqX bsF M M2 ∧ RTb s M2 (upS s (srcC s (B S) k) S B)) → CW G Kx mX12_best (n + 4) 94 [some (vO 0), none, none, none, some (vI x4), some (vI (b : Int)), some (vI when), some (vI (S : Int)), some (vI (k : Int))] [] M2 (qI Q) := by
        refine up_ind (fun M2 j => ?_) (fun k M2 hk j ihk => ?_)
        · obtain ⟨j1, j2⟩ := j
          have es2 : sd M2 = s := (DR4 j1 (by decide)).trans hs
          refine bX12_best_94 ⟨fun _ => ?_, fun z => absurd (Int.le_refl _) z⟩
          refine c12_soonestDone (B := B S) (by omega) (fun c hc => by rw [j2 S c hS hc, upS_same]) ?_
          have hso := sM_gd (B := B S) (fun c => by rcases hgS c with q | q; exact Or.inl ⟨q.1, q.2.1⟩; exact Or.inr q) 20
          have ihn := ih' M2 j1 j2
          generalize sM (B S) 20 = so at *
          have skip : ¬ (so ≤ 1439 ∧ (wS s b (s 7).toNat < wS s S (s 7).toNat ∨ (wS s S (s 7).toNat = wS s b (s 7).toNat ∧ so < when))) → CW G Kx mX12_best (n + 4) 77 [some (vO 0), none, none, none, some (vI x4), some (vI (b : Int)), some (vI when), some (vI (wr ((S : Int) + 1))), none] [] M2 (qI Q) := fun z => ihn (b, when) (by rw [if_neg (fun w => z w.2)])
          have take : (so ≤ 1439 ∧ (wS s b (s 7).toNat < wS s S (s 7).toNat ∨ (wS s S (s 7).toNat = wS s b (s 7).toNat ∧ so < when))) → CW G Kx mX12_best (n + 4) 77 [some (vO 0), none, none, none, some (vI x4), some (vI (S : Int)), some (vI so), some (vI (wr ((S : Int) + 1))), none] [] M2 (qI Q) := fun z => ihn (S, so) (by rw [if_pos ⟨hS0, z⟩])
          have wo : ∀ (X : Nat) {Q : Int → Mem → Prop}, X < 1024 → Q (wS s X (s 7).toNat) M2 → OkI G (n + 3) mX12_worthOf [vO 0, vI (X : Int)] M2 Q := fun X Q hX hQ => c12_worthOf es2 LO hX hQ
          refine ⟨fun z => skip (by omega), fun z => wo S (by omega) (wo b (by omega) ⟨fun y => skip (by omega), fun y => wo S (by omega) (wo b (by omega) ⟨fun x => take (by omega), fun x => ⟨fun w => take (by omega), fun w => skip (by omega)⟩⟩)⟩)⟩
        · obtain ⟨j1, j2⟩ := j
          have es2 : sd M2 = s := (DR4 j1 (by decide)).trans hs
          have e32 : M2 0 32 (20 * S + k) = B S k := by rw [j2 S k hS hk, upS_same]
          have ib : (0 : Int) ≤ ((20 * S + k : Nat) : Int) ∧ ((20 * S + k : Nat) : Int) < 20480 := ⟨by omega, by omega⟩
          refine bX12_best_94 ⟨fun z => absurd z (by omega), fun _ => ?_⟩
          rw [ix20m (by omega) hk, Int.toNat_natCast, e32, td2 hk, tm2 hk, wr_n (b := 21) (k := k) (by omega) (by omega)]
          refine ⟨ib, fun z => ?_, fun z => ?_⟩
          · have hgk : 0 ≤ B S k ∧ B S k ≤ 1439 ∧ ((k / 2 : Nat) : Int) < s 7 := by
              rcases hgS k with q | q
              · exact q
              · exact absurd q z
            have hr := LO.er (e := ((k / 2 : Nat) : Int)) (by omega) hgk.2.2
            refine c12_er es2 (by omega) (by omega) (by decide) (by decide) ⟨ib, ?_⟩
            rw [e32]
            have er : s (212 + 4 * ((k / 2 : Nat) : Int) + 0) = rmE s k := rfl
            rw [er] at hr ⊢
            have hgo : ∀ M3 : Mem, EqX [(0, 28), (0, 29)] M2 M3 → Tab s (src1c s (B S) k) (tbM M3) → OkV G (n + 3) mX12_doesNext [vO 0, vI (S : Int)] M3 (fun M8 => CW G Kx mX12_best (n + 4) 94 [some (vO 0), none, none, none, some (vI x4), some (vI (b : Int)), some (vI when), some (vI (S : Int)), some (vI ((k + 1 : Nat) : Int))] [] M8 (qI Q)) := by
              intro M3 a1 a2
              have es3 : sd M3 = s := (DR4 a1 (by decide)).trans es2
              have h1c : SOK s (src1c s (B S) k) := src1_ok ⟨hr.1.1, hr.1.2, by omega⟩ hgk.1 hgk.2.1
              have hsk := srcC_ok K LO (B := B S) hgS k
              refine c12_doesNext (src := src1c s (B S) k) (B := upS s (srcC s (B S) k) S B) es3 K LO hS h1c a2 (upS_gB K LO hsk hg) (fun S2 c d1 d2 => by rw [a1 0 32 _ (by decide)]; exact j2 S2 c d1 d2) (fun M4 c1 c2 => ?_)
              refine ihk M4 ⟨(j1.trans (a1.sub (by decide))).trans (c1.sub (by decide)), ?_⟩
              rw [srcC_on hgk.2.1, upS_or K LO hsk h1c]
              exact c2
            have hr1 : 0 ≤ rmE s k ∧ rmE s k < sd M2 0 := by rw [es2]; exact hr.1
            refine ⟨fun y => c12_spreads (by rw [es2]; exact K) hr1 hgk.1 hgk.2.1 (fun M3 a1 a2 _ => hgo M3 a1 ?_), fun y => c12_spreads (by rw [es2]; exact K) hr1 hgk.1 hgk.2.1 (fun M3 a1 a2 _ => hgo M3 a1 ?_)⟩
            · rw [es2, if_pos rfl] at a2
              have : ((k % 2 : Nat) : Int) = 1 := by omega
              unfold src1c; rw [this]; exact a2
            · rw [es2, if_neg (by decide)] at a2
              have : ((k % 2 : Nat) : Int) = 0 := by omega
              unfold src1c; rw [this]; exact a2
          · have hne : ¬ B S k ≤ 1439 := by omega
            refine ihk M2 ⟨j1, ?_⟩
            rw [srcC_off hne]; exact j2
      refine cells 0 Mc (by omega) ⟨i1, ?_⟩
      rw [upS_none K LO srcC_0 hg]; exact i2
  have init : ∀ (k : Nat) (Mc : Mem), k ≤ 20480 → (EqX [(0, 32)] M Mc ∧ ∀ j, j < k → Mc 0 32 j = 99999) → CW G Kx mX12_best (n + 4) 33 [some (vO 0), some (vI x1), some (vI x2), some (vI x3), some (vI x4), some (vI (k : Int)), none, none, none] [] Mc (qI Q) := by
    refine up_ind (fun Mc i => ?_) (fun k Mc hk i ih => ?_)
    · have es : sd Mc = s := (DR4 i.1 (by decide)).trans hs
      refine bX12_best_33 ⟨fun _ => ?_, fun z => absurd (by decide) z⟩
      refine c12_spreads (by rw [es]; exact K) (by rw [es]; exact ⟨p1, p2⟩) p3 p4 (fun M1 a1 a2 _ => ?_)
      rw [es] at a2
      have es1 : sd M1 = s := (DR4 a1 (by decide)).trans es
      refine c12_doesNext (S := 0) (B := bt s (src1 x1 (if x3 = 0 then 1 else 0) x2) 0) es1 K LO hEp hst a2 (hgd 0) (fun S2 c d1 d2 => by rw [a1 0 32 _ (by decide), i.2 _ (by omega)]; rfl) (fun M2 c1 c2 => ?_)
      have := sets 1 M2 (by omega) ⟨by omega, ((i.1.sub (by decide)).trans (a1.sub (by decide))).trans (c1.sub (by decide)), by rw [bt_s]; exact c2⟩
      exact this
    · refine bX12_best_33 ⟨fun z => absurd z (by omega), fun _ => ⟨⟨by omega, by omega⟩, fun M3 em => ?_⟩⟩
      rw [Int.toNat_natCast] at em
      rw [wr_n (b := 20481) (k := k) (by omega) (by omega)]
      refine ih M3 ⟨by rw [em]; exact i.1.trans (EqX.mset (by decide)), fun j hj => ?_⟩
      by_cases e : j = k
      · rw [em, e, mset_self]
      · rw [em, mset_ne (fun w => e w.2.2)]; exact i.2 j (by omega)
  exact init 0 M (by omega) ⟨EqX.rf, fun j hj => by omega⟩
end BSM
