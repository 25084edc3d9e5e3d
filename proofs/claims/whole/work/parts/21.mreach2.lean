section MR2
variable {G : Gx} {n : Nat} {M : Mem} {s : Int → Int} {S : Src}
/-- the table between two nodes -/
def DS (s : Int → Int) (S : Src) (M : Mem) (now : Int) : Prop :=
  (∀ j : Nat, j < 32 → 0 ≤ M 0 28 j ∧ M 0 28 j ≤ 99999) ∧ (∀ j : Nat, j < 32 → M 0 28 j ≤ 1439 → VN s ((j / 2 : Nat) : Int) ((j % 2 : Nat) : Int)) ∧ Snd s S (tbM M) ∧ (∀ r u m, S r u m → tbM M r u ≤ m) ∧
  (∀ r u, VN s r u → dnM M r u ≠ 0 → tbM M r u ≤ now) ∧ (∀ r u, VN s r u → dnM M r u = 0 → now ≤ tbM M r u) ∧
  (∀ r u, VN s r u → dnM M r u ≠ 0 → ∀ r' u' m', Ed s r u (tbM M r u) r' u' m' → m' ≤ 1439 → tbM M r' u' ≤ m') ∧ 0 ≤ now
def GM (s : Int → Int) (M : Mem) (now r0 u0 w : Int) : Prop := 0 ≤ endW s w r0 → opW s w now ≤ 1439 → opW s w now + s (28 + 6 * w + 2) ≤ 1439 → tbM M (endW s w r0) u0 ≤ opW s w now + s (28 + 6 * w + 2)
theorem JJ_DS {now r0 u0 : Int} (h : JJ s S M now r0 u0) (hw : ∀ w, 0 ≤ w → w < s 1 → GM s M now r0 u0 w) (hh : u0 = 0 → 0 < s 4 → ∀ t, isTop s t → hoM s now ≤ 1439 → hoM s now + s 4 ≤ 1439 → tbM M t 1 ≤ hoM s now + s 4) : DS s S M now := by
  obtain ⟨a1, a2, a3, a4, a5, a6, a7, a8, a9, a10, a11, a12⟩ := h
  refine ⟨a1, a2, a3, a4, a5, a6, fun r u hu hd r' u' m' he hm => ?_, a11⟩
  by_cases e : r = r0 ∧ u = u0
  · rw [e.1, e.2, a9] at he
    rcases he with ⟨rfl, b, w, w1, w2, w3, w4, rfl⟩ | ⟨b, rfl, c, d, g, rfl⟩
    · subst w3; exact hw w w1 w2 b w4 hm
    · exact hh b c r' d g hm
  · exact a7 r u hu hd e r' u' m' he hm
theorem l12_ways {Kx : Kx} {Q : Mem → Prop} {now r0 u0 : Int} (K : HOK s)
    (hend : ∀ M' : Mem, EqX [(0, 28)] M M' → DS s S M' now → OkI G (n + 2) mX12_nearest [vO 0] M' (fun r M2 => CW G Kx mX12_spreads (n + 3) 58 [some (vO 0), none, none, none, some (vI r), none, none, none] [] M2 (qV Q))) (hsd : sd M = s) :
    ∀ (f : Nat) (w : Int) (Mc : Mem), 0 ≤ w → w ≤ s 1 → (s 1 - w).toNat ≤ f → EqX [(0, 28)] M Mc → JJ s S Mc now r0 u0 → (∀ w', 0 ≤ w' → w' < w → GM s Mc now r0 u0 w') → CW G Kx mX12_spreads (n + 3) 83 [some (vO 0), none, none, none, some (vI (2 * r0 + u0)), some (vI now), some (vI w), none] [] Mc (qV Q) := by
  have k1 := K.2.1
  have k3 := K.2.2.2.1
  have hoi := K.hoist
  have fin : ∀ (w : Int) (Mc : Mem), w = s 1 → EqX [(0, 28)] M Mc → JJ s S Mc now r0 u0 → (∀ w', 0 ≤ w' → w' < w → GM s Mc now r0 u0 w') →
      (¬ wr (Int.tmod (2 * r0 + u0) 2) = 0 → OkI G (n + 2) mX12_nearest [vO 0] Mc (fun r_1 M1 => CW G Kx mX12_spreads (n + 3) 58 [some (vO 0), none, none, none, some (vI r_1), none, none, none] [] M1 (qV Q))) ∧ (wr (Int.tmod (2 * r0 + u0) 2) = 0 → (Mc 0 26 4 ≤ 0 → OkI G (n + 2) mX12_nearest [vO 0] Mc (fun r_2 M2 => CW G Kx mX12_spreads (n + 3) 58 [some (vO 0), none, none, none, some (vI r_2), none, none, none] [] M2 (qV Q))) ∧ (¬ (Mc 0 26 4 ≤ 0) → ((Mc 0 26 6) ≠ 0) ∧ ((1439 < wr ((wr (Int.tdiv (wr (wr (now + (Mc 0 26 6)) - 1)) (Mc 0 26 6))) * (Mc 0 26 6)) → OkI G (n + 2) mX12_nearest [vO 0] Mc (fun r_3 M3 => CW G Kx mX12_spreads (n + 3) 58 [some (vO 0), none, none, none, some (vI r_3), none, none, none] [] M3 (qV Q))) ∧ (¬ (1439 < wr ((wr (Int.tdiv (wr (wr (now + (Mc 0 26 6)) - 1)) (Mc 0 26 6))) * (Mc 0 26 6))) → OkI G (n + 2) mX12_topRoom [vO 0] Mc (fun r_4 M4 => OkV G (n + 2) mX12_comesTo [vO 0, vI (wr (wr (2 * r_4) + 1)), vI (wr (wr ((wr (Int.tdiv (wr (wr (now + (Mc 0 26 6)) - 1)) (Mc 0 26 6))) * (Mc 0 26 6)) + (M4 0 26 4)))] M4 (fun M5 => OkI G (n + 2) mX12_nearest [vO 0] M5 (fun r_5 M6 => CW G Kx mX12_spreads (n + 3) 58 [some (vO 0), none, none, none, some (vI r_5), none, none, none] [] M6 (qV Q)))))))) := by
    intro w Mc e h6 h7 h8
    subst e
    have hE : sd Mc = s := by funext i; rw [sd_eq h6 (by decide), hsd]
    have h7' := h7
    obtain ⟨a1, a2, a3, a4, a5, a6, a7, a8, a9, a10, a11, a12⟩ := h7'
    have hm : wr (Int.tmod (2 * r0 + u0) 2) = u0 := by
      obtain ⟨v1, v2, v3⟩ := a8
      rw [Int.tmod_eq_emod_of_nonneg (by omega)]; unfold wr; omega
    rw [hm]
    have e6 : Mc 0 26 6 = s 6 := congrFun hE 6
    have e4 : Mc 0 26 4 = s 4 := congrFun hE 4
    rw [e6, e4]
    refine ⟨fun b => hend Mc h6 (JJ_DS h7 (fun w' => h8 w') (fun z => absurd z b)), fun b => ⟨fun c => hend Mc h6 (JJ_DS h7 (fun w' => h8 w') (fun _ z => absurd z (by omega))), fun c => ?_⟩⟩
    have h6' : 1 ≤ s 6 ∧ s 6 ≤ 120 := by omega
    obtain ⟨g1, g2⟩ := hoM_le (s := s) a11 h6'.1
    have e1 : wr (wr (now + s 6) - 1) = now + s 6 - 1 := by unfold wr; omega
    have e2 : Int.tdiv (now + s 6 - 1) (s 6) = (now + s 6 - 1) / s 6 := Int.tdiv_eq_ediv_of_nonneg (by omega)
    have e3 : 0 ≤ (now + s 6 - 1) / s 6 := Int.ediv_nonneg (by omega) (by omega)
    have e5 : (now + s 6 - 1) / s 6 ≤ now + s 6 - 1 := Int.ediv_le_self _ (by omega)
    have e7 : wr (Int.tdiv (wr (wr (now + s 6) - 1)) (s 6)) = Int.tdiv (now + s 6 - 1) (s 6) := by rw [e1, e2]; exact wrs (by omega) (by omega)
    have e8 : wr (wr (Int.tdiv (wr (wr (now + s 6) - 1)) (s 6)) * s 6) = hoM s now := by rw [e7]; exact wrs (by unfold hoM at g1; omega) (by unfold hoM at g2; omega)
    rw [e8]
    refine ⟨by omega, fun d => hend Mc h6 (JJ_DS h7 (fun w' => h8 w') (fun _ _ t _ z => absurd z (by omega))), fun d => ?_⟩
    refine c12_topRoom (by rw [hE]; exact k1) (by rw [hE]; have := a8.2.1; have := a8.1; omega) (fun t ht => ?_)
    rw [hE] at ht
    have ht1 := ht.1
    have ht2 := ht.2.1
    rw [e4, wrs (x := hoM s now + s 4) (by omega) (by omega), show wr (wr (2 * t) + 1) = 2 * t + 1 by unfold wr; omega]
    have hu0 : u0 = 0 := b
    refine c12_try (S := S) K h7 ⟨ht1, ht2, Or.inr rfl⟩ (by omega) (by omega) (fun z => ?_) (fun M' i1 i2 i3 i4 => ?_)
    · have hr := a3 r0 u0 a8 (by omega)
      rw [a9] at hr
      exact Rch_step hr (Or.inr ⟨hu0, rfl, by omega, ht, by omega, rfl⟩) z
    · refine hend M' (h6.trans i1) (JJ_DS i2 (fun w' w1 w2 x1 x2 x3 => ?_) (fun _ _ t' ht' _ _ => ?_))
      · have hend' := endW_in K (r := r0) w1 w2
        exact Int.le_trans (i3 _ u0 ⟨x1, by omega, a8.2.2⟩) (h8 w' w1 w2 x1 x2 x3)
      · rw [isTop_one ht' ht]; exact i4
  intro f
  induction f with
  | zero =>
    intro w Mc h2 h3 h4 h6 h7 h8
    have hE : sd Mc = s := by funext i; rw [sd_eq h6 (by decide), hsd]
    have e1 : Mc 0 26 1 = s 1 := congrFun hE 1
    refine bX12_spreads_83 ⟨fun _ => fin w Mc (by omega) h6 h7 h8, fun a => absurd (by rw [e1]; omega) a⟩
  | succ f ih =>
    intro w Mc h2 h3 h4 h6 h7 h8
    have hE : sd Mc = s := by funext i; rw [sd_eq h6 (by decide), hsd]
    have e1 : Mc 0 26 1 = s 1 := congrFun hE 1
    refine bX12_spreads_83 ⟨fun a => fin w Mc (by rw [e1] at a; omega) h6 h7 h8, fun a => ?_⟩
    rw [e1] at a
    have hw : w < s 1 := by omega
    have h7' := h7
    obtain ⟨a1, a2, a3, a4, a5, a6, a7, a8, a9, a10, a11, a12⟩ := h7'
    have v8 := a8
    obtain ⟨v1, v2, v3⟩ := v8
    have hd : wr (Int.tdiv (2 * r0 + u0) 2) = r0 := by
      rw [Int.tdiv_eq_ediv_of_nonneg (by omega)]; unfold wr; omega
    have hm : wr (Int.tmod (2 * r0 + u0) 2) = u0 := by
      rw [Int.tmod_eq_emod_of_nonneg (by omega)]; unfold wr; omega
    rw [hd, hm, wrs (x := w + 1) (by omega) (by omega)]
    have hend' := endW_in K (r := r0) h2 hw
    obtain ⟨-, -, wm, -, wd⟩ := K.way h2 hw
    have skip : GM s Mc now r0 u0 w → CW G Kx mX12_spreads (n + 3) 83 [some (vO 0), none, none, none, some (vI (2 * r0 + u0)), some (vI now), some (vI (w + 1)), none] [] Mc (qV Q) := by
      intro hg
      refine ih (w + 1) Mc (by omega) (by omega) (by omega) h6 h7 (fun w' w1 w2 => ?_)
      by_cases e : w' = w
      · subst e; exact hg
      · exact h8 w' w1 (by omega)
    refine c12_endOf h2 (by omega) ?_
    rw [hE]
    refine ⟨fun b => skip (fun z => absurd z (by omega)), fun b => c12_opens h2 (by omega) ?_⟩
    rw [hE]
    refine ⟨fun c => skip (fun _ z => absurd z (by omega)), fun c => c12_opens h2 (by omega) (c12_wayOf h2 (by omega) (by decide) (by decide) ?_)⟩
    rw [hE]
    have hge := opW_ge K h2 hw a11 a12 (by omega)
    rw [wrs (x := opW s w now + s (28 + 6 * w + 2)) (by omega) (by omega), show wr (wr (2 * endW s w r0) + u0) = 2 * endW s w r0 + u0 by unfold wr; omega]
    refine c12_try (S := S) K h7 ⟨by omega, by omega, v3⟩ (by omega) (by omega) (fun z => ?_) (fun M' i1 i2 i3 i4 => ?_)
    · have hr := a3 r0 u0 a8 (by omega)
      rw [a9] at hr
      exact Rch_step hr (Or.inl ⟨rfl, by omega, w, h2, hw, rfl, by omega, rfl⟩) z
    · refine ih (w + 1) M' (by omega) (by omega) (by omega) (h6.trans i1) i2 (fun w' w1 w2 => ?_)
      by_cases e : w' = w
      · subst e; exact fun _ _ _ => i4
      · intro x1 x2 x3
        have hend2 := endW_in K (r := r0) w1 (show w' < s 1 by omega)
        exact Int.le_trans (i3 _ u0 ⟨x1, by omega, v3⟩) (h8 w' w1 (by omega) x1 x2 x3)
/-- the main loop -/
theorem l12_main {Kx : Kx} {Q : Mem → Prop} (K : HOK s) (hS : SOK s S) (hsd : sd M = s)
    (h : ∀ M' : Mem, EqX [(0, 28), (0, 29)] M M' → Tab s S (tbM M') → (∀ j : Nat, j < 32 → 0 ≤ M' 0 28 j ∧ M' 0 28 j ≤ 99999) → Q M') :
    ∀ (f : Nat) (now : Int) (Mc : Mem), nfc (fun j => Mc 0 29 j = 0) 32 ≤ f → EqX [(0, 28), (0, 29)] M Mc → DS s S Mc now → OkI G (n + 2) mX12_nearest [vO 0] Mc (fun r M2 => CW G Kx mX12_spreads (n + 3) 58 [some (vO 0), none, none, none, some (vI r), none, none, none] [] M2 (qV Q)) := by
  have k1 := K.2.1
  intro f
  induction f with
  | zero =>
    intro now Mc hf h6 hds
    refine c12_nearest (fun hN => bX12_spreads_58 ⟨fun _ => ?_, fun z => absurd (by decide) z⟩) (fun k hk1 hk2 hk3 hk4 => absurd hk2 (nfc_zero (P := fun j => Mc 0 29 j = 0) 32 (by omega) k hk1))
    obtain ⟨a1, a2, a3, a4, a5, a6, a7, a8⟩ := hds
    refine h Mc h6 ⟨a3, fun r u hv m hm => ?_⟩ a1
    obtain ⟨q, hq⟩ := hm
    refine closed_fin K hS a4 (fun r u hv => (a1 _ (by obtain ⟨b1, b2, b3⟩ := hv; omega)).1) (fun r u hv hle r' u' m' he hm' => a7 r u hv (fun z => ?_) r' u' m' he hm') q r u m hq
    exact nfc_zero 32 (show nfc (fun j => Mc 0 29 j = 0) 32 = 0 by omega) (2 * r + u).toNat (by obtain ⟨b1, b2, b3⟩ := hv; omega) z
  | succ f ih =>
    intro now Mc hf h6 hds
    obtain ⟨a1, a2, a3, a4, a5, a6, a7, a8⟩ := hds
    refine c12_nearest (fun hN => bX12_spreads_58 ⟨fun _ => ?_, fun z => absurd (by decide) z⟩) (fun k hk1 hk2 hk3 hk4 => ?_)
    · refine h Mc h6 ⟨a3, fun r u hv m hm => ?_⟩ a1
      obtain ⟨q, hq⟩ := hm
      refine closed_fin K hS a4 (fun r u hv => (a1 _ (by obtain ⟨b1, b2, b3⟩ := hv; omega)).1) (fun r u hv hle r' u' m' he hm' => a7 r u hv (fun z => ?_) r' u' m' he hm') q r u m hq
      have := hN (2 * r + u).toNat (by obtain ⟨b1, b2, b3⟩ := hv; omega) z
      have : 1439 < tbM Mc r u := this
      omega
    · have hv := a2 k hk1 hk3
      generalize hr0 : ((k / 2 : Nat) : Int) = r0 at hv
      generalize hu0 : ((k % 2 : Nat) : Int) = u0 at hv
      have hk : (k : Int) = 2 * r0 + u0 := by omega
      have hkn : k = (2 * r0 + u0).toNat := by omega
      refine bX12_spreads_58 ⟨fun z => absurd z (by omega), fun _ => ⟨⟨by omega, by omega⟩, fun M1 e1 => ⟨⟨by omega, by omega⟩, ?_⟩⟩⟩
      rw [Int.toNat_natCast] at e1 ⊢
      have hM1 : EqX [(0, 28), (0, 29)] M M1 := by rw [e1]; exact h6.trans (EqX.mset (by decide))
      have hE1 : sd M1 = s := by funext i; rw [sd_eq hM1 (by decide), hsd]
      have e28 : ∀ j, M1 0 28 j = Mc 0 28 j := fun j => by rw [e1]; exact mset_ne (by simp)
      have etb : tbM M1 = tbM Mc := by funext r u; exact e28 _
      have edn : ∀ r u, VN s r u → dnM M1 r u = if r = r0 ∧ u = u0 then 1 else dnM Mc r u := by
        intro r u hu
        unfold dnM
        rw [e1]
        by_cases e : r = r0 ∧ u = u0
        · rw [if_pos e, e.1, e.2, ← hkn, mset_self]
        · rw [if_neg e, mset_ne (fun z => e (VN_ix hu hv (by rw [z.2.2, hkn])))]
      have hnow : tbM Mc r0 u0 = Mc 0 28 k := by unfold tbM; rw [← hkn]
      have hund : dnM Mc r0 u0 = 0 := by unfold dnM; rw [← hkn]; exact hk2
      have hnn := a6 r0 u0 hv hund
      have hkk := a1 k hk1
      rw [e28, hk]
      have hJ : JJ s S M1 (Mc 0 28 k) r0 u0 := by
        refine ⟨fun j hj => by rw [e28]; exact a1 j hj, fun j hj hl => by rw [e28] at hl; exact a2 j hj hl, by rw [etb]; exact a3, by rw [etb]; exact a4, fun r u hu hd => ?_, fun r u hu hd => ?_, fun r u hu hd hne r' u' m' he hm => ?_, hv, by rw [etb]; exact hnow, by rw [edn r0 u0 hv, if_pos ⟨rfl, rfl⟩]; decide, hkk.1, hk3⟩
        · rw [etb]
          rw [edn r u hu] at hd
          by_cases e : r = r0 ∧ u = u0
          · rw [e.1, e.2]; omega
          · rw [if_neg e] at hd; have := a5 r u hu hd; omega
        · rw [etb]
          rw [edn r u hu] at hd
          by_cases e : r = r0 ∧ u = u0
          · rw [if_pos e] at hd; omega
          · rw [if_neg e] at hd
            exact hk4 (2 * r + u).toNat (by obtain ⟨b1, b2, b3⟩ := hu; omega) hd
        · rw [etb] at he ⊢
          rw [edn r u hu, if_neg hne] at hd
          exact a7 r u hu hd r' u' m' he hm
      refine l12_ways (S := S) (M := M1) K (fun M' i1 i2 => ?_) hE1 (s 1).toNat 0 M1 (Int.le_refl _) K.2.2.1 (by omega) EqX.rf hJ (fun w' w1 w2 => by omega)
      refine ih (Mc 0 28 k) M' ?_ (hM1.trans (i1.sub (by decide))) i2
      have e29 : (fun j => M' 0 29 j = 0) = (fun j => M1 0 29 j = 0) := by funext j; rw [i1 0 29 j (by decide)]
      rw [e29]
      have := nfc_lt (P := fun j => Mc 0 29 j = 0) (P' := fun j => M1 0 29 j = 0) (fun j hj => by
        have hj' : M1 0 29 j = 0 := hj
        rw [e1] at hj'
        by_cases e : j = k
        · subst e; exact hk2
        · rw [mset_ne (fun z => e z.2.2)] at hj'; exact hj') (j := k) hk2 (by show ¬ M1 0 29 k = 0; rw [e1, mset_self]; decide) 32 hk1
      omega
/-- after the rows are laid out -/
def MI (M Mc : Mem) (i : Nat) : Prop := EqX [(0, 28), (0, 29)] M Mc ∧ ∀ j : Nat, j < i → Mc 0 28 j = 99999 ∧ Mc 0 29 j = 0
theorem l12_init {Kx : Kx} {Q : Mem → Prop} {r0 m0 hz : Int} (K : HOK s) (hsd : sd M = s) (hv : 0 ≤ r0 ∧ r0 < s 0) (hm0 : 0 ≤ m0) (hm1 : m0 ≤ 1439)
    (h : ∀ M' : Mem, EqX [(0, 28), (0, 29)] M M' → Tab s (src1 r0 (if hz = 0 then 1 else 0) m0) (tbM M') → (∀ j : Nat, j < 32 → 0 ≤ M' 0 28 j ∧ M' 0 28 j ≤ 99999) → Q M') :
    ∀ (f i : Nat) (Mc : Mem), i ≤ 32 → 32 - i ≤ f → MI M Mc i → CW G Kx mX12_spreads (n + 3) 3 [some (vO 0), some (vI r0), some (vI m0), some (vI hz), some (vI (i : Int)), none, none, none] [] Mc (qV Q) := by
  have k1 := K.2.1
  have key : ∀ (u : Int) (Mc : Mem), (u = 0 ∨ u = 1) → (∀ M' : Mem, EqX [(0, 28), (0, 29)] M M' → Tab s (src1 r0 u m0) (tbM M') → (∀ j : Nat, j < 32 → 0 ≤ M' 0 28 j ∧ M' 0 28 j ≤ 99999) → Q M') → MI M Mc 32 → OkI G (n + 2) mX12_nearest [vO 0] (mset Mc 0 28 (2 * r0 + u).toNat m0) (fun r M2 => CW G Kx mX12_spreads (n + 3) 58 [some (vO 0), none, none, none, some (vI r), none, none, none] [] M2 (qV Q)) := by
    intro u Mc hu hq hmi
    have hvn : VN s r0 u := ⟨hv.1, hv.2, hu⟩
    have hval : ∀ j : Nat, j < 32 → mset Mc 0 28 (2 * r0 + u).toNat m0 0 28 j = if j = (2 * r0 + u).toNat then m0 else 99999 := by
      intro j hj
      by_cases e : j = (2 * r0 + u).toNat
      · rw [if_pos e, e, mset_self]
      · rw [if_neg e, mset_ne (fun z => e z.2.2)]; exact (hmi.2 j hj).1
    have htb : ∀ r u', VN s r u' → tbM (mset Mc 0 28 (2 * r0 + u).toNat m0) r u' = if r = r0 ∧ u' = u then m0 else 99999 := by
      intro r u' hu'
      rw [tbM_set K hvn hu']
      by_cases e : r = r0 ∧ u' = u
      · rw [if_pos e, if_pos e]
      · rw [if_neg e, if_neg e]
        exact (hmi.2 _ (by obtain ⟨b1, b2, b3⟩ := hu'; omega)).1
    have hdn : ∀ r u', VN s r u' → dnM (mset Mc 0 28 (2 * r0 + u).toNat m0) r u' = 0 := by
      intro r u' hu'
      rw [dnM_set]
      exact (hmi.2 _ (by obtain ⟨b1, b2, b3⟩ := hu'; omega)).2
    refine l12_main (S := src1 r0 u m0) K (src1_ok hvn hm0 hm1) hsd hq 32 0 _ (nfc_n 32) (hmi.1.trans (EqX.mset (by decide))) ⟨fun j hj => ?_, fun j hj hl => ?_, fun r u' hu' hl => ?_, ?_, fun r u' hu' hd => absurd (hdn r u' hu') hd, fun r u' hu' hd => ?_, fun r u' hu' hd => absurd (hdn r u' hu') hd, Int.le_refl _⟩
    · rw [hval j hj]; split <;> omega
    · rw [hval j hj] at hl
      by_cases e : j = (2 * r0 + u).toNat
      · obtain ⟨e1, e2⟩ := NF_of (s := s) (D := tbM Mc) hvn
        rw [e, e1, e2]; exact hvn
      · rw [if_neg e] at hl; omega
    · rw [htb r u' hu'] at hl ⊢
      by_cases e : r = r0 ∧ u' = u
      · rw [if_pos e]; exact Rch_src ⟨e.1, e.2, rfl⟩
      · rw [if_neg e] at hl; omega
    · rintro r u' m ⟨rfl, rfl, rfl⟩
      rw [htb r u' hvn, if_pos ⟨rfl, rfl⟩]; exact Int.le_refl _
    · rw [htb r u' hu']; split <;> omega
  have last : ∀ (Mc : Mem), MI M Mc 32 → (hz = 0 → (0 ≤ wr (wr (2 * r0) + 1) ∧ wr (wr (2 * r0) + 1) < 32) ∧ (∀ M1 : Mem, M1 = mset Mc 0 28 (wr (wr (2 * r0) + 1)).toNat m0 → OkI G (n + 2) mX12_nearest [vO 0] M1 (fun r_1 M2 => CW G Kx mX12_spreads (n + 3) 58 [some (vO 0), none, none, none, some (vI r_1), none, none, none] [] M2 (qV Q)))) ∧ (¬ (hz = 0) → (0 ≤ wr (wr (2 * r0) + 0) ∧ wr (wr (2 * r0) + 0) < 32) ∧ (∀ M3 : Mem, M3 = mset Mc 0 28 (wr (wr (2 * r0) + 0)).toNat m0 → OkI G (n + 2) mX12_nearest [vO 0] M3 (fun r_2 M4 => CW G Kx mX12_spreads (n + 3) 58 [some (vO 0), none, none, none, some (vI r_2), none, none, none] [] M4 (qV Q)))) := by
    intro Mc hmi
    rw [show wr (wr (2 * r0) + 1) = 2 * r0 + 1 by unfold wr; omega, show wr (wr (2 * r0) + 0) = 2 * r0 + 0 by unfold wr; omega]
    refine ⟨fun a => ⟨⟨by omega, by omega⟩, fun M1 e => ?_⟩, fun a => ⟨⟨by omega, by omega⟩, fun M1 e => ?_⟩⟩
    · rw [if_pos a] at h; subst e; exact key 1 Mc (Or.inr rfl) h hmi
    · rw [if_neg a] at h; subst e; exact key 0 Mc (Or.inl rfl) h hmi
  intro f
  induction f with
  | zero =>
    intro i Mc h1 h2 h3
    have e : i = 32 := by omega
    subst e
    exact bX12_spreads_3 ⟨fun _ => last Mc h3, fun a => absurd (by decide) a⟩
  | succ f ih =>
    intro i Mc h1 h2 h3
    refine bX12_spreads_3 ⟨fun a => ?_, fun a => ⟨⟨by omega, by omega⟩, fun M5 e5 => ⟨⟨by omega, by omega⟩, fun M6 e6 => ?_⟩⟩⟩
    · have e : i = 32 := by omega
      subst e; exact last Mc h3
    · rw [Int.toNat_natCast] at e5 e6
      rw [wrs (by omega) (by omega)]
      refine ih (i + 1) M6 (by omega) (by omega) ⟨?_, fun j hj => ?_⟩
      · rw [e6, e5]; exact (h3.1.trans (EqX.mset (by decide))).trans (EqX.mset (by decide))
      · rw [e6, e5]
        by_cases e : j = i
        · subst e
          exact ⟨by rw [mset_ne (by simp), mset_self], by rw [mset_self]⟩
        · exact ⟨by rw [mset_ne (by simp), mset_ne (fun z => e z.2.2)]; exact (h3.2 j (by omega)).1, by rw [mset_ne (fun z => e z.2.2), mset_ne (by simp)]; exact (h3.2 j (by omega)).2⟩
theorem c12_spreads {Q : Mem → Prop} {r0 m0 hz : Int} (K : HOK (sd M)) (hv : 0 ≤ r0 ∧ r0 < sd M 0) (hm0 : 0 ≤ m0) (hm1 : m0 ≤ 1439)
    (h : ∀ M' : Mem, EqX [(0, 28), (0, 29)] M M' → Tab (sd M) (src1 r0 (if hz = 0 then 1 else 0) m0) (tbM M') → (∀ j : Nat, j < 32 → 0 ≤ M' 0 28 j ∧ M' 0 28 j ≤ 99999) → Q M') : OkV G (n + 3) mX12_spreads [vO 0, vI r0, vI m0, vI hz] M Q :=
  eX12_spreads (fun Kx => bX12_spreads_0 (l12_init K rfl hv hm0 hm1 h 32 0 M (by decide) (by decide) ⟨EqX.rf, fun j hj => absurd hj (Nat.not_lt_zero _)⟩))
theorem c12_soonestTo {Q : Int → Mem → Prop} {r : Int} (h1 : 0 ≤ r) (h2 : r < 16) (h : Q (if (if tbM M r 1 ≤ tbM M r 0 then tbM M r 1 else tbM M r 0) ≤ 1439 then (if tbM M r 1 ≤ tbM M r 0 then tbM M r 1 else tbM M r 0) else 99999) M) : OkI G n mX12_soonestTo [vO 0, vI r] M Q := by
  refine eX12_soonestTo (fun K => bX12_soonestTo_0 ?_)
  have e0 : wr (2 * r) = 2 * r + 0 := by unfold wr; omega
  have e1 : wr (wr (2 * r) + 1) = 2 * r + 1 := by unfold wr; omega
  rw [e1, e0]
  refine ⟨⟨by omega, by omega⟩, ⟨by omega, by omega⟩, fun a => ⟨⟨by omega, by omega⟩, fun b => ?_, fun b => ?_⟩, fun a => ⟨⟨by omega, by omega⟩, fun b => ?_, fun b => ?_⟩⟩
  · have a' : tbM M r 1 ≤ tbM M r 0 := a
    have b' : tbM M r 1 ≤ 1439 := b
    rw [if_pos a', if_pos b'] at h; exact h
  · have a' : tbM M r 1 ≤ tbM M r 0 := a
    have b' : ¬ tbM M r 1 ≤ 1439 := b
    rw [if_pos a', if_neg b'] at h; exact h
  · have a' : ¬ tbM M r 1 ≤ tbM M r 0 := a
    have b' : tbM M r 0 ≤ 1439 := b
    rw [if_neg a', if_pos b'] at h; exact h
  · have a' : ¬ tbM M r 1 ≤ tbM M r 0 := a
    have b' : ¬ tbM M r 0 ≤ 1439 := b
    rw [if_neg a', if_neg b'] at h; exact h
end MR2
