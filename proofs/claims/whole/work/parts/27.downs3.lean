section DM
variable {G : Gx} {n : Nat} {M : Mem} {s : Int → Int} {t : Int} {T : Int → Int × Int}
/-- counting up, for a loop -/
theorem up_ind {α : Type} {I : Nat → α → Prop} {C : Nat → α → Prop} {b : Nat} (last : ∀ a, I b a → C b a) (step : ∀ k a, k < b → I k a → (∀ a', I (k + 1) a' → C (k + 1) a') → C k a) : ∀ k a, k ≤ b → I k a → C k a := by
  have key : ∀ (f k : Nat) (a : α), k ≤ b → b - k ≤ f → I k a → C k a := by
    intro f
    induction f with
    | zero =>
      intro k a h1 h2 h3
      have e : k = b := by omega
      subst e
      exact last a h3
    | succ f ih =>
      intro k a h1 h2 h3
      by_cases e : k = b
      · subst e; exact last a h3
      · exact step k a (by omega) h3 (fun a' h => ih (k + 1) a' (by omega) (by omega) h)
  exact fun k a h1 h2 => key (b - k) k a h1 (Nat.le_refl _) h2
theorem wr_n {k : Nat} {b : Int} (h : (k : Int) < b) (hb : b ≤ 2000000) : wr ((k : Int) + 1) = ((k + 1 : Nat) : Int) := by
  rw [wrs (x := (k : Int) + 1) (by omega) (by omega)]; omega
def rr (M : Mem) (r : Int) : Int × Int := (M 0 30 r.toNat, M 0 31 r.toNat)
theorem l12_dw {Kx : Kx} {Q : Mem → Prop} {r h : Int} {F : Nat → Int × Int} {Z : Int × Int} (hs : sd M = s) (hF : ∀ k, cdF s T r k → F (k + 1) = (mn6 ((F k).1 + (T (s (28 + 6 * (k : Int) + 1))).1), mx (F k).2 ((T (s (28 + 6 * (k : Int) + 1))).2 + 1))) (hF' : ∀ k, ¬ cdF s T r k → F (k + 1) = F k) (hZ : F (s 1).toNat = Z) (gT : ∀ r, gdD 41 (T r)) (gF : ∀ k, gdD 42 (F k)) (K : HOK s) (h1 : 0 ≤ r) (h2 : r < s 0) (hh : s (12 + r) = h)
    (hT : ∀ j : Nat, (j : Int) < s 1 → isFl s j r → rr M (s (28 + 6 * (j : Int) + 1)) = T (s (28 + 6 * (j : Int) + 1)))
    (hQ : ∀ M' : Mem, EqX [(0, 30), (0, 31)] M M' → (∀ j : Int, 0 ≤ j → j ≠ r → rr M' j = rr M j) → rr M' r = Z → CW G Kx mX12_descends (n + 1) 66 [some (vO 0), none, some (vI h), some (vI (r + 1)), none, none] [] M' (qV Q)) :
    ∀ (k : Nat) (Mc : Mem), k ≤ (s 1).toNat → (EqX [(0, 30), (0, 31)] M Mc ∧ (∀ j : Int, 0 ≤ j → j ≠ r → rr Mc j = rr M j) ∧ rr Mc r = F k) → CW G Kx mX12_descends (n + 1) 79 [some (vO 0), none, some (vI h), some (vI r), some (vI (k : Int)), none] [] Mc (qV Q) := by
  have k1 := K.2.1
  have k3 := K.2.2.2.1
  have k2 := K.2.2.1
  refine up_ind (fun Mc i => ?_) (fun k Mc hk i ih => ?_)
  · obtain ⟨i1, i2, i3⟩ := i
    refine bX12_descends_79 ⟨fun _ => ?_, fun z => absurd (show sd Mc 1 ≤ _ by rw [sd_eq i1 (by decide), hs]; omega) z⟩
    rw [wrs (x := r + 1) (by omega) (by omega)]
    exact hQ Mc i1 i2 (i3.trans hZ)
  · obtain ⟨i1, i2, i3⟩ := i
    have es : sd Mc = s := by rw [← hs]; exact funext (fun i => sd_eq i1 (by decide) i)
    have e1 : Mc 0 26 1 = s 1 := by rw [← es]; rfl
    have hk' : (k : Int) < s 1 := by omega
    obtain ⟨w0, w1, -⟩ := K.way (w := (k : Int)) (by omega) hk'
    refine bX12_descends_79 ⟨fun z => absurd z (by rw [e1]; omega), fun _ => ?_⟩
    rw [wrs (x := 12 + r) (by omega) (by omega), wr_n hk' (by omega)]
    have e12 : Mc 0 26 (12 + r).toNat = h := by rw [← hh, ← es]; rfl
    refine ⟨⟨by omega, by omega⟩, fun z => absurd e12 z, fun _ => ?_⟩
    have skip : ¬ cdF s T r k → CW G Kx mX12_descends (n + 1) 79 [some (vO 0), none, some (vI h), some (vI r), some (vI ((k + 1 : Nat) : Int)), none] [] Mc (qV Q) := fun z => ih Mc ⟨i1, i2, by rw [hF' _ z]; exact i3⟩
    have kb : (0 : Int) ≤ k ∧ (k : Int) < 24 := ⟨by omega, by omega⟩
    refine c12_wayOf kb.1 kb.2 (by decide) (by decide) (c12_wayOf kb.1 kb.2 (by decide) (by decide) ?_)
    rw [es]
    refine ⟨fun b => skip (fun z => by have := z.1; omega), fun b => c12_wayOf kb.1 kb.2 (by decide) (by decide) ?_⟩
    rw [es]
    refine ⟨fun c => skip (fun z => c z.2.1), fun c => ⟨⟨w1.1, by omega⟩, ?_⟩⟩
    have b0 : s (28 + 6 * (k : Int) + 3) = 0 := by
      obtain ⟨-, -, -, q, -⟩ := K.way (w := (k : Int)) (by omega) hk'
      rcases q with q | q
      · exact q.1
      · exact absurd q.1 b
    have hfl : isFl s k r := ⟨b0, c⟩
    have hd := (isFl_down K hk' hfl).2.2
    have hne : s (28 + 6 * (k : Int) + 1) ≠ r := by intro z; rw [z] at hd; omega
    have v : rr Mc (s (28 + 6 * (k : Int) + 1)) = T (s (28 + 6 * (k : Int) + 1)) := by rw [i2 _ w1.1 hne, hT k hk' hfl]
    have gd := gT (s (28 + 6 * (k : Int) + 1))
    have gf := gF k
    have v1 : Mc 0 30 (s (28 + 6 * (k : Int) + 1)).toNat = (T (s (28 + 6 * (k : Int) + 1))).1 := congrArg Prod.fst v
    have v2 : Mc 0 31 (s (28 + 6 * (k : Int) + 1)).toNat = (T (s (28 + 6 * (k : Int) + 1))).2 := congrArg Prod.snd v
    have u1 : Mc 0 30 r.toNat = (F k).1 := congrArg Prod.fst i3
    have u2 : Mc 0 31 r.toNat = (F k).2 := congrArg Prod.snd i3
    rw [v1, v2, u1]
    have hw1 : s (28 + 6 * (k : Int) + 1) < 16 := by omega
    have hr16 : r < 16 := by omega
    have tail : ∀ x : Int, cdF s T r k → x = mn6 ((F k).1 + (T (s (28 + 6 * (k : Int) + 1))).1) → CW G Kx mX12_descends (n + 1) 192 [some (vO 0), none, some (vI h), some (vI r), some (vI (k : Int)), some (vI (s (28 + 6 * (k : Int) + 1)))] [vI x, vI r, vA 0 30] Mc (qV Q) := by
      intro x hc hx
      refine bX12_descends_192 ⟨⟨h1, hr16⟩, fun M1 em1 => ⟨⟨h1, hr16⟩, ⟨w1.1, hw1⟩, ?_⟩⟩
      have a1 : M1 0 31 r.toNat = (F k).2 := by rw [em1, mset_ne (by simp)]; exact u2
      have a2 : M1 0 31 (s (28 + 6 * (k : Int) + 1)).toNat = (T (s (28 + 6 * (k : Int) + 1))).2 := by rw [em1, mset_ne (by simp)]; exact v2
      rw [a1, a2, wr_n hk' (by omega), wrs (x := (T (s (28 + 6 * (k : Int) + 1))).2 + 1) (by unfold gdD at gd; omega) (by unfold gdD at gd; omega)]
      refine c12_later ⟨⟨h1, hr16⟩, fun M3 em3 => ?_⟩
      refine ih M3 ⟨?_, fun j hj0 hj => ?_, ?_⟩
      · rw [em3, em1]; exact (i1.trans (EqX.mset (by decide))).trans (EqX.mset (by decide))
      · have hjn : j.toNat ≠ r.toNat := by omega
        rw [← i2 j hj0 hj]
        unfold rr
        rw [em3, em1, mset_ne (by simp), mset_ne (fun z => hjn z.2.2), mset_ne (fun z => hjn z.2.2), mset_ne (by simp)]
      · unfold rr
        rw [em3, mset_ne (by simp), mset_self, em1, mset_self, hF _ hc, hx]
        have emx : (if (F k).2 ≤ (T (s (28 + 6 * (k : Int) + 1))).2 + 1 then (T (s (28 + 6 * (k : Int) + 1))).2 + 1 else (F k).2) = mx (F k).2 ((T (s (28 + 6 * (k : Int) + 1))).2 + 1) := by unfold mx; split <;> split <;> omega
        rw [emx]
    unfold gdD at gd gf
    refine ⟨fun d => ?_, fun d => skip (fun z => by have := z.2.2; omega)⟩
    have hc : cdF s T r k := ⟨b0, c, gd.2.2.2.2.mpr d⟩
    rw [wrs (x := (F k).1 + (T (s (28 + 6 * (k : Int) + 1))).1) (by omega) (by omega)]
    refine ⟨⟨h1, hr16⟩, ⟨w1.1, hw1⟩, fun e => ⟨⟨h1, hr16⟩, ⟨w1.1, hw1⟩, tail _ hc ?_⟩, fun e => tail _ hc ?_⟩
    · unfold mn6; split <;> omega
    · unfold mn6; split <;> omega
/-- rooms lower than h, and of height h those ahead of k, are reckoned; the others as at the start -/
def RM (s : Int → Int) (t : Int) (T : Int → Int × Int) (M : Mem) (h : Int) (k : Int) : Prop := ∀ r : Int, 0 ≤ r → r < s 0 → ((s (12 + r) < h ∨ (s (12 + r) = h ∧ r < k)) → rr M r = T r) ∧ (¬ (s (12 + r) < h ∨ (s (12 + r) = h ∧ r < k)) → rr M r = bas t r)
theorem l12_dr {Kx : Kx} {Q : Mem → Prop} {h : Int} (hs : sd M = s) (hDT : DT s t T) (K : HOK s) (h0 : 0 ≤ h) (h40 : h ≤ 40)
    (hQ : ∀ M' : Mem, EqX [(0, 30), (0, 31)] M M' → RM s t T M' (h + 1) 0 → CW G Kx mX12_descends (n + 1) 58 [some (vO 0), none, some (vI (h + 1)), none, none, none] [] M' (qV Q)) :
    ∀ (k : Nat) (Mc : Mem), k ≤ (s 0).toNat → (EqX [(0, 30), (0, 31)] M Mc ∧ RM s t T Mc h (k : Int)) → CW G Kx mX12_descends (n + 1) 66 [some (vO 0), none, some (vI h), some (vI (k : Int)), none, none] [] Mc (qV Q) := by
  have k1 := K.2.1
  have k0 := K.1
  have k2 := K.2.2.1
  refine up_ind (fun Mc i => ?_) (fun k Mc hk i ih => ?_)
  · obtain ⟨i1, i2⟩ := i
    refine bX12_descends_66 ⟨fun _ => ?_, fun z => absurd (show sd Mc 0 ≤ _ by rw [sd_eq i1 (by decide), hs]; omega) z⟩
    rw [wrs (x := h + 1) (by omega) (by omega)]
    exact hQ Mc i1 (fun r r1 r2 => ⟨fun z => (i2 r r1 r2).1 (by omega), fun z => (i2 r r1 r2).2 (by omega)⟩)
  · obtain ⟨i1, i2⟩ := i
    have es : sd Mc = s := by rw [← hs]; exact funext (fun i => sd_eq i1 (by decide) i)
    have e0 : Mc 0 26 0 = s 0 := by rw [← es]; rfl
    have e1 : Mc 0 26 1 = s 1 := by rw [← es]; rfl
    have hk' : (k : Int) < s 0 := by omega
    have kb : (0 : Int) ≤ k := by omega
    refine bX12_descends_66 ⟨fun z => absurd z (by rw [e0]; omega), fun _ => ?_⟩
    by_cases e : s (12 + (k : Int)) = h
    · refine l12_dw (F := fun j => dFo s t T (k : Int) j) (Z := T (k : Int)) es (fun j z => if_pos z) (fun j z => if_neg z) (hDT.1 (k : Int) kb hk').symm hDT.2.1 (fun j => dFo_gd hDT.2.1 j) K kb hk' e (fun j hj hf => ?_) (fun M' j1 j2 j3 => ?_) 0 Mc (by omega) ⟨EqX.rf, fun _ _ _ => rfl, ?_⟩
      · obtain ⟨d1, d2, d3⟩ := isFl_down K hj hf
        exact (i2 _ d1 d2).1 (Or.inl (by omega))
      · refine ih M' ⟨i1.trans j1, fun r r1 r2 => ?_⟩
        by_cases er : r = (k : Int)
        · rw [er]; exact ⟨fun _ => j3, fun z => absurd (by omega) z⟩
        · rw [j2 r r1 er]; exact ⟨fun z => (i2 r r1 r2).1 (by omega), fun z => (i2 r r1 r2).2 (by omega)⟩
      · exact (i2 (k : Int) kb hk').2 (by omega)
    · have ih' := ih Mc ⟨i1, fun r r1 r2 => ⟨fun z => (i2 r r1 r2).1 (by
          by_cases er : r = (k : Int)
          · rw [er] at z ⊢; omega
          · omega), fun z => (i2 r r1 r2).2 (by
          by_cases er : r = (k : Int)
          · rw [er] at z ⊢; omega
          · omega)⟩⟩
      refine bX12_descends_79 ⟨fun _ => ?_, fun _ => ?_⟩
      · rw [wr_n hk' (by omega)]; exact ih'
      · rw [wrs (x := 12 + (k : Int)) (by omega) (by omega), wr_n hk' (by omega)]
        have e12 : Mc 0 26 (12 + (k : Int)).toNat = s (12 + (k : Int)) := by rw [← es]; rfl
        exact ⟨⟨by omega, by omega⟩, fun _ => ih', fun z => absurd (e12.symm.trans z) e⟩
theorem l12_dh {Kx : Kx} {Q : Mem → Prop} (hs : sd M = s) (hDT : DT s t T) (K : HOK s) (hQ : ∀ M' : Mem, EqX [(0, 30), (0, 31)] M M' → RM s t T M' 41 0 → Q M') :
    ∀ (k : Nat) (Mc : Mem), k ≤ 41 → (EqX [(0, 30), (0, 31)] M Mc ∧ RM s t T Mc (k : Int) 0) → CW G Kx mX12_descends (n + 1) 58 [some (vO 0), none, some (vI (k : Int)), none, none, none] [] Mc (qV Q) := by
  refine up_ind (fun Mc i => ?_) (fun k Mc hk i ih => ?_)
  · exact bX12_descends_58 ⟨fun _ => hQ Mc i.1 i.2, fun z => absurd (by decide) z⟩
  · have es : sd Mc = s := by rw [← hs]; exact funext (fun j => sd_eq i.1 (by decide) j)
    refine bX12_descends_58 ⟨fun z => absurd z (by omega), fun _ => ?_⟩
    exact l12_dr es hDT K (by omega) (by omega) (fun M' j1 j2 => ih M' ⟨i.1.trans j1, j2⟩) 0 Mc (by omega) ⟨EqX.rf, i.2⟩
theorem c12_descends {Q : Mem → Prop} (hs : sd M = s) (hDT : DT s t T) (K : HOK s) (h1 : 0 ≤ t) (h2 : t < s 0) (hQ : ∀ M' : Mem, EqX [(0, 30), (0, 31)] M M' → (∀ r : Int, 0 ≤ r → r < s 0 → rr M' r = T r) → Q M') : OkV G (n + 1) mX12_descends [vO 0, vI t] M Q := by
  have k1 := K.2.1
  have ht := K.height h1 h2
  refine eX12_descends (fun Kx => bX12_descends_0 ?_)
  have fill : ∀ (k : Nat) (Mc : Mem), k ≤ 16 → (EqX [(0, 30), (0, 31)] M Mc ∧ ∀ r : Int, 0 ≤ r → r < (k : Int) → rr Mc r = bas t r) → CW G Kx mX12_descends (n + 1) 2 [some (vO 0), some (vI t), some (vI (k : Int)), none, none, none] [] Mc (qV Q) := by
    refine up_ind (fun Mc i => ?_) (fun k Mc hk i ih => ?_)
    · have es : sd Mc = s := by rw [← hs]; exact funext (fun j => sd_eq i.1 (by decide) j)
      refine bX12_descends_2 ⟨fun _ => ?_, fun z => absurd (by decide) z⟩
      rw [wrs (x := 12 + t) (by omega) (by omega)]
      have e12 : Mc 0 26 (12 + t).toNat = s (12 + t) := by rw [← es]; rfl
      rw [e12, wrs (x := s (12 + t) + 1) (by omega) (by omega)]
      refine ⟨⟨by omega, by omega⟩, ?_⟩
      have g := l12_dh (G := G) (n := n) (Kx := Kx) (Q := Q) hs hDT K (fun M' j1 j2 => hQ M' j1 (fun r r1 r2 => (j2 r r1 r2).1 (Or.inl (by have := K.height r1 r2; omega)))) (s (12 + t) + 1).toNat Mc (by omega) ⟨i.1, fun r r1 r2 => ⟨fun z => ?_, fun z => i.2 r r1 (by omega)⟩⟩
      · rw [show (((s (12 + t) + 1).toNat : Nat) : Int) = s (12 + t) + 1 by omega] at g
        exact g
      · rw [hDT.2.2 r r1 r2 (by omega)]; exact i.2 r r1 (by omega)
    · have kb : (0 : Int) ≤ k ∧ (k : Int) < 16 := ⟨by omega, by omega⟩
      have put : ∀ (a b : Int) (M1 M2 : Mem), (a, b) = bas t (k : Int) → M1 = mset Mc 0 30 (k : Int).toNat a → M2 = mset M1 0 31 (k : Int).toNat b → CW G Kx mX12_descends (n + 1) 2 [some (vO 0), some (vI t), some (vI ((k + 1 : Nat) : Int)), none, none, none] [] M2 (qV Q) := by
        intro a b M1 M2 hab e1 e2
        refine ih M2 ⟨?_, fun r r1 r2 => ?_⟩
        · rw [e2, e1]; exact (i.1.trans (EqX.mset (by decide))).trans (EqX.mset (by decide))
        · by_cases er : r = (k : Int)
          · rw [er, ← hab]
            unfold rr
            rw [e2, mset_ne (by simp), mset_self, e1, mset_self]
          · have hjn : r.toNat ≠ (k : Int).toNat := by omega
            rw [← i.2 r r1 (by omega)]
            unfold rr
            rw [e2, e1, mset_ne (by simp), mset_ne (fun z => hjn z.2.2), mset_ne (fun z => hjn z.2.2), mset_ne (by simp)]
      refine bX12_descends_2 ⟨fun z => absurd z (by omega), fun _ => ⟨fun a => ?_, fun a => ?_⟩⟩
      · refine bX12_descends_23 ⟨kb, fun M1 e1 => ⟨fun _ => ⟨kb, fun M2 e2 => ?_⟩, fun z => absurd z a⟩⟩
        rw [wr_n kb.2 (by omega)]
        exact put 0 (-1) M1 M2 (by unfold bas; rw [if_neg a]) e1 e2
      · refine bX12_descends_23 ⟨kb, fun M1 e1 => ⟨fun z => absurd a z, fun _ => ⟨kb, fun M2 e2 => ?_⟩⟩⟩
        rw [wr_n kb.2 (by omega)]
        exact put 1 0 M1 M2 (by unfold bas; rw [if_pos a]) e1 e2
  exact fill 0 M (by omega) ⟨EqX.rf, fun r r1 r2 => by omega⟩
end DM
