/-! ===== rules: the tests ===== -/
section RUT
variable {G : Gx} {n : Nat} {M : Mem} {s : Int → Int} {d o : Nat} {w : Int → Int}
theorem c6_joined {Q : Int → Mem → Prop} {c a b : Int} (h1 : 10 ≤ c) (h2 : c ≤ 20) (h : Q (jn c a b) M) : OkJ G n mX6_joined [vI c, vL a, vL b] M Q := by
  refine eX6_joined (fun K => bX6_joined_0 ?_)
  simp only [sg_zero, sg_nn, sg_pos, sg_neg, sg_np]
  unfold jn at h
  refine ⟨fun z => ?_, fun z => ?_, fun z => ?_, fun z => ?_, fun z => ?_, fun z => ?_, fun z => ?_, fun z => ?_, fun z => ?_, fun z => ?_, fun z => ?_⟩
  · have : c = 20 := by omega
    subst this; exact h
  · subst z; exact h
  · subst z; exact h
  · subst z; exact h
  · subst z
    have h' : Q (if b = 0 then 0 else wl (Int.tdiv a b)) M := h
    exact ⟨fun y => ⟨y, by rw [if_neg y] at h'; exact h'⟩, fun y => by rw [if_pos y] at h'; exact h'⟩
  · subst z
    have h' : Q (if a < b then 1 else 0) M := h
    exact ⟨fun y => by rw [if_neg (by omega)] at h'; exact h', fun y => by rw [if_pos (by omega)] at h'; exact h'⟩
  · subst z
    have h' : Q (if a ≤ b then 1 else 0) M := h
    exact ⟨fun y => by rw [if_neg (by omega)] at h'; exact h', fun y => by rw [if_pos (by omega)] at h'; exact h'⟩
  · subst z
    have h' : Q (if a = b then 1 else 0) M := h
    exact ⟨fun y => by rw [if_neg y] at h'; exact h', fun y => by rw [if_pos y] at h'; exact h'⟩
  · subst z
    have h' : Q (if b ≤ a then 1 else 0) M := h
    exact ⟨fun y => by rw [if_neg (by omega)] at h'; exact h', fun y => by rw [if_pos (by omega)] at h'; exact h'⟩
  · subst z
    have h' : Q (if b < a then 1 else 0) M := h
    exact ⟨fun y => by rw [if_neg (by omega)] at h'; exact h', fun y => by rw [if_pos (by omega)] at h'; exact h'⟩
  · subst z; exact h
theorem c12_one {Q : Int → Mem → Prop} {c a b : Int} (h1 : 10 ≤ c) (h2 : c ≤ 20) (h : Q (jn c a b) M) : OkJ G n mX12_one [vI (rc c), vL a, vL b] M Q := by
  have hc : c = 10 ∨ c = 11 ∨ c = 12 ∨ c = 13 ∨ c = 14 ∨ c = 15 ∨ c = 16 ∨ c = 17 ∨ c = 18 ∨ c = 19 ∨ c = 20 := by omega
  have no : ∀ {P : Prop} {x y : Int}, x ≠ y → x = y → P := fun a b => absurd b a
  refine eX12_one (fun K => bX12_one_0 ?_)
  simp only [sg_zero, sg_nn, sg_pos, sg_neg, sg_np]
  rcases hc with q | q | q | q | q | q | q | q | q | q | q <;> subst q
  · have e : rc 10 = 2 := rfl
    rw [e]; exact ⟨fun z => by omega, fun _ => h, fun z => by omega, fun z => by omega, fun z => by omega, fun z => by omega, fun z => by omega, fun z => by omega, fun z => by omega, fun z => by omega, fun z => by omega, fun z => by omega⟩
  · have e : rc 11 = 3 := rfl
    rw [e]; exact ⟨fun z => by omega, fun z => by omega, fun _ => h, fun z => by omega, fun z => by omega, fun z => by omega, fun z => by omega, fun z => by omega, fun z => by omega, fun z => by omega, fun z => by omega, fun z => by omega⟩
  · have e : rc 12 = 4 := rfl
    rw [e]; exact ⟨fun z => by omega, fun z => by omega, fun z => by omega, fun _ => h, fun z => by omega, fun z => by omega, fun z => by omega, fun z => by omega, fun z => by omega, fun z => by omega, fun z => by omega, fun z => by omega⟩
  · have e : rc 13 = 5 := rfl
    have h' : Q (if b = 0 then 0 else wl (Int.tdiv a b)) M := h
    rw [e]; exact ⟨fun z => by omega, fun z => by omega, fun z => by omega, fun z => by omega, fun _ => ⟨fun y => ⟨y, by rw [if_neg y] at h'; exact h'⟩, fun y => by rw [if_pos y] at h'; exact h'⟩, fun z => by omega, fun z => by omega, fun z => by omega, fun z => by omega, fun z => by omega, fun z => by omega, fun z => by omega⟩
  · have e : rc 14 = 6 := rfl
    have h' : Q (if a < b then 1 else 0) M := h
    rw [e]; exact ⟨fun z => by omega, fun z => by omega, fun z => by omega, fun z => by omega, fun z => by omega, fun _ => ⟨fun y => by rw [if_neg (by omega)] at h'; exact h', fun y => by rw [if_pos (by omega)] at h'; exact h'⟩, fun z => by omega, fun z => by omega, fun z => by omega, fun z => by omega, fun z => by omega, fun z => by omega⟩
  · have e : rc 15 = 7 := rfl
    have h' : Q (if a ≤ b then 1 else 0) M := h
    rw [e]; exact ⟨fun z => by omega, fun z => by omega, fun z => by omega, fun z => by omega, fun z => by omega, fun z => by omega, fun _ => ⟨fun y => by rw [if_neg (by omega)] at h'; exact h', fun y => by rw [if_pos (by omega)] at h'; exact h'⟩, fun z => by omega, fun z => by omega, fun z => by omega, fun z => by omega, fun z => by omega⟩
  · have e : rc 16 = 8 := rfl
    have h' : Q (if a = b then 1 else 0) M := h
    rw [e]; exact ⟨fun z => by omega, fun z => by omega, fun z => by omega, fun z => by omega, fun z => by omega, fun z => by omega, fun z => by omega, fun _ => ⟨fun y => by rw [if_neg y] at h'; exact h', fun y => by rw [if_pos y] at h'; exact h'⟩, fun z => by omega, fun z => by omega, fun z => by omega, fun z => by omega⟩
  · have e : rc 17 = 9 := rfl
    have h' : Q (if b ≤ a then 1 else 0) M := h
    rw [e]; exact ⟨fun z => by omega, fun z => by omega, fun z => by omega, fun z => by omega, fun z => by omega, fun z => by omega, fun z => by omega, fun z => by omega, fun _ => ⟨fun y => by rw [if_neg (by omega)] at h'; exact h', fun y => by rw [if_pos (by omega)] at h'; exact h'⟩, fun z => by omega, fun z => by omega, fun z => by omega⟩
  · have e : rc 18 = 10 := rfl
    have h' : Q (if b < a then 1 else 0) M := h
    rw [e]; exact ⟨fun z => by omega, fun z => by omega, fun z => by omega, fun z => by omega, fun z => by omega, fun z => by omega, fun z => by omega, fun z => by omega, fun z => by omega, fun _ => ⟨fun y => by rw [if_neg (by omega)] at h'; exact h', fun y => by rw [if_pos (by omega)] at h'; exact h'⟩, fun z => by omega, fun z => by omega⟩
  · have e : rc 19 = 12 := rfl
    rw [e]; exact ⟨fun z => by omega, fun z => by omega, fun z => by omega, fun z => by omega, fun z => by omega, fun z => by omega, fun z => by omega, fun z => by omega, fun z => by omega, fun z => by omega, fun z => by omega, fun _ => h⟩
  · have e : rc 20 = 13 := rfl
    rw [e]; exact ⟨fun _ => h, fun z => by omega, fun z => by omega, fun z => by omega, fun z => by omega, fun z => by omega, fun z => by omega, fun z => by omega, fun z => by omega, fun z => by omega, fun z => by omega, fun z => by omega⟩
theorem c6_negate {Q : Int → Mem → Prop} {D : Int} (ho : oc o = 6) (h1 : 1 ≤ D) (h2 : D ≤ 64) (h : Q D (mset M o 7 (D - 1).toNat (wl (1 - M o 7 (D - 1).toNat)))) : OkI G n mX6_negate [vO o, vI D] M Q := by
  refine eX6_negate (fun K => bX6_negate_0 ho ⟨fun z => absurd z (by omega), fun _ => ⟨fun z => absurd z (by omega), fun _ => ?_⟩⟩)
  rw [wrs (x := D - 1) (by omega) (by omega)]
  exact ⟨⟨by omega, by omega⟩, ⟨by omega, by omega⟩, fun M1 e => by subst e; exact h⟩
theorem c6_join {Q : Int → Mem → Prop} {D c : Int} (ho : oc o = 6) (hc1 : 10 ≤ c) (hc2 : c ≤ 20) (h1 : 2 ≤ D) (h2 : D ≤ 64) (h : Q (D - 1) (mset M o 7 (D - 2).toNat (jn c (M o 7 (D - 2).toNat) (M o 7 (D - 1).toNat)))) : OkI G (n + 1) mX6_join [vO o, vI c, vI D] M Q := by
  refine eX6_join (fun K => bX6_join_0 ho ⟨fun z => absurd z (by omega), fun _ => ⟨fun _ => ?_, fun z => absurd h2 z⟩⟩)
  rw [wrs (x := D - 1) (by omega) (by omega), wrs (x := D - 2) (by omega) (by omega)]
  refine ⟨⟨by omega, by omega⟩, ⟨by omega, by omega⟩, c6_joined hc1 hc2 ⟨⟨by omega, by omega⟩, fun M2 e => by subst e; exact h⟩⟩
theorem up1d_at {E : Int → Int} {k v i : Int} : up1d E k v i = if i = k then v else E i := rfl
/-- an array beside the table of values -/
def stk (f : Nat → Int) (D : Int) (E : Int → Int) : Prop := ∀ i : Int, 0 ≤ i → i < D → f i.toNat = E i
theorem stk_set {f f' : Nat → Int} {D D' k v : Int} {E : Int → Int} (h : stk f D E) (hk : 0 ≤ k) (hf : ∀ i, f' i = if i = k.toNat then v else f i) (hD : ∀ i, 0 ≤ i → i < D' → i ≠ k → i < D) : stk f' D' (up1d E k v) := by
  intro i i0 i1
  rw [hf, up1d_at]
  by_cases e : i = k
  · rw [if_pos (by omega), if_pos e]
  · rw [if_neg (by omega), if_neg e]; exact h i i0 (hD i i0 i1 e)
theorem est_n {code : Nat → Int} {a j : Nat} (h : code (a + j) = 21) : est w code a (j + 1) = up1d (est w code a j) (dpt code a j - 1) (wl (1 - est w code a j (dpt code a j - 1))) ∧ dpt code a (j + 1) = dpt code a j := ⟨if_pos h, if_pos h⟩
theorem est_b {code : Nat → Int} {a j : Nat} (h1 : 10 ≤ code (a + j)) (h2 : code (a + j) ≤ 20) : est w code a (j + 1) = up1d (est w code a j) (dpt code a j - 2) (jn (code (a + j)) (est w code a j (dpt code a j - 2)) (est w code a j (dpt code a j - 1))) ∧ dpt code a (j + 1) = dpt code a j - 1 := by
  constructor
  · show (if _ then _ else _ : Int → Int) = _
    rw [if_neg (by omega), if_pos ⟨h1, by omega⟩]
  · show nxd _ _ = _
    unfold nxd
    rw [if_neg (by omega), if_pos ⟨h1, by omega⟩]
theorem est_p {code : Nat → Int} {a j : Nat} (h : isPush (code (a + j))) : est w code a (j + 1) = up1d (est w code a j) (dpt code a j) (if 100 ≤ code (a + j) then code (a + j) - 100 else w (code (a + j))) ∧ dpt code a (j + 1) = dpt code a j + 1 := by
  unfold isPush at h
  constructor
  · show (if _ then _ else _ : Int → Int) = _
    rw [if_neg (by omega), if_neg (by omega)]
  · show nxd _ _ = _
    unfold nxd
    rw [if_neg (by omega), if_neg (by omega)]
/-- the class: does the clause's test hold -/
theorem c6_holds {Q : Int → Mem → Prop} {ρ : Nat → Nat → Int} {p t : Int} {c : Nat} (ho : oc o = 6) (hd : oc d = 0) (H : HR (M 4) s) (K : HOK s) (D : DR (M d) s) (ht : isTop s t) (h1 : 0 ≤ p) (h2 : p < s 2) (hr : 0 ≤ s (172 + 5 * p + 0) ∧ s (172 + 5 * p + 0) < s 0) (hR : RuC ρ (M o)) (hO : RuOK ρ) (hc : (c : Int) < ρ 0 0)
    (hy : tst ρ (wd s p) c → ∀ M', EqX [(o, 7)] M M' → Q 1 M') (hn : ¬ tst ρ (wd s p) c → ∀ M', EqX [(o, 7)] M M' → Q 0 M') : OkI G (n + 3) mX6_holds [vO o, vI (c : Int), vO 4, vO d, vI p] M Q := by
  have f0 : M o 0 0 = ρ 0 0 := by rw [hR 0 (by decide)]
  have f3 : M o 3 c = ρ 3 c := by rw [hR 3 (by decide)]
  have f4 : M o 4 c = ρ 4 c := by rw [hR 4 (by decide)]
  obtain ⟨o1, o2, o3⟩ := hO
  obtain ⟨-, a0, hw, b0, b4⟩ := o3 c hc
  have cb : (0 : Int) ≤ (c : Int) ∧ (c : Int) < 12 := ⟨by omega, by omega⟩
  have n4 : o ≠ 4 := fun e => by rw [e] at ho; exact absurd ho (by decide)
  have nd : o ≠ d := fun e => by rw [e, hd] at ho; exact absurd ho (by decide)
  refine eX6_holds (fun Kx => bX6_holds_0 ho ⟨fun z => absurd z (by omega), fun _ => ?_⟩)
  rw [f0, Int.toNat_natCast, f3, f4]
  refine ⟨fun z => absurd z (by omega), fun _ => ⟨cb, cb, fun z => ⟨cb, ?_⟩, fun z => hy (Or.inl z) M EqX.rf⟩⟩
  obtain ⟨w1, w2, w3, w4⟩ : WFs (ρ 5) (ρ 3 c).toNat (ρ 4 c).toNat := by
    rcases hw with q | q
    · exact absurd q z
    · exact q
  generalize hA : (ρ 3 c).toNat = A at *
  generalize hB : (ρ 4 c).toNat = B at *
  have eA : ρ 3 c = (A : Int) := by omega
  have eB : ρ 4 c = (B : Int) := by omega
  have loop : ∀ (j : Nat) (Mc : Mem), j ≤ B - A → (EqX [(o, 7)] M Mc ∧ stk (Mc o 7) (dpt (ρ 5) A j) (est (wd s p) (ρ 5) A j)) → CW G Kx mX6_holds (n + 3) 40 [some (vO o), some (vI (c : Int)), some (vO 4), some (vO d), some (vI p), some (vI (dpt (ρ 5) A j)), some (vI ((A + j : Nat) : Int)), none] [] Mc (qI Q) := by
    refine up_ind (fun Mc i => ?_) (fun j Mc hj i ih => ?_)
    · obtain ⟨i1, i2⟩ := i
      have g4 : Mc o 4 c = (B : Int) := by rw [i1 o 4 c (by simp), f4, eB]
      have hv := i2 0 (by decide) (by rw [w4]; decide)
      rw [w4]
      refine bX6_holds_40 ho ?_
      rw [Int.toNat_natCast, g4]
      refine ⟨cb, fun _ => ?_, fun y => absurd (by omega) y⟩
      refine bX6_holds_163 ho ⟨fun y => absurd y (by decide), fun _ => ?_⟩
      rw [sg_zero]
      have e0 : Mc o 7 0 = tval ρ (wd s p) c := by unfold tval; rw [hA, hB]; exact hv
      rw [e0]
      refine ⟨fun y => hn (fun q => ?_) Mc i1, fun y => hy (Or.inr y) Mc i1⟩
      rcases q with q | q
      · exact z q
      · exact q y
    · obtain ⟨i1, i2⟩ := i
      have g4 : Mc o 4 c = (B : Int) := by rw [i1 o 4 c (by simp), f4, eB]
      have g5 : Mc o 5 (A + j) = ρ 5 (A + j) := by rw [i1 o 5 _ (by simp), hR 5 (by decide)]
      have hok := w3 j (by omega)
      obtain ⟨c1, c2, c3, c4, c5, c6⟩ := hok
      have m4 : Mc 4 = M 4 := i1.obj (by simp; exact n4)
      have md : Mc d = M d := i1.obj (by simp; exact nd)
      have wj : wr (((A + j : Nat) : Int) + 1) = ((A + (j + 1) : Nat) : Int) := by rw [wr_n (b := 401) (k := A + j) (by omega) (by omega)]; omega
      refine bX6_holds_40 ho ?_
      rw [Int.toNat_natCast, Int.toNat_natCast, g4, g5, wj]
      clear wj
      refine ⟨cb, fun y => absurd y (by omega), fun _ => ⟨fun y => absurd y (by omega), fun _ => ⟨⟨by omega, by omega⟩, fun y => ?_, fun y => ?_⟩⟩⟩
      · have push : isPush (ρ 5 (A + j)) → CW G Kx mX6_holds (n + 3) 115 [some (vO o), some (vI (c : Int)), some (vO 4), some (vO d), some (vI p), some (vI (dpt (ρ 5) A j)), some (vI ((A + j : Nat) : Int)), some (vI (ρ 5 (A + j)))] [] Mc (qI Q) := by
          intro hp
          have hd63 := c2 hp
          obtain ⟨q1, q2⟩ := est_p (w := wd s p) hp
          have wj : wr (((A + j : Nat) : Int) + 1) = ((A + (j + 1) : Nat) : Int) := by rw [wr_n (b := 401) (k := A + j) (by omega) (by omega)]; omega
          refine bX6_holds_115 ho hd ⟨fun x => absurd x (by omega), fun _ => ?_⟩
          rw [wj, wrs (x := dpt (ρ 5) A j + 1) (by omega) (by omega), ← q2]
          clear wj
          have fin : ∀ (v : Int) (M2 : Mem), v = (if 100 ≤ ρ 5 (A + j) then ρ 5 (A + j) - 100 else wd s p (ρ 5 (A + j))) → M2 = mset Mc o 7 (dpt (ρ 5) A j).toNat v → CW G Kx mX6_holds (n + 3) 40 [some (vO o), some (vI (c : Int)), some (vO 4), some (vO d), some (vI p), some (vI (dpt (ρ 5) A (j + 1))), some (vI ((A + (j + 1) : Nat) : Int)), none] [] M2 (qI Q) := by
            intro v M2 hv em
            refine ih M2 ⟨by rw [em]; exact i1.trans (EqX.mset (by simp)), ?_⟩
            rw [q1, ← hv]
            refine stk_set i2 c5 (fun i => by rw [em, mset_fn]) (fun i i0 i3 i4 => ?_)
            rw [q2] at i3; omega
          refine ⟨fun x => c0_word hd (by rw [m4]; exact H) K (by rw [md]; exact D) ht h1 h2 hr (by unfold isPush at hp; omega) ⟨⟨c5, by omega⟩, fun M2 em => fin _ M2 (by rw [if_neg (by omega)]) em⟩, fun x => ⟨⟨c5, by omega⟩, fun M3 em => fin _ M3 ?_ em⟩⟩
          rw [if_pos (by omega)]; exact wrs (by omega) (by omega)
        refine ⟨fun x => push (Or.inr x), fun x => ⟨fun v => push (Or.inl v), fun v => ?_⟩⟩
        have hb1 : 10 ≤ ρ 5 (A + j) := by omega
        have hb2 : ρ 5 (A + j) ≤ 20 := by omega
        obtain ⟨q1, q2⟩ := est_b (w := wd s p) hb1 hb2
        have hd2 := c4 hb1 hb2
        refine c6_join ho hb1 hb2 hd2 c6 ?_
        rw [i2 _ (by omega) (by omega), i2 _ (by omega) (by omega)]
        have g := ih (mset Mc o 7 (dpt (ρ 5) A j - 2).toNat (jn (ρ 5 (A + j)) (est (wd s p) (ρ 5) A j (dpt (ρ 5) A j - 2)) (est (wd s p) (ρ 5) A j (dpt (ρ 5) A j - 1)))) ⟨i1.trans (EqX.mset (by simp)), by
          rw [q1]
          refine stk_set i2 (by omega) (fun i => mset_fn i) (fun i i0 i3 i4 => ?_)
          rw [q2] at i3; omega⟩
        rw [q2] at g
        exact g
      · obtain ⟨q1, q2⟩ := est_n (w := wd s p) y
        have hd1 := c3 y
        refine c6_negate ho hd1 c6 ?_
        rw [i2 _ (by omega) (by omega)]
        have g := ih (mset Mc o 7 (dpt (ρ 5) A j - 1).toNat (wl (1 - est (wd s p) (ρ 5) A j (dpt (ρ 5) A j - 1)))) ⟨i1.trans (EqX.mset (by simp)), by
          rw [q1, q2]
          exact stk_set i2 (by omega) (fun i => mset_fn i) (fun i i0 i3 i4 => i3)⟩
        rw [q2] at g
        exact g
  have g := loop 0 M (by omega) ⟨EqX.rf, fun i i0 i1 => absurd i1 (by show ¬ i < 0; omega)⟩
  rw [eA]
  exact g
/-! the reference -/
theorem c12_push {Q : Mem → Prop} {D v : Int} (hD : M 0 24 0 = D) (h1 : 0 ≤ D) (h2 : D ≤ 63) (h : Q (mset (mset M 0 23 D.toNat v) 0 24 0 (D + 1))) : OkV G n mX12_push [vO 0, vL v] M Q := by
  refine eX12_push (fun K => bX12_push_0 ?_)
  rw [hD]
  refine ⟨⟨h1, by omega⟩, fun M1 e1 M2 e2 => ?_⟩
  have : M1 0 24 0 = D := by rw [e1, mset_ne (by simp)]; exact hD
  rw [this, wrs (x := D + 1) (by omega) (by omega)] at e2
  subst e2; subst e1; exact h
theorem c12_pop {Q : Int → Mem → Prop} {D : Int} (hD : M 0 24 0 = D) (h1 : 1 ≤ D) (h2 : D ≤ 64) (h : Q (M 0 23 (D - 1).toNat) (mset M 0 24 0 (D - 1))) : OkJ G n mX12_pop [vO 0] M Q := by
  refine eX12_pop (fun K => bX12_pop_0 ?_)
  rw [hD, wrs (x := D - 1) (by omega) (by omega)]
  intro M1 e1
  have : M1 0 24 0 = D - 1 := by rw [e1, mset_self]
  rw [this]
  refine ⟨⟨by omega, by omega⟩, ?_⟩
  rw [e1, mset_ne (by simp)]
  exact h
theorem rc_nat {c : Int} (h : (0 ≤ c ∧ c ≤ 7) ∨ (10 ≤ c ∧ c ≤ 21) ∨ (100 ≤ c ∧ c ≤ 100099)) : bAnd (rc c) 15 = (if 100 ≤ c then 0 else if c < 10 then 1 else rc c) ∧ (isPush c → bShr (rc c) 4 = if 100 ≤ c then c - 100 else c) ∧ (¬ isPush c → 2 ≤ rc c ∧ rc c ≤ 13) := by
  obtain ⟨m, hm⟩ : ∃ m : Nat, rc c = (m : Int) ∧ m < 1600000 := ⟨(rc c).toNat, by unfold rc; (repeat' split) <;> omega, by unfold rc; (repeat' split) <;> omega⟩
  have e1 : bAnd (rc c) 15 = ((m % 16 : Nat) : Int) := by
    rw [hm.1, show (15 : Int) = ((15 : Nat) : Int) from rfl, bAnd_nat (by omega) (by decide), show 15 = 2 ^ 4 - 1 from rfl, Nat.and_two_pow_sub_one_eq_mod]
  have e2 : bShr (rc c) 4 = ((m / 16 : Nat) : Int) := by
    rw [hm.1, show (4 : Int) = ((4 : Nat) : Int) from rfl, bShr_nat (by omega) (by decide)]
  have hr := hm.1
  rw [e1, e2]
  unfold isPush
  unfold rc at hr ⊢
  by_cases a : 100 ≤ c
  · rw [if_pos a] at hr
    rw [if_pos a, if_pos a, if_pos a]
    exact ⟨by omega, fun _ => by omega, fun z => by omega⟩
  · rw [if_neg a] at hr
    rw [if_neg a, if_neg a, if_neg a]
    by_cases b : c < 10
    · rw [if_pos b] at hr
      rw [if_pos b]
      exact ⟨by omega, fun _ => by omega, fun z => by omega⟩
    · rw [if_neg b] at hr
      rw [if_neg b]
      refine ⟨?_, fun z => by omega, fun z => ?_⟩
      · rw [if_neg b]
        (repeat' split at hr) <;> (repeat' split) <;> omega
      · rw [if_neg b]
        (repeat' split) <;> omega
theorem ix400 {k i : Nat} (hk : k < 6) (hi : i < 400) : wr (wr (400 * (k : Int)) + (i : Int)) = ((400 * k + i : Nat) : Int) := by
  rw [wrs (x := 400 * (k : Int)) (by omega) (by omega), wrs (x := 400 * (k : Int) + (i : Int)) (by omega) (by omega)]; omega
theorem c12_reckons {Q : Int → Mem → Prop} {ρ : Nat → Nat → Int} {k c : Nat} (hk : k < 6) (hw : WFs (ρ 5) (ρ 3 c).toNat (ρ 4 c).toNat) (ha : 0 ≤ ρ 3 c) (hb : 0 ≤ ρ 4 c) (hS : ∀ i : Nat, (ρ 3 c).toNat ≤ i → i < (ρ 4 c).toNat → M 0 3 (400 * k + i) = rc (ρ 5 i)) (hW : ∀ x : Nat, x < 8 → M 0 25 x = w (x : Int))
    (h : ∀ M', EqX [(0, 23), (0, 24)] M M' → Q (tval ρ w c) M') : OkJ G (n + 1) mX12_reckons [vO 0, vI (k : Int), vI (ρ 3 c), vI (ρ 4 c)] M Q := by
  obtain ⟨w1, w2, w3, w4⟩ := hw
  unfold tval at h
  generalize hA : (ρ 3 c).toNat = A at *
  generalize hB : (ρ 4 c).toNat = B at *
  have eA : ρ 3 c = (A : Int) := by omega
  have eB : ρ 4 c = (B : Int) := by omega
  rw [eA, eB]
  refine eX12_reckons (fun Kx => bX12_reckons_0 (fun M1 e1 => ?_))
  have loop : ∀ (j : Nat) (Mc : Mem), j ≤ B - A → (EqX [(0, 23), (0, 24)] M Mc ∧ Mc 0 24 0 = dpt (ρ 5) A j ∧ stk (Mc 0 23) (dpt (ρ 5) A j) (est w (ρ 5) A j)) → CW G Kx mX12_reckons (n + 1) 8 [some (vO 0), some (vI (k : Int)), none, some (vI (B : Int)), some (vI ((A + j : Nat) : Int)), none, none, none, none, none, none] [] Mc (qJ Q) := by
    refine up_ind (fun Mc i => ?_) (fun j Mc hj i ih => ?_)
    · obtain ⟨i1, i2, i3⟩ := i
      rw [w4] at i2 i3
      refine bX12_reckons_8 ⟨fun _ => c12_pop i2 (by decide) (by decide) ?_, fun y => absurd (by omega) y⟩
      have := i3 0 (by decide) (by decide)
      rw [show ((1 : Int) - 1).toNat = (0 : Int).toNat from rfl, this]
      exact h _ (i1.trans (EqX.mset (by decide)))
    · obtain ⟨i1, i2, i3⟩ := i
      have hok := w3 j (by omega)
      obtain ⟨c1, c2, c3, c4, c5, c6⟩ := hok
      have hsg : Mc 0 3 (400 * k + (A + j)) = rc (ρ 5 (A + j)) := by rw [i1 0 3 (400 * k + (A + j)) (by decide)]; exact hS (A + j) (by omega) (by omega)
      obtain ⟨r1, r2, r3⟩ := rc_nat c1
      refine bX12_reckons_8 ⟨fun y => absurd y (by omega), fun _ => ?_⟩
      rw [ix400 (k := k) (i := A + j) hk (by omega), Int.toNat_natCast, hsg, r1]
      have wj : wr (((A + j : Nat) : Int) + 1) = ((A + (j + 1) : Nat) : Int) := by rw [wr_n (b := 401) (k := A + j) (by omega) (by omega)]; omega
      rw [wj]
      clear wj
      have ib : (0 : Int) ≤ ((400 * k + (A + j) : Nat) : Int) ∧ ((400 * k + (A + j) : Nat) : Int) < 2400 := ⟨by omega, by omega⟩
      have pushv : isPush (ρ 5 (A + j)) → ∀ v : Int, v = (if 100 ≤ ρ 5 (A + j) then ρ 5 (A + j) - 100 else w (ρ 5 (A + j))) → OkV G n mX12_push [vO 0, vL v] Mc (fun M8 => CW G Kx mX12_reckons (n + 1) 8 [some (vO 0), some (vI (k : Int)), none, some (vI (B : Int)), some (vI ((A + (j + 1) : Nat) : Int)), none, none, none, none, none, none] [] M8 (qJ Q)) := by
        intro hp v hv
        obtain ⟨q1, q2⟩ := est_p (w := w) hp
        have hd63 := c2 hp
        refine c12_push i2 c5 hd63 (ih _ ⟨(i1.trans (EqX.mset (by decide))).trans (EqX.mset (by decide)), by rw [mset_self, q2], ?_⟩)
        rw [q1, ← hv]
        refine stk_set i3 c5 (fun i => by rw [mset_ne (by simp), mset_fn]) (fun i i0 i4 i5 => ?_)
        rw [q2] at i4; omega
      refine ⟨ib, ib, fun y => ⟨fun x => ⟨fun u => ?_, fun u => ?_⟩, fun x => ?_⟩, fun y => ?_⟩
      · -- two are joined
        have hnp : ¬ isPush (ρ 5 (A + j)) := by
          intro hp
          rcases hp with hp | hp
          · exact y (if_pos hp)
          · exact x (by rw [if_neg (by omega), if_pos hp])
        have hnp' : ¬ (100 ≤ ρ 5 (A + j)) ∧ ¬ (ρ 5 (A + j) < 10) := ⟨fun q => hnp (Or.inl q), fun q => hnp (Or.inr q)⟩
        rw [if_neg hnp'.1, if_neg hnp'.2] at u ⊢
        have hne : ρ 5 (A + j) ≠ 21 := fun q => u (by rw [q]; rfl)
        have hb1 : 10 ≤ ρ 5 (A + j) := by omega
        have hb2 : ρ 5 (A + j) ≤ 20 := by omega
        have hd2 := c4 hb1 hb2
        obtain ⟨q1, q2⟩ := est_b (w := w) hb1 hb2
        refine c12_pop i2 (by omega) c6 (c12_pop (D := dpt (ρ 5) A j - 1) (by rw [mset_self]) (by omega) (by omega) ?_)
        rw [mset_ne (by simp), i3 _ (by omega) (by omega), show dpt (ρ 5) A j - 1 - 1 = dpt (ρ 5) A j - 2 by omega, i3 _ (by omega) (by omega)]
        refine c12_one hb1 hb2 (c12_push (D := dpt (ρ 5) A j - 2) (by rw [mset_self]) (by omega) (by omega) (ih _ ⟨?_, ?_, ?_⟩))
        · exact (((i1.trans (EqX.mset (by decide))).trans (EqX.mset (by decide))).trans (EqX.mset (by decide))).trans (EqX.mset (by decide))
        · rw [mset_self, q2]; omega
        · rw [q1]
          refine stk_set i3 (by omega) (fun i => by rw [mset_ne (by simp), mset_fn, mset_ne (by simp), mset_ne (by simp)]) (fun i i0 i4 i5 => ?_)
          rw [q2] at i4; omega
      · -- not
        have hnp : ¬ isPush (ρ 5 (A + j)) := by
          intro hp
          rcases hp with hp | hp
          · exact y (if_pos hp)
          · exact x (by rw [if_neg (by omega), if_pos hp])
        have hnp' : ¬ (100 ≤ ρ 5 (A + j)) ∧ ¬ (ρ 5 (A + j) < 10) := ⟨fun q => hnp (Or.inl q), fun q => hnp (Or.inr q)⟩
        rw [if_neg hnp'.1, if_neg hnp'.2] at u
        have he : ρ 5 (A + j) = 21 := by
          unfold rc at u
          rw [if_neg hnp'.1, if_neg hnp'.2] at u
          (repeat' split at u) <;> omega
        have hd1 := c3 he
        obtain ⟨q1, q2⟩ := est_n (w := w) he
        refine c12_pop i2 hd1 c6 ?_
        rw [i3 _ (by omega) (by omega)]
        refine c12_push (D := dpt (ρ 5) A j - 1) (by rw [mset_self]) (by omega) (by omega) (ih _ ⟨?_, ?_, ?_⟩)
        · exact ((i1.trans (EqX.mset (by decide))).trans (EqX.mset (by decide))).trans (EqX.mset (by decide))
        · rw [mset_self, q2]; omega
        · rw [q1, q2]
          exact stk_set i3 (by omega) (fun i => by rw [mset_ne (by simp), mset_fn, mset_ne (by simp)]) (fun i i0 i4 i5 => i4)
      · -- a word
        have hp : ρ 5 (A + j) < 10 := by
          apply Classical.byContradiction
          intro q
          by_cases a : 100 ≤ ρ 5 (A + j)
          · exact y (if_pos a)
          · rw [if_neg a, if_neg q] at x
            have := (r3 (fun z => by rcases z with z | z; exact a z; exact q z)).1
            omega
        have hs4 := r2 (Or.inr hp)
        rw [if_neg (by omega)] at hs4
        rw [hs4]
        have h07 : 0 ≤ ρ 5 (A + j) ∧ ρ 5 (A + j) < 8 := ⟨by omega, by omega⟩
        have hwd := hW (ρ 5 (A + j)).toNat (by omega)
        rw [Int.toNat_of_nonneg h07.1] at hwd
        have : Mc 0 25 (ρ 5 (A + j)).toNat = w (ρ 5 (A + j)) := by rw [i1 0 25 _ (by decide)]; exact hwd
        rw [this]
        exact ⟨h07, pushv (Or.inr hp) _ (by rw [if_neg (by omega)])⟩
      · -- a number
        have hp : 100 ≤ ρ 5 (A + j) := by
          apply Classical.byContradiction
          intro q
          rw [if_neg q] at y
          by_cases a : ρ 5 (A + j) < 10
          · rw [if_pos a] at y; omega
          · rw [if_neg a] at y
            have := (r3 (fun z => by rcases z with z | z; exact q z; exact a z)).1
            omega
        have hs4 := r2 (Or.inl hp)
        rw [if_pos hp] at hs4
        rw [hs4]
        exact pushv (Or.inl hp) _ (by rw [if_pos hp])
  have g := loop 0 M1 (by omega) ⟨by rw [e1]; exact EqX.mset (by decide), by rw [e1, mset_self]; rfl, fun i i0 i1 => absurd i1 (by show ¬ i < 0; omega)⟩
  exact g
end RUT
