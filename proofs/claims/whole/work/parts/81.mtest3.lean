/-! ===== the reference reads a whole test ===== -/
section MRW
variable {G : Gx} {n : Nat} {M M' : Mem} {b : Nat → Int} {L f m l k a : Nat} {u : Nat → Int} {σ τ : List Int}
theorem srf_91 {x : Int} (hx : x = 19 ∨ x = 20 ∨ x = 21 ∨ x = 91) : srf x = 91 ↔ x = 91 := by
  rcases hx with q | q | q | q <;> subst q <;> decide
theorem stk_has {F : Nat → Int} : ∀ σ : List Int, bse σ → stkR F σ → ((∃ i, i < σ.length ∧ F i = 91) ↔ 91 ∈ σ)
  | [], _, _ => ⟨fun ⟨i, h, _⟩ => absurd h (Nat.not_lt_zero i), fun h => absurd h List.not_mem_nil⟩
  | x :: τ, hb, hs => by
    have ih := stk_has (F := F) τ (fun z hz => hb z (List.mem_cons_of_mem _ hz)) hs.2
    have hx := srf_91 (hb x List.mem_cons_self)
    have e : (x :: τ).length = τ.length + 1 := rfl
    rw [e]
    constructor
    · rintro ⟨i, hi, hF⟩
      by_cases q : i = τ.length
      · subst q
        rw [hs.1] at hF
        rw [hx.mp hF]; exact List.mem_cons_self
      · exact List.mem_cons_of_mem _ (ih.mp ⟨i, by omega, hF⟩)
    · intro h
      rcases List.mem_cons.mp h with q | q
      · exact ⟨τ.length, by omega, by rw [hs.1, hx]; exact q.symm⟩
      · obtain ⟨i, hi, hF⟩ := ih.mpr q
        exact ⟨i, by omega, hF⟩
theorem c12_isInside {Q : Int → Mem → Prop} (R : RelM b L k M f m l u σ) (hb : bse σ) (hl : σ.length ≤ 400) (ht : 91 ∈ σ → Q 1 M) (hf : 91 ∉ σ → Q 0 M) : OkI G n mX12_isInside [vO 0] M Q := by
  obtain ⟨T, r1, r2, r3, r4, r5, r6, r7, r8, r9⟩ := R
  have key := stk_has (F := M 0 21) σ hb r8
  refine eX12_isInside (fun Kx => bX12_isInside_0 ?_)
  have loop : ∀ (c i : Nat), σ.length - i ≤ c → i ≤ σ.length → (∀ j, j < i → M 0 21 j ≠ 91) → CW G Kx mX12_isInside n 2 [some (vO 0), some (vI (i : Int))] [] M (qI Q) := by
    intro c
    induction c with
    | zero =>
      intro i hc hi hn
      refine bX12_isInside_2 ?_
      rw [r7]
      refine ⟨fun _ => hf (fun z => ?_), fun z => absurd z (by omega)⟩
      obtain ⟨j, hj, hF⟩ := key.mpr z
      exact hn j (by omega) hF
    | succ c ih =>
      intro i hc hi hn
      refine bX12_isInside_2 ?_
      rw [r7, Int.toNat_natCast]
      refine ⟨fun z => hf (fun y => ?_), fun z => ⟨⟨by omega, by omega⟩, fun y => ?_, fun y => ht (key.mp ⟨i, by omega, y⟩)⟩⟩
      · obtain ⟨j, hj, hF⟩ := key.mpr y
        exact hn j (by omega) hF
      · rw [wr_nat (j := i) (by omega)]
        exact ih (i + 1) (by omega) (by omega) (fun j hj => by
          by_cases q : j = i
          · rw [q]; exact y
          · exact hn j (by omega))
  exact loop σ.length 0 (by omega) (Nat.zero_le _) (fun j hj => absurd hj (Nat.not_lt_zero j))
theorem nw_sign {j : Nat} (h : ¬ pL (b f) = true) : ¬ wq b L f j := fun w => h (kd_1.mp w.1).2
theorem hd_low (hb : bse σ) (h : σ = [] ∨ str (hd σ) < 1) : σ = [] ∨ ∃ ω, σ = 91 :: ω := by
  cases σ with
  | nil => exact Or.inl rfl
  | cons y ω =>
    right
    have e : hd (y :: ω) = y := rfl
    rcases h with q | q
    · cases q
    · rw [e] at q
      rcases hb y List.mem_cons_self with z | z | z | z
      · have : str y = 2 := by rw [z]; rfl
        omega
      · have : str y = 1 := by rw [z]; rfl
        omega
      · have : str y = 3 := by rw [z]; rfl
        omega
      · exact ⟨ω, by rw [z]⟩
theorem hd_mid (hb : bse σ) (h : σ = [] ∨ str (hd σ) < 2) : hd σ = 0 ∨ hd σ = 20 ∨ hd σ = 91 := by
  cases σ with
  | nil => exact Or.inl rfl
  | cons y ω =>
    have e : hd (y :: ω) = y := rfl
    rw [e]
    rcases h with q | q
    · cases q
    · rw [e] at q
      rcases hb y List.mem_cons_self with z | z | z | z
      · have : str y = 2 := by rw [z]; rfl
        omega
      · exact Or.inr (Or.inl z)
      · have : str y = 3 := by rw [z]; rfl
        omega
      · exact Or.inr (Or.inr z)
theorem c12_closes {Q : Mem → Prop} (R : RelM b L k M f m l u σ) (I : MIv b L a 3 f m l u σ) (h : ∀ M' f' l' u' σ', EqM k M M' → RelM b L k M' f' m l' u' σ' → Rc b L (3, f, m, l, u, σ, 0) (3, f', m, l', u', σ', 0) → dep σ' ≤ dep σ → f ≤ f' → ¬ (f' < L ∧ b f' = 93 ∧ 91 ∈ σ') → Q M') : OkV G (n + 2) mX12_closes [vO 0] M Q := by
  have hL := R.1.le.2.1
  refine eX12_closes (fun Kx => bX12_closes_0 (c12_settles (by decide) R (I.2.2.2.2.2.2.2.1 (Or.inr rfl)) (by have := I.2.2.1; have := I.1; omega) (fun M1 x1 e1 R1 => ?_)))
  have loop : ∀ (c f1 l1 : Nat) (u1 : Nat → Int) (σ1 : List Int) (Mc : Mem), L - f1 ≤ c → f ≤ f1 → dep σ1 ≤ dep σ → EqM k M Mc → RelM b L k Mc f1 m l1 u1 σ1 → MIv b L a 3 f1 m l1 u1 σ1 → Rc b L (3, f, m, l, u, σ, 0) (3, f1, m, l1, u1, σ1, 0) → CW G Kx mX12_closes (n + 2) 5 [some (vO 0)] [] Mc (qV Q) := by
    intro c
    induction c with
    | zero =>
      intro f1 l1 u1 σ1 Mc hc hff hdp E R1 I1 rcx
      refine bX12_closes_5 (c12_see R1.1 (fun M2 e2 T2 => ⟨fun _ => h M2 f1 l1 u1 σ1 (E.trans (EqM.of (k := k) e2 (by decide) (by decide))) (R1.m14 e2 T2.tm) rcx hdp hff (fun z => by omega), fun z => ?_⟩))
      have := ((byA_eq (by decide)).mp z).1; omega
    | succ c ih =>
      intro f1 l1 u1 σ1 Mc hc hff hdp E R1 I1 rcx
      have hfL := R1.1.le.1
      have hnx := nx_rng (b := b) hfL
      have hlen : l1 + σ1.length ≤ f1 := I1.2.2.1
      have hb1 := I1.2.2.2.2.2.2.2.1 (Or.inr rfl)
      refine bX12_closes_5 (c12_see R1.1 (fun M2 e2 T2 => ⟨fun z => h M2 f1 l1 u1 σ1 (E.trans (EqM.of (k := k) e2 (by decide) (by decide))) (R1.m14 e2 T2.tm) rcx hdp hff (fun y => z ((byA_eq (by decide)).mpr ⟨y.1, y.2.1⟩)), fun z => ?_⟩))
      obtain ⟨hl, hbd⟩ := (byA_eq (by decide)).mp z
      have R2 := R1.m14 e2 T2.tm
      have E2 := E.trans (EqM.of (k := k) e2 (by decide) (by decide))
      refine c12_isInside R2 hb1 (by omega) (fun hin => ⟨fun w => absurd w (by decide), fun _ => ?_⟩) (fun hin => ⟨fun _ => h M2 f1 l1 u1 σ1 E2 R2 rcx hdp hff (fun y => hin y.2.2), fun w => absurd rfl w⟩)
      have pl : ¬ pL (b f1) = true := by rw [hbd, pL_iff]; omega
      refine c12_settles (by decide) R2 hb1 (by omega) (fun M3 x3 e3 R3 => ?_)
      have rc3 : Rc b L (3, f1, m, l1, u1, σ1, 0) _ := stl_rc (x := 1) (m := m) (Or.inr (Or.inr ⟨rfl, nw_sign pl⟩)) σ1 l1 u1 hb1
      have I3 := MIv_of (MIv_Rc (MIS_mk I1) rc3) (by decide)
      have hin3 := (stl_in (x := 1) (by decide) σ1 l1 u1).mpr hin
      have hb3 := stl_bse (x := 1) σ1 l1 u1 hb1
      have hd3 := stl_dep (x := 1) σ1 l1 u1
      have hh3 := hd_low hb3 (stl_hd (x := 1) σ1 l1 u1)
      generalize (stl 1 σ1 l1 u1).1 = σ3 at R3 rc3 I3 hin3 hb3 hd3 hh3
      generalize (stl 1 σ1 l1 u1).2.1 = l3 at R3 rc3 I3
      generalize (stl 1 σ1 l1 u1).2.2 = u3 at R3 rc3 I3
      rcases hh3 with q | ⟨ω, q⟩
      · rw [q] at hin3; exact absurd hin3 List.not_mem_nil
      subst q
      have st : stp b L (3, f1, m, l3, u3, 91 :: ω, 0) = (3, nx b L f1, m, l3, u3, ω, 0) := by
        rw [stp_3]; unfold s3
        have eh : hd (91 :: ω) = 91 := rfl
        rw [eh, if_neg (by decide), cI_f (nw_sign pl), if_neg (by decide), cI_f (nw_sign pl), if_pos rfl, if_pos ⟨hl, hbd⟩]; rfl
      have I4 := MIv_of (MIv_Rc (MIS_mk I3) (Rc.st st Rc.rf)) (by decide)
      have hb4 := I4.2.2.2.2.2.2.2.1 (Or.inr rfl)
      intro M4 m4 M5 m5 M6 m6
      obtain ⟨T3, r1, r2, r3, r4, r5, r6, r7, r8, r9⟩ := id R3
      have hln : l3 + (ω.length + 1) ≤ f1 := I3.2.2.1
      have r7' : M3 0 22 0 = ((ω.length + 1 : Nat) : Int) := r7
      have dd : dep (91 :: ω) = dep ω + 1 := dep_y (Or.inr rfl)
      have hdl := dep_len ω
      have t14 : M3 0 14 0 = (f1 : Int) := by rw [x3 0 14 0 (by decide)]; exact T2.2.1
      have g19 : M4 0 19 0 = ((dep ω + 1 : Nat) : Int) := by rw [m4, mset_ne (by simp), r9, dd]
      have g14 : M5 0 14 0 = (f1 : Int) := by rw [m5, mset_ne (by simp), m4, mset_ne (by simp)]; exact t14
      rw [r7', wrs (x := ((ω.length + 1 : Nat) : Int) - 1) (by omega) (by omega), show ((ω.length + 1 : Nat) : Int) - 1 = ((ω.length : Nat) : Int) by omega] at m4
      rw [g19, wrs (x := ((dep ω + 1 : Nat) : Int) - 1) (by omega) (by omega), show ((dep ω + 1 : Nat) : Int) - 1 = ((dep ω : Nat) : Int) by omega] at m5
      rw [g14, wr_nat (j := f1) (by omega)] at m6
      have X6 : EqX [(0, 14), (0, 19), (0, 22)] M3 M6 := by rw [m6, m5, m4]; exact ((EqX.mset (by decide)).trans (EqX.mset (by decide))).trans (EqX.mset (by decide))
      have Te3 : Te b L M3 f1 := T2.eq x3 (by decide) (by decide) (by decide)
      have T6 : Tm b L M6 (nx b L f1) := by
        have X0 : EqX [(0, 19), (0, 22)] M3 M5 := by rw [m5, m4]; exact (EqX.mset (by decide)).trans (EqX.mset (by decide))
        have Te5 : Te b L M5 f1 := Te3.eq X0 (by decide) (by decide) (by decide)
        exact Tm_step Te5 (by decide) hl hbd (by rw [m6]; exact EqX.mset (by decide)) (by rw [m6, mset_self])
      have R6 : RelM b L k M6 (nx b L f1) m l3 u3 ω := ⟨T6, by rw [X6 0 15 0 (by decide)]; exact r1, by rw [X6 0 17 0 (by decide)]; exact r2, r3, by rw [X6 0 18 0 (by decide)]; exact r4, by rw [X6 0 4 k (by decide)]; exact r5, by rw [X6.fld (o := 0) (k := 3) (by decide)]; exact r6, by rw [m6, mset_ne (by simp), m5, mset_ne (by simp), m4, mset_self], by rw [X6.fld (o := 0) (k := 21) (by decide)]; exact r8.2, by rw [m6, mset_ne (by simp), m5, mset_self]⟩
      have E6 := (E2.trans e3).trans (EqM.of (k := k) X6 (by decide) (by decide))
      have hlt := hnx.2.2 hl
      refine c12_settles (by decide) R6 hb4 (by omega) (fun M7 x7 e7 R7 => ?_)
      have rc7 : Rc b L (3, nx b L f1, m, l3, u3, ω, 0) _ := stl_rc (x := 3) (m := m) (Or.inl rfl) ω l3 u3 hb4
      have dd7 := stl_dep (x := 3) ω l3 u3
      exact ih _ _ _ _ M7 (by omega) (by omega) (by omega) (E6.trans e7) R7 (MIv_of (MIv_Rc (MIS_mk I4) rc7) (by decide)) (((rcx.trans rc3).then st).trans rc7)
  have rc1 : Rc b L (3, f, m, l, u, σ, 0) _ := stl_rc (x := 3) (m := m) (Or.inl rfl) σ l u (I.2.2.2.2.2.2.2.1 (Or.inr rfl))
  exact loop (L - f) f _ _ _ M1 (Nat.le_refl _) (Nat.le_refl _) (stl_dep σ l u) e1 R1 (MIv_of (MIv_Rc (MIS_mk I) rc1) (by decide)) rc1
end MRW
