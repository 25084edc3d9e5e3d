/-! ===== a clause of a house; the class reads all ===== -/
section HRK
variable {b : Nat → Int} {L f : Nat} {h : Int → Int} {c : Nat}
theorem cI_or {α : Type} {p q : Prop} {x y : α} (hp : ¬ p) (hq : ¬ q) : cI (p ∨ q) x y = y := cI_f (fun z => z.elim hp hq)
theorem pCl_ok (K : HOKr h) (hf : f ≤ L) (e : (pCl b L f c h).1 = 0) : HOKr (pCl b L f c h).2.2 ∧ (pCl b L f c h).2.1 ≤ L ∧ run pB b L (pCl b L f c h).2.1 = (pCl b L f c h).2.1 ∧ c ≠ 40 := by
  have k0 := K.2.1
  have k1 := K.2.2.2.1
  have k2 := K.2.2.2.2.2.1
  have no : ∀ {p : Prop}, (tooM f h).1 = 0 → p := fun z => absurd z (by show ¬ (1 + 8 * (f : Int) + 4 = 0); omega)
  unfold pCl at e ⊢
  by_cases w0 : wq b L f 0
  · rw [cI_t w0] at e ⊢
    by_cases z : h 0 = 16 ∨ c = 40
    · rw [cI_t z] at e; exact no e
    · rw [cI_f z] at e ⊢
      obtain ⟨x, y, w⟩ := pRoom_ok K (by omega) (nx2 hf) e
      exact ⟨x, y, w, fun q => z (Or.inr q)⟩
  rw [cI_f w0] at e ⊢
  by_cases w1 : wq b L f 1
  · rw [cI_t w1] at e ⊢
    by_cases z : h 1 = 24 ∨ c = 40
    · rw [cI_t z] at e; exact no e
    · rw [cI_f z] at e ⊢
      obtain ⟨x, y, w⟩ := pWay_ok K (by omega) (Or.inl rfl) (nx2 hf) e
      exact ⟨x, y, w, fun q => z (Or.inr q)⟩
  rw [cI_f w1] at e ⊢
  by_cases w2 : wq b L f 2
  · rw [cI_t w2] at e ⊢
    by_cases z : h 1 = 24 ∨ c = 40
    · rw [cI_t z] at e; exact no e
    · rw [cI_f z] at e ⊢
      obtain ⟨x, y, w⟩ := pWay_ok K (by omega) (Or.inr rfl) (nx2 hf) e
      exact ⟨x, y, w, fun q => z (Or.inr q)⟩
  rw [cI_f w2] at e ⊢
  by_cases w3 : wq b L f 3
  · rw [cI_t w3] at e ⊢
    by_cases z : False ∨ c = 40
    · rw [cI_t z] at e; exact no e
    · rw [cI_f z] at e ⊢
      obtain ⟨x, y, w⟩ := pDoor_ok K (nx2 hf) e
      exact ⟨x, y, w, fun q => z (Or.inr q)⟩
  rw [cI_f w3] at e ⊢
  by_cases w4 : wq b L f 4
  · rw [cI_t w4] at e ⊢
    by_cases z : h 6 ≠ 0 ∨ c = 40
    · rw [cI_t z] at e; exact no e
    · rw [cI_f z] at e ⊢
      obtain ⟨x, y, w⟩ := pHoist_ok K (nx2 hf) e
      exact ⟨x, y, w, fun q => z (Or.inr q)⟩
  rw [cI_f w4] at e ⊢
  by_cases w5 : wq b L f 5
  · rw [cI_t w5] at e ⊢
    by_cases z : h 2 = 8 ∨ c = 40
    · rw [cI_t z] at e; exact no e
    · rw [cI_f z] at e ⊢
      obtain ⟨x, y, w⟩ := pPerson_ok K (by omega) (nx2 hf) e
      exact ⟨x, y, w, fun q => z (Or.inr q)⟩
  rw [cI_f w5] at e
  exact absurd e (by show ¬ (1 + 8 * (f : Int) + 0 = 0); omega)
/-- the clauses, one behind the other: the fault or 0, the house -/
noncomputable def hLp (b : Nat → Int) (L : Nat) : Nat → Nat → Nat → (Int → Int) → Int × (Int → Int)
  | 0, _, _, h => (1, h)
  | k + 1, c, f, h => if (pCl b L f c h).1 = 0 then
      (if L ≤ (pCl b L f c h).2.1 then (if (pCl b L f c h).2.2 0 = 0 then (1 + 8 * (((pCl b L f c h).2.1 : Nat) : Int) + 0, h) else (0, (pCl b L f c h).2.2))
      else if b (pCl b L f c h).2.1 = 59 then hLp b L k (c + 1) (nx b L (pCl b L f c h).2.1) (pCl b L f c h).2.2 else (1 + 8 * (((pCl b L f c h).2.1 : Nat) : Int) + 0, h))
    else ((pCl b L f c h).1, h)
theorem hLp_s {k : Nat} : hLp b L (k + 1) c f h = if (pCl b L f c h).1 = 0 then
      (if L ≤ (pCl b L f c h).2.1 then (if (pCl b L f c h).2.2 0 = 0 then (1 + 8 * (((pCl b L f c h).2.1 : Nat) : Int) + 0, h) else (0, (pCl b L f c h).2.2))
      else if b (pCl b L f c h).2.1 = 59 then hLp b L k (c + 1) (nx b L (pCl b L f c h).2.1) (pCl b L f c h).2.2 else (1 + 8 * (((pCl b L f c h).2.1 : Nat) : Int) + 0, h))
    else ((pCl b L f c h).1, h) := rfl
noncomputable def hAll (b : Nat → Int) (L : Nat) : Int × (Int → Int) := hLp b L 41 0 (run pB b L 0) (fun _ => 0)
theorem hLp_ok : ∀ (k c f : Nat) (h : Int → Int), HOKr h → f ≤ L → c + k = 41 → c ≤ 40 → (hLp b L k c f h).1 = 0 → HOKr (hLp b L k c f h).2 ∧ (hLp b L k c f h).2 0 ≠ 0
  | 0, c, f, h, _, _, _, hc, _ => by omega
  | k + 1, c, f, h, K, hf, hk, hc, e => by
    rw [hLp_s] at e ⊢
    by_cases z : (pCl b L f c h).1 = 0
    · obtain ⟨a1, a2, a3, a4⟩ := pCl_ok K hf z
      rw [if_pos z] at e ⊢
      by_cases y : L ≤ (pCl b L f c h).2.1
      · rw [if_pos y] at e ⊢
        by_cases x : (pCl b L f c h).2.2 0 = 0
        · rw [if_pos x] at e; exact absurd e (by show ¬ (1 + 8 * (((pCl b L f c h).2.1 : Nat) : Int) + 0 = 0); omega)
        · rw [if_neg x] at e ⊢; exact ⟨a1, x⟩
      · rw [if_neg y] at e ⊢
        by_cases x : b (pCl b L f c h).2.1 = 59
        · rw [if_pos x] at e ⊢
          exact hLp_ok k (c + 1) _ _ a1 (nx2 a2) (by omega) (by omega) e
        · rw [if_neg x] at e; exact absurd e (by show ¬ (1 + 8 * (((pCl b L f c h).2.1 : Nat) : Int) + 0 = 0); omega)
    · rw [if_neg z] at e; exact absurd e z
theorem z00 {r : Int} {p : Prop} (a : 0 ≤ r) (c : r < (0 : Int)) : p := absurd c (by omega)
theorem h00 : HOKr (fun _ => 0) := ⟨by decide, by decide, by decide, by decide, by decide, by decide, Or.inl ⟨rfl, rfl, rfl⟩, fun r a c => z00 a c, fun r a c => z00 a c, fun r a c => z00 a c⟩
theorem hAll_ok (e : (hAll b L).1 = 0) : HOK (hAll b L).2 := by
  obtain ⟨a, c⟩ := hLp_ok 41 0 (run pB b L 0) _ h00 (run_le (Nat.zero_le _)) (by decide) (by decide) e
  exact HOKr.ok a c
end HRK
section HRA
variable {G : Gx} {n : Nat} {M : Mem} {b : Nat → Int} {L f : Nat} {h : Int → Int} {c : Nat}
def EqR2 (M M' : Mem) : Prop := ∀ o k i, o ≠ 7 → (o, k) ∉ ((14, 2) :: rdF) → M' o k i = M o k i
theorem EqR2.rf : EqR2 M M := fun _ _ _ _ _ => rfl
theorem EqR2.trans {M1 M2 : Mem} (a : EqR2 M M1) (c : EqR2 M1 M2) : EqR2 M M2 := fun o k i x y => (c o k i x y).trans (a o k i x y)
theorem EqR.two {M' : Mem} (e : EqR M M') : EqR2 M M' := fun o k i x y => e o k i x (fun z => y (List.mem_cons_of_mem _ z))
theorem EqR2.of {l : List (Nat × Nat)} {M' : Mem} (e : EqX l M M') (hs : ∀ c ∈ l, c ∈ ((14, 2) :: rdF)) : EqR2 M M' := fun o k i _ y => e o k i (fun z => y (hs _ z))
theorem c2_opens {Q : Int → Mem → Prop} {p : Int} (T : Tk b L M f) (hc : M 14 2 0 = (c : Int)) (hc40 : c ≤ 40) (ht : p ≠ 0 → c ≠ 40 → ∀ M', EqX ((14, 2) :: tkF) M M' → M' 14 2 0 = ((c + 1 : Nat) : Int) → Tk b L M' (nx b L f) → Q 1 M') (hf : (p = 0 ∨ c = 40) → ∀ M', EqX [(2, 7)] M M' → M' 2 7 0 = 1 + 8 * (f : Int) + 4 → Q 0 M') : OkI G (n + 2) mX2_opens [vO 14, vI p] M Q := by
  refine eX2_opens (fun Kx => bX2_opens_0 ?_)
  rw [hc]
  refine ⟨fun z => c9_refuse T (by decide) (fun Ma ea g => ⟨Or.inl rfl, hf (Or.inl z) Ma ea g⟩), fun z => ⟨fun y M2 m2 => ?_, fun y => c9_refuse T (by decide) (fun Ma ea g => ⟨Or.inl rfl, hf (Or.inr (by omega)) Ma ea g⟩)⟩⟩
  rw [wr_nat (j := c) (by omega)] at m2
  have T2 : Tk b L M2 f := by rw [m2]; exact T.mset (by decide)
  refine T2.adv (fun M3 e3 T3 => ht z (by omega) M3 ?_ ?_ T3)
  · rw [m2] at e3; exact (EqX.mset (by decide)).trans (e3.sub (by decide))
  · rw [e3 14 2 0 (by decide), m2, mset_self]
theorem c2_readClause {Q : Int → Mem → Prop} (T : Tk b L M f) (H : HRd (M 7) h) (K : HOKr h) (hc : M 14 2 0 = (c : Int)) (hc40 : c ≤ 40) (ht : (pCl b L f c h).1 = 0 → ∀ M', EqR2 M M' → M' 14 2 0 = ((c + 1 : Nat) : Int) → Tk b L M' (pCl b L f c h).2.1 → HRd (M' 7) (pCl b L f c h).2.2 → Q 1 M') (hf : (pCl b L f c h).1 ≠ 0 → ∀ M', EqR2 M M' → M' 2 7 0 = (pCl b L f c h).1 → Q 0 M') : OkI G (n + 5) mX2_readClause [vO 14] M Q := by
  obtain ⟨k1, k2, k3, k4, k5, k6, -⟩ := id K
  have e0 : M 7 0 0 = h 0 := H.1.1
  have e1 : M 7 1 0 = h 1 := H.1.2.1
  have e2 : M 7 2 0 = h 2 := H.1.2.2.1
  have e6 : M 7 6 0 = h 6 := H.1.2.2.2.2.2.1
  have br : ∀ (p : Int) (md' : MD) (as : List V) (bad : Prop) (sp : HS), (p = 0 → bad) → (bad → p = 0) → pCl b L f c h = cI (bad ∨ c = 40) (tooM f h) sp →
      (¬ bad → ∀ M2, Tk b L M2 (nx b L f) → HRd (M2 7) h → ∀ Q' : Int → Mem → Prop, (sp.1 = 0 → ∀ M', EqR M2 M' → Tk b L M' sp.2.1 → HRd (M' 7) sp.2.2 → Q' 1 M') → (sp.1 ≠ 0 → ∀ M', EqR M2 M' → M' 2 7 0 = sp.1 → Q' 0 M') → OkI G (n + 4) md' as M2 Q') →
      OkI G (n + 4) mX2_opens [vO 14, vI p] M (fun r8 M8 => (r8 = 0 → Q 0 M8) ∧ (¬ (r8 = 0) → OkI G (n + 4) md' as M8 (fun r9 M9 => (r9 = 0 → Q 0 M9) ∧ (¬ (r9 = 0) → Q 1 M9)))) := by
    intro p md' as bad sp hp1 hp2 he rd
    refine c2_opens T hc hc40 (fun z y M2 E2 g2 T2 => ⟨fun w => absurd w (by decide), fun _ => ?_⟩) (fun z Ma ea g => ⟨fun _ => ?_, fun w => absurd rfl w⟩)
    · have nb : ¬ (bad ∨ c = 40) := fun q => q.elim (fun u => z (hp2 u)) y
      rw [cI_f nb] at he
      rw [he] at ht hf
      refine rd (fun u => z (hp2 u)) M2 T2 (HRd_eq H E2 (by decide)) _ (fun x M3 E3 T3 H3 => ⟨fun w => absurd w (by decide), fun _ => ht x M3 ((EqR2.of E2 (by decide)).trans E3.two) ?_ T3 H3⟩) (fun x M3 E3 g3 => ⟨fun _ => hf x M3 ((EqR2.of E2 (by decide)).trans E3.two) g3, fun w => absurd rfl w⟩)
      rw [E3 14 2 0 (by decide) (by decide)]; exact g2
    · have yb : bad ∨ c = 40 := z.imp hp1 id
      rw [cI_t yb] at he
      rw [he] at hf
      exact hf (by show ¬ (1 + 8 * (f : Int) + 4 = 0); omega) Ma (EqR2.of ea (by decide)) g
  refine eX2_readClause (fun Kx => bX2_readClause_0 (c9_isWord (by decide) T (fun w0 => ⟨fun z => absurd z (by decide), fun _ => ?_⟩) (fun w0 => ⟨fun _ => c9_isWord (by decide) T (fun w1 => ⟨fun z => absurd z (by decide), fun _ => ?_⟩) (fun w1 => ⟨fun _ => c9_isWord (by decide) T (fun w2 => ⟨fun z => absurd z (by decide), fun _ => ?_⟩) (fun w2 => ⟨fun _ => c9_isWord (by decide) T (fun w3 => ⟨fun z => absurd z (by decide), fun _ => ?_⟩) (fun w3 => ⟨fun _ => c9_isWord (by decide) T (fun w4 => ⟨fun z => absurd z (by decide), fun _ => ?_⟩) (fun w4 => ⟨fun _ => c9_isWord (by decide) T (fun w5 => ⟨fun z => absurd z (by decide), fun _ => ?_⟩) (fun w5 => ⟨fun _ => ?_, fun z => absurd rfl z⟩), fun z => absurd rfl z⟩), fun z => absurd rfl z⟩), fun z => absurd rfl z⟩), fun z => absurd rfl z⟩), fun z => absurd rfl z⟩)))
  · have he : pCl b L f c h = cI (h 0 = 16 ∨ c = 40) (tooM f h) (pRoom b L (nx b L f) h) := by unfold pCl; rw [cI_t w0]
    rw [e0]
    exact ⟨fun z => br 0 _ _ (h 0 = 16) _ (fun _ => by omega) (fun _ => rfl) he (fun nb => absurd (by omega) nb), fun z => br 1 _ _ (h 0 = 16) _ (fun q => absurd q (by decide)) (fun q => by omega) he (fun nb M2 T2 H2 Q' a d => c2_readRoom T2 H2 K (by omega) a d)⟩
  · have he : pCl b L f c h = cI (h 1 = 24 ∨ c = 40) (tooM f h) (pWay b L (nx b L f) h 0) := by unfold pCl; rw [cI_f w0, cI_t w1]
    rw [e1]
    exact ⟨fun z => br 0 _ _ (h 1 = 24) _ (fun _ => by omega) (fun _ => rfl) he (fun nb => absurd (by omega) nb), fun z => br 1 _ _ (h 1 = 24) _ (fun q => absurd q (by decide)) (fun q => by omega) he (fun nb M2 T2 H2 Q' a d => c2_readWay T2 H2 K (by omega) a d (Or.inl rfl))⟩
  · have he : pCl b L f c h = cI (h 1 = 24 ∨ c = 40) (tooM f h) (pWay b L (nx b L f) h 1) := by unfold pCl; rw [cI_f w0, cI_f w1, cI_t w2]
    rw [e1]
    exact ⟨fun z => br 0 _ _ (h 1 = 24) _ (fun _ => by omega) (fun _ => rfl) he (fun nb => absurd (by omega) nb), fun z => br 1 _ _ (h 1 = 24) _ (fun q => absurd q (by decide)) (fun q => by omega) he (fun nb M2 T2 H2 Q' a d => c2_readWay T2 H2 K (by omega) a d (Or.inr rfl))⟩
  · have he : pCl b L f c h = cI (False ∨ c = 40) (tooM f h) (pDoor b L (nx b L f) h) := by unfold pCl; rw [cI_f w0, cI_f w1, cI_f w2, cI_t w3]
    exact br 1 _ _ False _ (fun q => absurd q (by decide)) (fun q => q.elim) he (fun nb M2 T2 H2 Q' a d => c2_readDoor T2 H2 K a d)
  · have he : pCl b L f c h = cI (h 6 ≠ 0 ∨ c = 40) (tooM f h) (pHoist b L (nx b L f) h) := by unfold pCl; rw [cI_f w0, cI_f w1, cI_f w2, cI_f w3, cI_t w4]
    rw [e6]
    exact ⟨fun z => br 0 _ _ (h 6 ≠ 0) _ (fun _ => z) (fun _ => rfl) he (fun nb => absurd z nb), fun z => br 1 _ _ (h 6 ≠ 0) _ (fun q => absurd q (by decide)) (fun q => absurd z q) he (fun nb M2 T2 H2 Q' a d => c2_readHoist T2 H2 K a d)⟩
  · have he : pCl b L f c h = cI (h 2 = 8 ∨ c = 40) (tooM f h) (pPerson b L (nx b L f) h) := by unfold pCl; rw [cI_f w0, cI_f w1, cI_f w2, cI_f w3, cI_f w4, cI_t w5]
    rw [e2]
    exact ⟨fun z => br 0 _ _ (h 2 = 8) _ (fun _ => by omega) (fun _ => rfl) he (fun nb => absurd (by omega) nb), fun z => br 1 _ _ (h 2 = 8) _ (fun q => absurd q (by decide)) (fun q => by omega) he (fun nb M2 T2 H2 Q' a d => c2_readPerson T2 H2 K (by omega) a d)⟩
  · have he : pCl b L f c h = (1 + 8 * (f : Int) + 0, f, h) := by unfold pCl; rw [cI_f w0, cI_f w1, cI_f w2, cI_f w3, cI_f w4, cI_f w5]
    rw [he] at hf
    exact c9_refuse T (by decide) (fun Ma ea g => ⟨Or.inl rfl, hf (by show ¬ (1 + 8 * (f : Int) + 0 = 0); omega) Ma (EqR2.of ea (by decide)) g⟩)
theorem c1_clear {Q : Mem → Prop} {o : Nat} (ho : oc o = 1) (hq : ∀ M', EqO o M M' → (∀ k, k ≤ 6 → M' o k 0 = 0) → (∀ k i, 6 < k → M' o k i = M o k i) → Q M') : OkV G n mX1_clear [vO o] M Q := by
  refine eX1_clear (fun Kx => bX1_clear_0 ho (fun M1 m1 M2 m2 M3 m3 M4 m4 M5 m5 M6 m6 M7 m7 => hq M7 ?_ (fun k hk => ?_) (fun k i hk => ?_)))
  · rw [m7, m6, m5, m4, m3, m2, m1]
    exact (((((EqO.mset.trans EqO.mset).trans EqO.mset).trans EqO.mset).trans EqO.mset).trans EqO.mset).trans EqO.mset
  · have q : k = 0 ∨ k = 1 ∨ k = 2 ∨ k = 3 ∨ k = 4 ∨ k = 5 ∨ k = 6 := by omega
    rcases q with q | q | q | q | q | q | q <;> subst q
    · rw [m7, mset_ne (by simp), m6, mset_ne (by simp), m5, mset_ne (by simp), m4, mset_ne (by simp), m3, mset_ne (by simp), m2, mset_ne (by simp), m1, mset_self]
    · rw [m7, mset_ne (by simp), m6, mset_ne (by simp), m5, mset_ne (by simp), m4, mset_ne (by simp), m3, mset_ne (by simp), m2, mset_self]
    · rw [m7, mset_ne (by simp), m6, mset_ne (by simp), m5, mset_ne (by simp), m4, mset_ne (by simp), m3, mset_self]
    · rw [m7, mset_ne (by simp), m6, mset_ne (by simp), m5, mset_ne (by simp), m4, mset_self]
    · rw [m7, mset_ne (by simp), m6, mset_ne (by simp), m5, mset_self]
    · rw [m7, mset_ne (by simp), m6, mset_self]
    · rw [m7, mset_self]
  · rw [m7, mset_ne (by omega), m6, mset_ne (by omega), m5, mset_ne (by omega), m4, mset_ne (by omega), m3, mset_ne (by omega), m2, mset_ne (by omega), m1, mset_ne (by omega)]
theorem c2_readAll {Q : Int → Mem → Prop} (h0 : M 2 0 = b) (h1 : M 2 1 0 = (L : Int)) (hL : L ≤ 400) (ht : (hAll b L).1 = 0 → ∀ M', EqR2 M M' → HRd (M' 7) (hAll b L).2 → Q 1 M') (hf : (hAll b L).1 ≠ 0 → ∀ M', EqR2 M M' → M' 2 7 0 = (hAll b L).1 → Q 0 M') : OkI G (n + 6) mX2_readAll [vO 14] M Q := by
  refine eX2_readAll (fun Kx => bX2_readAll_0 (c1_clear rfl (fun M1 E1 g1 g1' M2 m2 => ?_)))
  have q1 : EqR2 M M2 := by
    rw [m2]
    intro o k i x y
    rw [mset_ne (fun z => y (by rw [z.1, z.2.1]; decide)), E1 o x]
  refine c9_begin (b := b) (L := L) ?_ ?_ hL (fun M3 E3 T3 => ?_)
  · rw [m2]; funext i; rw [mset_ne (by simp), E1 2 (by decide), h0]
  · rw [m2, mset_ne (by simp), E1 2 (by decide), h1]
  have q3 : EqR2 M M3 := q1.trans (EqR2.of E3 (by decide))
  have f7 : M3 7 = M1 7 := by rw [E3.obj (o := 7) (by decide), m2]; funext k i; rw [mset_ne (by simp)]
  have H3 : HRd (M3 7) (fun _ => 0) := by
    rw [f7]
    exact ⟨⟨g1 0 (by decide), g1 1 (by decide), g1 2 (by decide), g1 4 (by decide), g1 5 (by decide), g1 6 (by decide), fun r a c => z00 a c, fun r a c => z00 a c, fun r a c => z00 a c, fun z => absurd z (by decide)⟩, fun _ => g1 3 (by decide)⟩
  have c3 : M3 14 2 0 = ((0 : Nat) : Int) := by rw [E3 14 2 0 (by decide), m2, mset_self]; rfl
  have loop : ∀ (k c f : Nat) (h : Int → Int) (Mc : Mem), c + k = 41 → c ≤ 40 → EqR2 M Mc → Tk b L Mc f → HRd (Mc 7) h → HOKr h → Mc 14 2 0 = (c : Int) → ((hLp b L k c f h).1 = 0 → ∀ M', EqR2 M M' → HRd (M' 7) (hLp b L k c f h).2 → Q 1 M') → ((hLp b L k c f h).1 ≠ 0 → ∀ M', EqR2 M M' → M' 2 7 0 = (hLp b L k c f h).1 → Q 0 M') → CW G Kx mX2_readAll (n + 6) 21 [some (vO 14), some (vI (c : Int))] [] Mc (qI Q) := by
    intro k
    induction k with
    | zero => intro c f h Mc hk hc; omega
    | succ k ih =>
      intro c f h Mc hk hc E T H K hcc ht hf
      rw [hLp_s] at ht hf
      refine bX2_readAll_21 ?_
      rw [wr_nat (j := c) (by omega)]
      refine ⟨fun z => absurd z (by omega), fun _ => c2_readClause T H K hcc hc (fun z M' E' g T' H' => ⟨fun _ => ?_, fun w => absurd w (by decide)⟩) (fun z M' E' g => ⟨fun w => absurd rfl w, fun _ => ?_⟩)⟩
      · obtain ⟨a1, a2, a3, a4⟩ := pCl_ok K T.2.2.2.1 z
        rw [if_pos z] at ht hf
        have hkd : M' 2 2 0 = kd b L (pCl b L f c h).2.1 := T'.2.2.2.2.1
        rw [hkd, kd_0]
        refine ⟨fun y => ?_, fun y => ?_⟩
        · rw [if_neg y] at ht hf
          refine c9_passSign T' (by decide) (fun u v M5 E5 T5 => ⟨fun _ => ?_, fun w => absurd w (by decide)⟩) (fun u M5 E5 g5 => ⟨fun w => absurd rfl w, fun _ => ?_⟩)
          · rw [if_pos v] at ht hf
            refine ih (c + 1) _ _ M5 (by omega) (by omega) ((E.trans E').trans (EqR2.of E5 (by decide))) T5 (HRd_eq H' E5 (by decide)) a1 ?_ ht hf
            rw [E5 14 2 0 (by decide)]; exact g
          · rw [if_neg (fun v => u ⟨by omega, v⟩)] at hf
            exact hf (by show ¬ (1 + 8 * (((pCl b L f c h).2.1 : Nat) : Int) + 0 = 0); omega) M5 ((E.trans E').trans (EqR2.of E5 (by decide))) g5
        · rw [if_pos y] at ht hf
          have g0 : M' 7 0 0 = (pCl b L f c h).2.2 0 := H'.1.1
          rw [g0]
          refine ⟨fun w => ?_, fun w => c9_refuse T' (by decide) (fun M5 E5 g5 => ⟨fun _ => ?_, fun w => absurd rfl w⟩)⟩
          · rw [if_neg (by omega)] at ht
            exact ht rfl M' (E.trans E') H'
          · have := a1.1
            rw [if_pos (by omega)] at hf
            exact hf (by show ¬ (1 + 8 * (((pCl b L f c h).2.1 : Nat) : Int) + 0 = 0); omega) M5 ((E.trans E').trans (EqR2.of E5 (by decide))) g5
      · rw [if_neg z] at hf
        exact hf z M' (E.trans E') g
  exact loop 41 0 (run pB b L 0) (fun _ => 0) M3 (by decide) (by decide) q3 T3 H3 h00 c3 ht hf
end HRA
