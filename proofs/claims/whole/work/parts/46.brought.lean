/-! ===== what is brought: the mathematics ===== -/
section BRP
variable {fr at_ to_ co : Nat → Int} {A A' : Int → Int}
def updA (A : Int → Int) (r v : Int) : Int → Int := fun x => if x = r then v else A x
/-- one goes along k ways of a trip -/
def tk (fr at_ to_ co : Nat → Int) (A : Int → Int) : Nat → Bool × (Int → Int)
  | 0 => (false, A)
  | k + 1 => (((tk fr at_ to_ co A k).1 || decide ((tk fr at_ to_ co A k).2 (fr k) ≤ at_ k)), if ((tk fr at_ to_ co A k).1 || decide ((tk fr at_ to_ co A k).2 (fr k) ≤ at_ k)) = true ∧ co k < (tk fr at_ to_ co A k).2 (to_ k) then updA (tk fr at_ to_ co A k).2 (to_ k) (co k) else (tk fr at_ to_ co A k).2)
theorem tk_le (r : Int) : ∀ k : Nat, (tk fr at_ to_ co A k).2 r ≤ A r
  | 0 => Int.le_refl _
  | k + 1 => by
    have ih := tk_le r k
    unfold tk
    dsimp only
    split
    · rename_i z
      unfold updA
      by_cases e : r = to_ k
      · rw [if_pos e]; rw [e] at ih ⊢; omega
      · rw [if_neg e]; exact ih
    · exact ih
theorem tk_1 (r : Int) (k : Nat) : (tk fr at_ to_ co A (k + 1)).2 r ≤ (tk fr at_ to_ co A k).2 r := by
  show (if _ then _ else _ : Int → Int) r ≤ _
  split
  · rename_i z
    show (if _ then _ else _) ≤ _
    by_cases e : r = to_ k
    · rw [if_pos e, e]; exact Int.le_of_lt z.2
    · rw [if_neg e]; exact Int.le_refl _
  · exact Int.le_refl _
theorem tk_mono (r : Int) {k : Nat} : ∀ d : Nat, (tk fr at_ to_ co A (k + d)).2 r ≤ (tk fr at_ to_ co A k).2 r
  | 0 => Int.le_refl _
  | d + 1 => Int.le_trans (tk_1 r (k + d)) (tk_mono r d)
theorem tk_has {k : Nat} (h : (tk fr at_ to_ co A k).1 = true) : ∀ d : Nat, (tk fr at_ to_ co A (k + d)).1 = true
  | 0 => h
  | d + 1 => by
    have ih := tk_has h d
    show ((tk fr at_ to_ co A (k + d)).1 || _) = true
    rw [ih]; rfl
theorem tk_rel {k1 k2 N : Nat} (h12 : k1 ≤ k2) (h2 : k2 < N) (h : A (fr k1) ≤ at_ k1) : (tk fr at_ to_ co A N).2 (to_ k2) ≤ co k2 := by
  have h1 : (tk fr at_ to_ co A (k1 + 1)).1 = true := by
    show ((tk fr at_ to_ co A k1).1 || _) = true
    have := tk_le (fr := fr) (at_ := at_) (to_ := to_) (co := co) (A := A) (fr k1) k1
    rw [decide_eq_true (show (tk fr at_ to_ co A k1).2 (fr k1) ≤ at_ k1 by omega)]
    simp
  have hh : (tk fr at_ to_ co A (k2 + 1)).1 = true := by
    have := tk_has h1 (k2 - k1)
    rw [show k1 + 1 + (k2 - k1) = k2 + 1 by omega] at this
    exact this
  have hv : (tk fr at_ to_ co A (k2 + 1)).2 (to_ k2) ≤ co k2 := by
    have hh' : ((tk fr at_ to_ co A k2).1 || decide ((tk fr at_ to_ co A k2).2 (fr k2) ≤ at_ k2)) = true := hh
    unfold tk
    dsimp only
    by_cases z : co k2 < (tk fr at_ to_ co A k2).2 (to_ k2)
    · rw [if_pos ⟨hh', z⟩]; unfold updA; rw [if_pos rfl]; exact Int.le_refl _
    · rw [if_neg (fun w => z w.2)]; omega
  have := tk_mono (fr := fr) (at_ := at_) (to_ := to_) (co := co) (A := A) (to_ k2) (k := k2 + 1) (N - (k2 + 1))
  rw [show k2 + 1 + (N - (k2 + 1)) = N by omega] at this
  omega
/-- what is so of each (room, minute) that the thing can lie at, over one trip -/
theorem tk_snd {B : Int → Int → Prop} {N : Nat} (hB : ∀ k1 k2 m, k1 ≤ k2 → k2 < N → B (fr k1) m → m ≤ at_ k1 → B (to_ k2) (co k2)) (hat : ∀ k, k < N → at_ k ≤ 1439) (hA : ∀ r, A r ≤ 1439 → B r (A r)) : ∀ k : Nat, k ≤ N → (∀ r, (tk fr at_ to_ co A k).2 r ≤ 1439 → B r ((tk fr at_ to_ co A k).2 r)) ∧ ((tk fr at_ to_ co A k).1 = true → ∃ k1 m, k1 < k ∧ B (fr k1) m ∧ m ≤ at_ k1)
  | 0, _ => ⟨hA, fun z => by cases z⟩
  | k + 1, hk => by
    obtain ⟨i1, i2⟩ := tk_snd hB hat hA k (by omega)
    have hhas : ((tk fr at_ to_ co A k).1 || decide ((tk fr at_ to_ co A k).2 (fr k) ≤ at_ k)) = true → ∃ k1 m, k1 < k + 1 ∧ B (fr k1) m ∧ m ≤ at_ k1 := by
      intro z
      rcases Bool.or_eq_true _ _ ▸ z with q | q
      · obtain ⟨k1, m, a, b, c⟩ := i2 q
        exact ⟨k1, m, by omega, b, c⟩
      · have q' := of_decide_eq_true q
        have := hat k (by omega)
        exact ⟨k, _, by omega, i1 _ (by omega), q'⟩
    refine ⟨fun r hr => ?_, hhas⟩
    unfold tk at hr ⊢
    dsimp only at hr ⊢
    by_cases z : ((tk fr at_ to_ co A k).1 || decide ((tk fr at_ to_ co A k).2 (fr k) ≤ at_ k)) = true ∧ co k < (tk fr at_ to_ co A k).2 (to_ k)
    · rw [if_pos z] at hr ⊢
      unfold updA at hr ⊢
      by_cases e : r = to_ k
      · rw [if_pos e] at hr ⊢
        obtain ⟨k1, m, a, b, c⟩ := hhas z.1
        rw [e]; exact hB k1 k m (by omega) (by omega) b c
      · rw [if_neg e] at hr ⊢; exact i1 r hr
    · rw [if_neg z] at hr ⊢; exact i1 r hr
theorem tk_chg {N : Nat} (hco : ∀ k, k < N → co k ≤ 1439) (r : Int) : ∀ k : Nat, k ≤ N → (tk fr at_ to_ co A k).2 r = A r ∨ (tk fr at_ to_ co A k).2 r ≤ 1439
  | 0, _ => Or.inl rfl
  | k + 1, hk => by
    have ih := tk_chg hco r k (by omega)
    unfold tk
    dsimp only
    split
    · unfold updA
      by_cases e : r = to_ k
      · rw [if_pos e]; exact Or.inr (hco k (by omega))
      · rw [if_neg e]; exact ih
    · exact ih
end BRP
section BRQ
variable {fr at_ to_ co : Int → Nat → Int} {N : Int → Nat} {T : Nat} {r0 m0 : Int}
/-- a round over the first t trips -/
def rdA (fr at_ to_ co : Int → Nat → Int) (N : Int → Nat) (A : Int → Int) : Nat → Int → Int
  | 0 => A
  | t + 1 => (tk (fr (t : Int)) (at_ (t : Int)) (to_ (t : Int)) (co (t : Int)) (rdA fr at_ to_ co N A t) (N (t : Int))).2
def itA (fr at_ to_ co : Int → Nat → Int) (N : Int → Nat) (T : Nat) (A : Int → Int) : Nat → Int → Int
  | 0 => A
  | j + 1 => rdA fr at_ to_ co N (itA fr at_ to_ co N T A j) T
theorem rdA_le {A : Int → Int} (r : Int) : ∀ t : Nat, rdA fr at_ to_ co N A t r ≤ A r
  | 0 => Int.le_refl _
  | t + 1 => Int.le_trans (tk_le r _) (rdA_le r t)
theorem rdA_mono {A : Int → Int} (r : Int) {t : Nat} : ∀ d : Nat, rdA fr at_ to_ co N A (t + d) r ≤ rdA fr at_ to_ co N A t r
  | 0 => Int.le_refl _
  | d + 1 => Int.le_trans (tk_le (A := rdA fr at_ to_ co N A (t + d)) r _) (rdA_mono r d)
def BRn (fr at_ to_ co : Int → Nat → Int) (N : Int → Nat) (T : Nat) (r0 m0 : Int) : Nat → Int → Int → Prop
  | 0 => fun r m => r = r0 ∧ m = m0
  | j + 1 => fun r m => BRn fr at_ to_ co N T r0 m0 j r m ∨ ∃ (t : Nat) (k1 k2 : Nat) (m' : Int), t < T ∧ k1 ≤ k2 ∧ k2 < N (t : Int) ∧ BRn fr at_ to_ co N T r0 m0 j (fr (t : Int) k1) m' ∧ m' ≤ at_ (t : Int) k1 ∧ r = to_ (t : Int) k2 ∧ m = co (t : Int) k2
def Br (fr at_ to_ co : Int → Nat → Int) (N : Int → Nat) (T : Nat) (r0 m0 r m : Int) : Prop := ∃ j, BRn fr at_ to_ co N T r0 m0 j r m
/-- what the trips keep to -/
def TrOK (fr at_ to_ co : Int → Nat → Int) (N : Int → Nat) (T : Nat) : Prop := ∀ t : Nat, t < T → ∀ k, k < N (t : Int) → (0 ≤ at_ (t : Int) k ∧ at_ (t : Int) k ≤ 1439) ∧ (0 ≤ co (t : Int) k ∧ co (t : Int) k ≤ 1439) ∧ (0 ≤ fr (t : Int) k ∧ fr (t : Int) k < 16) ∧ (0 ≤ to_ (t : Int) k ∧ to_ (t : Int) k < 16) ∧ ∀ k1, k1 ≤ k → at_ (t : Int) k1 < co (t : Int) k
theorem Br_step {t k1 k2 : Nat} {m : Int} (ht : t < T) (h12 : k1 ≤ k2) (h2 : k2 < N (t : Int)) (hb : Br fr at_ to_ co N T r0 m0 (fr (t : Int) k1) m) (hm : m ≤ at_ (t : Int) k1) : Br fr at_ to_ co N T r0 m0 (to_ (t : Int) k2) (co (t : Int) k2) := by
  obtain ⟨j, hj⟩ := hb
  exact ⟨j + 1, Or.inr ⟨t, k1, k2, m, ht, h12, h2, hj, hm, rfl, rfl⟩⟩
theorem Br_pred {r m : Int} (h : Br fr at_ to_ co N T r0 m0 r m) : (r = r0 ∧ m = m0) ∨ ∃ (t k1 k2 : Nat) (m' : Int), t < T ∧ k1 ≤ k2 ∧ k2 < N (t : Int) ∧ Br fr at_ to_ co N T r0 m0 (fr (t : Int) k1) m' ∧ m' ≤ at_ (t : Int) k1 ∧ r = to_ (t : Int) k2 ∧ m = co (t : Int) k2 := by
  obtain ⟨j, hj⟩ := h
  induction j with
  | zero => exact Or.inl hj
  | succ j ih =>
    rcases hj with hj | ⟨t, k1, k2, m', a, b, c, d, e⟩
    · exact ih hj
    · exact Or.inr ⟨t, k1, k2, m', a, b, c, ⟨j, d⟩, e⟩
theorem rdA_snd (hT : TrOK fr at_ to_ co N T) {A : Int → Int} (hA : ∀ r, A r ≤ 1439 → Br fr at_ to_ co N T r0 m0 r (A r)) : ∀ t : Nat, t ≤ T → ∀ r, rdA fr at_ to_ co N A t r ≤ 1439 → Br fr at_ to_ co N T r0 m0 r (rdA fr at_ to_ co N A t r)
  | 0, _ => hA
  | t + 1, ht => by
    have ih := rdA_snd hT hA t (by omega)
    exact (tk_snd (B := Br fr at_ to_ co N T r0 m0) (fun k1 k2 m a b c d => Br_step (by omega) a b c d) (fun k hk => (hT t (by omega) k hk).1.2) ih (N (t : Int)) (Nat.le_refl _)).1
theorem rdA_chg (hT : TrOK fr at_ to_ co N T) {A : Int → Int} (r : Int) : ∀ t : Nat, t ≤ T → rdA fr at_ to_ co N A t r = A r ∨ rdA fr at_ to_ co N A t r ≤ 1439
  | 0, _ => Or.inl rfl
  | t + 1, ht => by
    have ih := rdA_chg hT (A := A) r t (by omega)
    have := tk_chg (fr := fr (t : Int)) (at_ := at_ (t : Int)) (to_ := to_ (t : Int)) (co := co (t : Int)) (A := rdA fr at_ to_ co N A t) (N := N (t : Int)) (fun k hk => (hT t (by omega) k hk).2.1.2) r (N (t : Int)) (Nat.le_refl _)
    rcases this with q | q
    · rcases ih with p | p
      · exact Or.inl (q.trans p)
      · exact Or.inr (by show (tk _ _ _ _ _ _).2 r ≤ 1439; rw [q]; exact p)
    · exact Or.inr q
def FnB (fr at_ to_ co : Int → Nat → Int) (N : Int → Nat) (T : Nat) (r0 m0 : Int) (A : Int → Int) (r : Int) : Prop := ∀ m, Br fr at_ to_ co N T r0 m0 r m → A r ≤ m
def NFb (fr at_ to_ co : Int → Nat → Int) (N : Int → Nat) (T : Nat) (r0 m0 : Int) (A : Int → Int) : Nat → Prop := fun k => ¬ FnB fr at_ to_ co N T r0 m0 A (k : Int)
theorem Br_rm (hT : TrOK fr at_ to_ co N T) (h0 : 0 ≤ r0 ∧ r0 < 16) (hm : 0 ≤ m0) {r m : Int} (h : Br fr at_ to_ co N T r0 m0 r m) : (0 ≤ r ∧ r < 16) ∧ 0 ≤ m := by
  rcases Br_pred h with ⟨a, b⟩ | ⟨t, k1, k2, m', a, b, c, d, e, f, g⟩
  · rw [a, b]; exact ⟨h0, hm⟩
  · have := hT t a k2 c
    rw [f, g]; exact ⟨this.2.2.2.1, this.2.1.1⟩
theorem growB (hT : TrOK fr at_ to_ co N T) (h0 : 0 ≤ r0 ∧ r0 < 16) (hm0 : 0 ≤ m0) {A : Int → Int} (hA0 : A r0 ≤ m0) (hn : ∃ r, ¬ FnB fr at_ to_ co N T r0 m0 A r) : nfc (NFb fr at_ to_ co N T r0 m0 (rdA fr at_ to_ co N A T)) 16 < nfc (NFb fr at_ to_ co N T r0 m0 A) 16 := by
  have hB : ∃ t : Nat, ∃ r, Br fr at_ to_ co N T r0 m0 r (t : Int) ∧ (t : Int) < A r := by
    obtain ⟨r, hf⟩ := hn
    apply Classical.byContradiction
    intro z
    refine hf (fun m hm => ?_)
    apply Classical.byContradiction
    intro z2
    have := (Br_rm hT h0 hm0 hm).2
    exact z ⟨m.toNat, r, by rw [Int.toNat_of_nonneg this]; exact hm, by omega⟩
  obtain ⟨t, ⟨r, h1, h2⟩, hmin⟩ := pk_least _ hB
  have hle : ∀ r, rdA fr at_ to_ co N A T r ≤ A r := fun r => rdA_le r T
  have hD : rdA fr at_ to_ co N A T r ≤ (t : Int) := by
    rcases Br_pred h1 with ⟨a, b⟩ | ⟨u, k1, k2, m', a, b, c, d, e, f, g⟩
    · have := hle r; rw [a] at this ⊢; omega
    · have ok := hT u a k2 c
      have hlt := ok.2.2.2.2 k1 b
      have hm' := (Br_rm hT h0 hm0 d).2
      have hd : A (fr (u : Int) k1) ≤ m' := by
        apply Classical.byContradiction
        intro z
        exact hmin m'.toNat (by omega) ⟨_, by rw [Int.toNat_of_nonneg hm']; exact d, by omega⟩
      have hu := rdA_le (fr := fr) (at_ := at_) (to_ := to_) (co := co) (N := N) (A := A) (fr (u : Int) k1) u
      have hr := tk_rel (fr := fr (u : Int)) (at_ := at_ (u : Int)) (to_ := to_ (u : Int)) (co := co (u : Int)) (A := rdA fr at_ to_ co N A u) b c (by omega)
      have hmn := rdA_mono (fr := fr) (at_ := at_) (to_ := to_) (co := co) (N := N) (A := A) (to_ (u : Int) k2) (t := u + 1) (T - (u + 1))
      rw [show u + 1 + (T - (u + 1)) = T by omega] at hmn
      have : rdA fr at_ to_ co N A (u + 1) (to_ (u : Int) k2) ≤ co (u : Int) k2 := hr
      rw [f, g]; omega
  have hfin : FnB fr at_ to_ co N T r0 m0 (rdA fr at_ to_ co N A T) r := by
    intro m hm
    have h0' := (Br_rm hT h0 hm0 hm).2
    by_cases c : m < (t : Int)
    · have : A r ≤ m := by
        apply Classical.byContradiction
        intro z
        exact hmin m.toNat (by omega) ⟨r, by rw [Int.toNat_of_nonneg h0']; exact hm, by omega⟩
      have := hle r; omega
    · omega
  have hrm := (Br_rm hT h0 hm0 h1).1
  have er : ((r.toNat : Nat) : Int) = r := Int.toNat_of_nonneg hrm.1
  refine nfc_lt (j := r.toNat) (fun k hk z => hk (fun m hm => Int.le_trans (hle _) (z m hm))) ?_ ?_ 16 (by omega)
  · unfold NFb; rw [er]; exact fun z => by have := z _ h1; omega
  · unfold NFb; rw [er]; exact fun z => z hfin
/-- the rounds come to rest -/
theorem it_rest (hT : TrOK fr at_ to_ co N T) (h0 : 0 ≤ r0 ∧ r0 < 16) (hm0 : 0 ≤ m0) {A : Int → Int} (hA0 : A r0 = m0) (hA1 : ∀ r, r ≠ r0 → 1439 < A r) : rdA fr at_ to_ co N (itA fr at_ to_ co N T A 16) T = itA fr at_ to_ co N T A 16 := by
  have hle : ∀ j r, itA fr at_ to_ co N T A j r ≤ A r := by
    intro j
    induction j with
    | zero => exact fun r => Int.le_refl _
    | succ j ih => exact fun r => Int.le_trans (rdA_le (A := itA fr at_ to_ co N T A j) r T) (ih r)
  have hsnd : ∀ j r, itA fr at_ to_ co N T A j r ≤ 1439 → Br fr at_ to_ co N T r0 m0 r (itA fr at_ to_ co N T A j r) := by
    intro j
    induction j with
    | zero =>
      intro r hr
      by_cases e : r = r0
      · refine ⟨0, e, ?_⟩
        show A r = m0
        rw [e]; exact hA0
      · have := hA1 r e
        have : A r ≤ 1439 := hr
        omega
    | succ j ih => exact rdA_snd hT ih T (Nat.le_refl _)
  have hnf : ∀ j, (∀ r, FnB fr at_ to_ co N T r0 m0 (itA fr at_ to_ co N T A j) r) ∨ nfc (NFb fr at_ to_ co N T r0 m0 (itA fr at_ to_ co N T A j)) 16 + j ≤ 16 := by
    intro j
    induction j with
    | zero => exact Or.inr (by have := nfc_n (P := NFb fr at_ to_ co N T r0 m0 (itA fr at_ to_ co N T A 0)) 16; omega)
    | succ j ih =>
      by_cases hall : ∀ r, FnB fr at_ to_ co N T r0 m0 (itA fr at_ to_ co N T A j) r
      · exact Or.inl (fun r m hm => Int.le_trans (rdA_le (A := itA fr at_ to_ co N T A j) r T) (hall r m hm))
      · rcases ih with q | q
        · exact absurd q hall
        · have hn : ∃ r, ¬ FnB fr at_ to_ co N T r0 m0 (itA fr at_ to_ co N T A j) r := Classical.byContradiction (fun z => hall (fun r => Classical.byContradiction (fun y => z ⟨r, y⟩)))
          have := growB hT h0 hm0 (A := itA fr at_ to_ co N T A j) (by have := hle j r0; omega) hn
          exact Or.inr (by show nfc (NFb fr at_ to_ co N T r0 m0 (rdA fr at_ to_ co N (itA fr at_ to_ co N T A j) T)) 16 + (j + 1) ≤ 16; omega)
  have hfin : ∀ r, FnB fr at_ to_ co N T r0 m0 (itA fr at_ to_ co N T A 16) r := by
    rcases hnf 16 with q | q
    · exact q
    · intro r m hm
      have hrm := (Br_rm hT h0 hm0 hm).1
      have hz := nfc_zero (P := NFb fr at_ to_ co N T r0 m0 (itA fr at_ to_ co N T A 16)) 16 (by omega) r.toNat (by omega)
      unfold NFb at hz
      rw [Int.toNat_of_nonneg hrm.1] at hz
      exact (Classical.byContradiction hz) m hm
  have hs16 := hsnd 16
  generalize itA fr at_ to_ co N T A 16 = Z at *
  funext r
  have a := rdA_le (fr := fr) (at_ := at_) (to_ := to_) (co := co) (N := N) (A := Z) r T
  rcases rdA_chg hT (A := Z) r T (Nat.le_refl _) with q | q
  · exact q
  · have b := hfin r _ (rdA_snd hT hs16 T (Nat.le_refl _) r q)
    omega
theorem it_stab {A : Int → Int} {j : Nat} (h : rdA fr at_ to_ co N (itA fr at_ to_ co N T A j) T = itA fr at_ to_ co N T A j) : ∀ d, itA fr at_ to_ co N T A (j + d) = itA fr at_ to_ co N T A j
  | 0 => rfl
  | d + 1 => by
    show rdA fr at_ to_ co N (itA fr at_ to_ co N T A (j + d)) T = _
    rw [it_stab h d]; exact h
end BRQ
