/-! ===== errands of the most worth: the mathematics ===== -/
section BSP
variable {s : Int → Int} {st : Src}
theorem k_bitN {A k : Nat} (hA : A < 1048576) (hk : k < 30) : bAnd (bShr (A : Int) (k : Int)) 1 = if A.testBit k = true then 1 else 0 := by
  rw [bShr_nat (by omega) (by omega), show (1 : Int) = ((1 : Nat) : Int) from rfl, bAnd_nat (Nat.lt_of_le_of_lt (Nat.div_le_self _ _) (by omega)) (by decide), Nat.and_one_is_mod, Nat.testBit_eq_decide_div_mod_eq]
  by_cases e : A / 2 ^ k % 2 = 1
  · rw [e]; simp
  · have : A / 2 ^ k % 2 = 0 := by omega
    rw [this]; simp
theorem k_adN {A a : Nat} (hA : A < 1048576) (ha : a < 20) : bOr (A : Int) (bShl 1 (a : Int)) = ((ad A a : Nat) : Int) := by
  rw [bShl_nat (by omega), bOr_nat (by omega) (by have := Nat.pow_lt_pow_right (a := 2) (by decide) (show a < 20 from ha); omega)]; rfl
def mn (a b : Int) : Int := if b < a then b else a
/-- the soonest, or 99999 -/
noncomputable def sn (s : Int → Int) (S : Src) (r u : Int) : Int := @ite _ (∃ t : Nat, Rch s S r u (t : Int)) (Classical.propDecidable _) (Classical.epsilon (fun m : Int => Rch s S r u m ∧ ∀ m', Rch s S r u m' → m ≤ m')) 99999
theorem sn_spec (K : HOK s) {S : Src} (hS : SOK s S) (r u : Int) : (0 ≤ sn s S r u ∧ sn s S r u ≤ 1439 ∧ Rch s S r u (sn s S r u) ∧ ∀ m, Rch s S r u m → sn s S r u ≤ m) ∨ (sn s S r u = 99999 ∧ ∀ m, ¬ Rch s S r u m) := by
  by_cases h : ∃ t : Nat, Rch s S r u (t : Int)
  · have e : sn s S r u = Classical.epsilon (fun m : Int => Rch s S r u m ∧ ∀ m', Rch s S r u m' → m ≤ m') := if_pos h
    obtain ⟨t, t1, t2⟩ := pk_least _ h
    have sp := Classical.epsilon_spec (p := fun m : Int => Rch s S r u m ∧ ∀ m', Rch s S r u m' → m ≤ m') ⟨(t : Int), t1, fun m' hm' => by
      have h0 := (Rch_ok K hS hm').2.1
      apply Classical.byContradiction
      intro z
      exact t2 m'.toNat (by omega) (by rw [Int.toNat_of_nonneg h0]; exact hm')⟩
    rw [← e] at sp
    obtain ⟨-, a, b⟩ := Rch_ok K hS sp.1
    exact Or.inl ⟨a, b, sp.1, sp.2⟩
  · refine Or.inr ⟨if_neg h, fun m hm => ?_⟩
    have h0 := (Rch_ok K hS hm).2.1
    exact h ⟨m.toNat, by rw [Int.toNat_of_nonneg h0]; exact hm⟩
theorem sn_tab (K : HOK s) {S : Src} (hS : SOK s S) {D : Tb} (hT : Tab s S D) {r u : Int} (hv : VN s r u) : sn s S r u = if D r u ≤ 1439 then D r u else 99999 := by
  rcases sn_spec K hS r u with ⟨a, b, c, d⟩ | ⟨a, b⟩
  · have h1 := hT.2 r u hv _ c
    have h2 := d _ (hT.1 r u hv (by omega))
    rw [if_pos (by omega)]; omega
  · rw [if_neg (fun z => b _ (hT.1 r u hv z))]; exact a
def orS (S1 S2 : Src) : Src := fun r u m => S1 r u m ∨ S2 r u m
theorem Rn_or {S1 S2 : Src} : ∀ (k : Nat) (r u m : Int), Rn s (orS S1 S2) k r u m ↔ (Rn s S1 k r u m ∨ Rn s S2 k r u m)
  | 0, r, u, m => Iff.rfl
  | k + 1, r, u, m => by
    constructor
    · rintro (h | ⟨r0, u0, m0, a, b, c⟩)
      · rcases (Rn_or k r u m).mp h with h | h
        · exact Or.inl (Or.inl h)
        · exact Or.inr (Or.inl h)
      · rcases (Rn_or k r0 u0 m0).mp a with h | h
        · exact Or.inl (Or.inr ⟨r0, u0, m0, h, b, c⟩)
        · exact Or.inr (Or.inr ⟨r0, u0, m0, h, b, c⟩)
    · rintro ((h | ⟨r0, u0, m0, a, b, c⟩) | (h | ⟨r0, u0, m0, a, b, c⟩))
      · exact Or.inl ((Rn_or k r u m).mpr (Or.inl h))
      · exact Or.inr ⟨r0, u0, m0, (Rn_or k r0 u0 m0).mpr (Or.inl a), b, c⟩
      · exact Or.inl ((Rn_or k r u m).mpr (Or.inr h))
      · exact Or.inr ⟨r0, u0, m0, (Rn_or k r0 u0 m0).mpr (Or.inr a), b, c⟩
theorem Rch_or {S1 S2 : Src} {r u m : Int} : Rch s (orS S1 S2) r u m ↔ (Rch s S1 r u m ∨ Rch s S2 r u m) := by
  constructor
  · rintro ⟨k, hk⟩
    rcases (Rn_or k r u m).mp hk with h | h
    · exact Or.inl ⟨k, h⟩
    · exact Or.inr ⟨k, h⟩
  · rintro (⟨k, hk⟩ | ⟨k, hk⟩)
    · exact ⟨k, (Rn_or k r u m).mpr (Or.inl hk)⟩
    · exact ⟨k, (Rn_or k r u m).mpr (Or.inr hk)⟩
theorem SOK_or {S1 S2 : Src} (h1 : SOK s S1) (h2 : SOK s S2) : SOK s (orS S1 S2) := by
  rintro r u m (h | h)
  · exact h1 r u m h
  · exact h2 r u m h
theorem sn_or (K : HOK s) {S1 S2 : Src} (h1 : SOK s S1) (h2 : SOK s S2) (r u : Int) : sn s (orS S1 S2) r u = mn (sn s S1 r u) (sn s S2 r u) := by
  unfold mn
  rcases sn_spec K h1 r u with ⟨a1, a2, a3, a4⟩ | ⟨a1, a2⟩ <;> rcases sn_spec K h2 r u with ⟨b1, b2, b3, b4⟩ | ⟨b1, b2⟩ <;> rcases sn_spec K (SOK_or h1 h2) r u with ⟨c1, c2, c3, c4⟩ | ⟨c1, c2⟩
  · have p := c4 _ (Rch_or.mpr (Or.inl a3)); have q := c4 _ (Rch_or.mpr (Or.inr b3))
    rcases Rch_or.mp c3 with z | z
    · have := a4 _ z; split <;> omega
    · have := b4 _ z; split <;> omega
  · exact absurd (Rch_or.mpr (Or.inl a3)) (c2 _)
  · have p := c4 _ (Rch_or.mpr (Or.inl a3))
    rcases Rch_or.mp c3 with z | z
    · have := a4 _ z; split <;> omega
    · exact absurd z (b2 _)
  · exact absurd (Rch_or.mpr (Or.inl a3)) (c2 _)
  · have q := c4 _ (Rch_or.mpr (Or.inr b3))
    rcases Rch_or.mp c3 with z | z
    · exact absurd z (a2 _)
    · have := b4 _ z; split <;> omega
  · exact absurd (Rch_or.mpr (Or.inr b3)) (c2 _)
  · rcases Rch_or.mp c3 with z | z
    · exact absurd z (a2 _)
    · exact absurd z (b2 _)
  · rw [a1, b1, c1]; rfl
theorem sn_ext {S1 S2 : Src} (h : ∀ r u m, S1 r u m ↔ S2 r u m) : S1 = S2 := funext (fun r => funext (fun u => funext (fun m => propext (h r u m))))
theorem sn_none (K : HOK s) {S : Src} (h : ∀ r u m, ¬ S r u m) (r u : Int) : sn s S r u = 99999 := by
  have : ∀ (k : Nat) (r u m : Int), ¬ Rn s S k r u m := by
    intro k
    induction k with
    | zero => exact h
    | succ k ih =>
      rintro r u m (z | ⟨r0, u0, m0, a, -⟩)
      · exact ih _ _ _ z
      · exact ih _ _ _ a
  exact if_neg (fun ⟨t, k, hk⟩ => this k _ _ _ hk)
/-! the table -/
def rmE (s : Int → Int) (c : Nat) : Int := s (212 + 4 * ((c / 2 : Nat) : Int) + 0)
def vf (s : Int → Int) (e m : Int) : Int := if m ≤ s (212 + 4 * e + 2) then (if m ≤ s (212 + 4 * e + 1) then s (212 + 4 * e + 1) else m) else 99999
def srcC (s : Int → Int) (B : Nat → Int) (k : Nat) : Src := fun r u m => ∃ c : Nat, c < k ∧ B c ≤ 1439 ∧ r = rmE s c ∧ u = ((c % 2 : Nat) : Int) ∧ m = B c
def cdE (s : Int → Int) (S S2 c : Nat) : Prop := ((c / 2 : Nat) : Int) < s 7 ∧ S.testBit (c / 2) = false ∧ S2 = ad S (c / 2)
noncomputable def upS (s : Int → Int) (src : Src) (S : Nat) (B : Nat → Nat → Int) : Nat → Nat → Int := fun S2 c => @ite _ (cdE s S S2 c) (Classical.propDecidable _) (mn (B S2 c) (vf s ((c / 2 : Nat) : Int) (sn s src (rmE s c) ((c % 2 : Nat) : Int)))) (B S2 c)
noncomputable def srcB (s : Int → Int) (st : Src) (B : Nat → Int) (S k : Nat) : Src := if S = 0 then st else srcC s B k
noncomputable def bt (s : Int → Int) (st : Src) : Nat → Nat → Nat → Int
  | 0 => fun _ _ => 99999
  | S + 1 => upS s (srcB s st (bt s st S S) S 20) S (bt s st S)
theorem upS_on {src : Src} {S : Nat} {B : Nat → Nat → Int} {S2 c : Nat} (h : cdE s S S2 c) : upS s src S B S2 c = mn (B S2 c) (vf s ((c / 2 : Nat) : Int) (sn s src (rmE s c) ((c % 2 : Nat) : Int))) := if_pos h
theorem upS_off {src : Src} {S : Nat} {B : Nat → Nat → Int} {S2 c : Nat} (h : ¬ cdE s S S2 c) : upS s src S B S2 c = B S2 c := if_neg h
/-- a good table -/
def gB (s : Int → Int) (B : Nat → Nat → Int) : Prop := ∀ S2 c, (0 ≤ B S2 c ∧ B S2 c ≤ 1439 ∧ ((c / 2 : Nat) : Int) < s 7) ∨ B S2 c = 99999
theorem LOK.er (L : LOK s) {e : Int} (h1 : 0 ≤ e) (h2 : e < s 7) : (0 ≤ s (212 + 4 * e + 0) ∧ s (212 + 4 * e + 0) < s 0) ∧ 0 ≤ s (212 + 4 * e + 1) ∧ s (212 + 4 * e + 1) ≤ s (212 + 4 * e + 2) ∧ s (212 + 4 * e + 2) ≤ 1439 ∧ 0 ≤ s (212 + 4 * e + 3) ∧ s (212 + 4 * e + 3) ≤ 99 := L.2.2.2.2.2.1 e h1 h2
theorem vf_gd (L : LOK s) {e m : Int} (h1 : 0 ≤ e) (h2 : e < s 7) (hm : 0 ≤ m) : (0 ≤ vf s e m ∧ vf s e m ≤ 1439) ∨ vf s e m = 99999 := by
  have := L.er h1 h2
  unfold vf
  split
  · split <;> exact Or.inl ⟨by omega, by omega⟩
  · exact Or.inr rfl
theorem sn_nn (K : HOK s) {S : Src} (hS : SOK s S) (r u : Int) : 0 ≤ sn s S r u := by
  rcases sn_spec K hS r u with ⟨a, -⟩ | ⟨a, -⟩ <;> omega
theorem upS_gB (K : HOK s) (L : LOK s) {src : Src} (hS : SOK s src) {S : Nat} {B : Nat → Nat → Int} (hB : gB s B) : gB s (upS s src S B) := by
  intro S2 c
  by_cases h : cdE s S S2 c
  · rw [upS_on h]
    have h2 := vf_gd L (e := ((c / 2 : Nat) : Int)) (by omega) h.1 (sn_nn K hS (rmE s c) ((c % 2 : Nat) : Int))
    have h1 := hB S2 c
    have h3 := h.1
    unfold mn
    split
    · rcases h2 with q | q
      · exact Or.inl ⟨q.1, q.2, h3⟩
      · exact Or.inr q
    · exact h1
  · rw [upS_off h]; exact hB S2 c
theorem srcC_ok (K : HOK s) (L : LOK s) {B : Nat → Int} (hB : ∀ c, (0 ≤ B c ∧ B c ≤ 1439 ∧ ((c / 2 : Nat) : Int) < s 7) ∨ B c = 99999) (k : Nat) : SOK s (srcC s B k) := by
  rintro r u m ⟨c, c1, c2, rfl, rfl, rfl⟩
  rcases hB c with q | q
  · have := L.er (e := ((c / 2 : Nat) : Int)) (by omega) q.2.2
    exact ⟨⟨this.1.1, this.1.2, by omega⟩, q.1, q.2.1⟩
  · omega
theorem srcB_ok (K : HOK s) (L : LOK s) (hst : SOK s st) {B : Nat → Nat → Int} (hB : gB s B) (S k : Nat) : SOK s (srcB s st (B S) S k) := by
  unfold srcB
  split
  · exact hst
  · exact srcC_ok K L (fun c => hB S c) k
theorem bt_gB (K : HOK s) (L : LOK s) (hst : SOK s st) : ∀ S, gB s (bt s st S)
  | 0 => fun _ _ => Or.inr rfl
  | S + 1 => upS_gB K L (srcB_ok K L hst (bt_gB K L hst S) S 20) (bt_gB K L hst S)
theorem vf_mn {e a b : Int} (h : s (212 + 4 * e + 2) ≤ 1439) (h' : s (212 + 4 * e + 1) ≤ 1439) : vf s e (mn a b) = mn (vf s e a) (vf s e b) := by
  unfold vf mn
  by_cases h1 : b < a
  · rw [if_pos h1]
    by_cases h2 : b ≤ s (212 + 4 * e + 2)
    · rw [if_pos h2]
      by_cases h3 : a ≤ s (212 + 4 * e + 2)
      · rw [if_pos h3]; (repeat' split) <;> omega
      · rw [if_neg h3]; (repeat' split) <;> omega
    · rw [if_neg h2, if_neg (show ¬ a ≤ s (212 + 4 * e + 2) by omega)]; rfl
  · rw [if_neg h1]
    by_cases h2 : a ≤ s (212 + 4 * e + 2)
    · rw [if_pos h2]
      by_cases h3 : b ≤ s (212 + 4 * e + 2)
      · rw [if_pos h3]; (repeat' split) <;> omega
      · rw [if_neg h3]; (repeat' split) <;> omega
    · rw [if_neg h2, if_neg (show ¬ b ≤ s (212 + 4 * e + 2) by omega)]; rfl
theorem mn_assoc {a b c : Int} : mn a (mn b c) = mn (mn a b) c := by unfold mn; (repeat' split) <;> omega
theorem upS_or (K : HOK s) (L : LOK s) {S1 S2 : Src} (h1 : SOK s S1) (h2 : SOK s S2) {S : Nat} {B : Nat → Nat → Int} : upS s (orS S1 S2) S B = upS s S2 S (upS s S1 S B) := by
  funext T c
  by_cases h : cdE s S T c
  · rw [upS_on h, upS_on h, upS_on h, sn_or K h1 h2, vf_mn (by have := L.er (e := ((c / 2 : Nat) : Int)) (by omega) h.1; omega) (by have := L.er (e := ((c / 2 : Nat) : Int)) (by omega) h.1; omega), mn_assoc]
  · rw [upS_off h, upS_off h, upS_off h]
theorem upS_none (K : HOK s) (L : LOK s) {src : Src} (h : ∀ r u m, ¬ src r u m) {S : Nat} {B : Nat → Nat → Int} (hB : gB s B) : upS s src S B = B := by
  funext T c
  by_cases z : cdE s S T c
  · rw [upS_on z, sn_none K h]
    have := L.er (e := ((c / 2 : Nat) : Int)) (by omega) z.1
    have e : vf s ((c / 2 : Nat) : Int) 99999 = 99999 := by unfold vf; rw [if_neg (by omega)]
    rw [e]
    unfold mn
    rcases hB T c with q | q
    · rw [if_neg (by omega)]
    · rw [if_neg (by omega)]
  · rw [upS_off z]
theorem srcC_0 {B : Nat → Int} : ∀ r u m, ¬ srcC s B 0 r u m := by rintro r u m ⟨c, c1, -⟩; omega
def src1c (s : Int → Int) (B : Nat → Int) (k : Nat) : Src := src1 (rmE s k) ((k % 2 : Nat) : Int) (B k)
theorem srcC_on {B : Nat → Int} {k : Nat} (h : B k ≤ 1439) : srcC s B (k + 1) = orS (srcC s B k) (src1c s B k) := by
  refine sn_ext (fun r u m => ⟨?_, ?_⟩)
  · rintro ⟨c, c1, c2, c3, c4, c5⟩
    by_cases e : c = k
    · subst e; exact Or.inr ⟨c3, c4, c5⟩
    · exact Or.inl ⟨c, by omega, c2, c3, c4, c5⟩
  · rintro (⟨c, c1, c2⟩ | ⟨c3, c4, c5⟩)
    · exact ⟨c, by omega, c2⟩
    · exact ⟨k, by omega, h, c3, c4, c5⟩
theorem srcC_off {B : Nat → Int} {k : Nat} (h : ¬ B k ≤ 1439) : srcC s B (k + 1) = srcC s B k := by
  refine sn_ext (fun r u m => ⟨?_, ?_⟩)
  · rintro ⟨c, c1, c2, c3⟩
    by_cases e : c = k
    · subst e; exact absurd c2 h
    · exact ⟨c, by omega, c2, c3⟩
  · rintro ⟨c, c1, c2⟩
    exact ⟨c, by omega, c2⟩
/-! worth, and the soonest of a set -/
def wS (s : Int → Int) (S : Nat) : Nat → Int
  | 0 => 0
  | k + 1 => wS s S k + if S.testBit k = true then s (212 + 4 * (k : Int) + 3) else 0
theorem wS_rng (L : LOK s) {S : Nat} : ∀ k : Nat, (k : Int) ≤ s 7 → 0 ≤ wS s S k ∧ wS s S k ≤ 99 * (k : Int)
  | 0, _ => ⟨Int.le_refl _, Int.le_refl _⟩
  | k + 1, h => by
    have ih := wS_rng L (S := S) k (by omega)
    have := L.er (e := (k : Int)) (by omega) (by omega)
    unfold wS
    split <;> omega
theorem wS_0 : ∀ k : Nat, wS s 0 k = 0
  | 0 => rfl
  | k + 1 => by unfold wS; rw [wS_0 k, if_neg (by rw [Nat.zero_testBit]; decide)]; rfl
def sM (B : Nat → Int) : Nat → Int
  | 0 => 99999
  | k + 1 => if B k < sM B k then B k else sM B k
theorem sM_gd {B : Nat → Int} (hB : ∀ c, (0 ≤ B c ∧ B c ≤ 1439) ∨ B c = 99999) : ∀ k, (0 ≤ sM B k ∧ sM B k ≤ 1439) ∨ (sM B k = 99999 ∧ ∀ c, c < k → B c = 99999)
  | 0 => Or.inr ⟨rfl, fun c hc => by omega⟩
  | k + 1 => by
    have ih := sM_gd hB k
    have hk := hB k
    unfold sM
    split
    · rename_i z
      rcases hk with q | q
      · exact Or.inl q
      · rcases ih with p | p <;> omega
    · rename_i z
      rcases ih with p | ⟨p, p2⟩
      · exact Or.inl p
      · refine Or.inr ⟨p, fun c hc => ?_⟩
        by_cases e : c = k
        · subst e
          rcases hk with q | q
          · omega
          · exact q
        · exact p2 c (by omega)
noncomputable def bw (s : Int → Int) (st : Src) (m0 : Int) : Nat → Nat × Int
  | 0 => (0, m0)
  | S + 1 => if S ≠ 0 ∧ sM (bt s st S S) 20 ≤ 1439 ∧ (wS s (bw s st m0 S).1 (s 7).toNat < wS s S (s 7).toNat ∨ (wS s S (s 7).toNat = wS s (bw s st m0 S).1 (s 7).toNat ∧ sM (bt s st S S) 20 < (bw s st m0 S).2)) then (S, sM (bt s st S S) 20) else bw s st m0 S
end BSP
