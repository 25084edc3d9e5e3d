/-! ===== how soon a room can be come to: the mathematics ===== -/
section RP
variable {s : Int → Int}
def VN (s : Int → Int) (r u : Int) : Prop := 0 ≤ r ∧ r < s 0 ∧ (u = 0 ∨ u = 1)
/-- from room r (u: 0 can ride still, 1 can't), being there at minute m, one comes to r', u' at m' -/
def Ed (s : Int → Int) (r u m r' u' m' : Int) : Prop :=
  (u' = u ∧ 0 ≤ r' ∧ ∃ w, 0 ≤ w ∧ w < s 1 ∧ endW s w r = r' ∧ opW s w m ≤ 1439 ∧ m' = opW s w m + s (28 + 6 * w + 2)) ∨ (u = 0 ∧ u' = 1 ∧ 0 < s 4 ∧ isTop s r' ∧ hoM s m ≤ 1439 ∧ m' = hoM s m + s 4)
theorem HOK.way (K : HOK s) {w : Int} (h1 : 0 ≤ w) (h2 : w < s 1) : (0 ≤ s (28 + 6 * w + 0) ∧ s (28 + 6 * w + 0) < s 0) ∧ (0 ≤ s (28 + 6 * w + 1) ∧ s (28 + 6 * w + 1) < s 0) ∧ (1 ≤ s (28 + 6 * w + 2) ∧ s (28 + 6 * w + 2) ≤ 60) ∧
    ((s (28 + 6 * w + 3) = 0 ∧ s (12 + s (28 + 6 * w + 1)) < s (12 + s (28 + 6 * w + 0))) ∨ (s (28 + 6 * w + 3) = 1 ∧ s (28 + 6 * w + 0) ≠ s (28 + 6 * w + 1) ∧ s (12 + s (28 + 6 * w + 1)) = s (12 + s (28 + 6 * w + 0)))) ∧
    ((s (28 + 6 * w + 4) = -1 ∧ s (28 + 6 * w + 5) = -1) ∨ (0 ≤ s (28 + 6 * w + 4) ∧ s (28 + 6 * w + 4) ≤ s (28 + 6 * w + 5) ∧ s (28 + 6 * w + 5) ≤ 1439)) := K.2.2.2.2.2.2.2.2.2.1 w h1 h2
theorem HOK.hoist (K : HOK s) : (s 4 = 0 ∧ s 5 = 0 ∧ s 6 = 0) ∨ (1 ≤ s 4 ∧ s 4 ≤ 60 ∧ 1 ≤ s 5 ∧ s 5 ≤ 9 ∧ 1 ≤ s 6 ∧ s 6 ≤ 120) := K.2.2.2.2.2.2.2.1
theorem endW_in (K : HOK s) {w r : Int} (h1 : 0 ≤ w) (h2 : w < s 1) : endW s w r = -1 ∨ (0 ≤ endW s w r ∧ endW s w r < s 0) := by
  obtain ⟨a, b, -⟩ := K.way h1 h2
  unfold endW
  split
  · exact Or.inr b
  · split
    · exact Or.inr a
    · exact Or.inl rfl
theorem opW_ge (K : HOK s) {w m : Int} (h1 : 0 ≤ w) (h2 : w < s 1) (h3 : 0 ≤ m) (h4 : m ≤ 1439) (h5 : opW s w m ≤ 1439) : m ≤ opW s w m := by
  obtain ⟨-, -, -, -, d⟩ := K.way h1 h2
  rcases opC_W d h3 h4 with ⟨-, a⟩ | ⟨-, a, -⟩
  · omega
  · exact a
theorem opW_mono {w m m0 : Int} (h : m0 ≤ m) (h5 : opW s w m ≤ 1439) : opW s w m0 ≤ opW s w m := by
  unfold opW at *
  by_cases a : s (28 + 6 * w + 4) < 0
  · rw [if_pos a, if_pos a]; exact h
  · rw [if_neg a] at h5 ⊢
    rw [if_neg a]
    have c : (if m0 ≤ s (28 + 6 * w + 4) then s (28 + 6 * w + 4) else m0) ≤ (if m ≤ s (28 + 6 * w + 4) then s (28 + 6 * w + 4) else m) := by
      by_cases x : m0 ≤ s (28 + 6 * w + 4)
      · rw [if_pos x]
        by_cases y : m ≤ s (28 + 6 * w + 4)
        · rw [if_pos y]; exact Int.le_refl _
        · rw [if_neg y]; omega
      · rw [if_neg x, if_neg (show ¬ m ≤ s (28 + 6 * w + 4) by omega)]; exact h
    by_cases b : (if m ≤ s (28 + 6 * w + 4) then s (28 + 6 * w + 4) else m) ≤ s (28 + 6 * w + 5)
    · rw [if_pos b, if_pos (Int.le_trans c b)]; exact c
    · rw [if_neg b] at h5; omega
theorem hoM_mono {m m0 : Int} (h : m0 ≤ m) (h0 : 0 ≤ m0) (h6 : 1 ≤ s 6) : hoM s m0 ≤ hoM s m := by
  unfold hoM
  rw [Int.tdiv_eq_ediv_of_nonneg (by omega), Int.tdiv_eq_ediv_of_nonneg (by omega)]
  have := Int.ediv_le_ediv (c := s 6) (by omega) (show m0 + s 6 - 1 ≤ m + s 6 - 1 by omega)
  exact Int.mul_le_mul_of_nonneg_right this (by omega)
theorem Ed_lt (K : HOK s) {r u m r' u' m' : Int} (h0 : 0 ≤ m) (h1 : m ≤ 1439) (h : Ed s r u m r' u' m') : m < m' := by
  rcases h with ⟨-, -, w, w1, w2, -, w4, rfl⟩ | ⟨-, -, a, -, b, rfl⟩
  · have := opW_ge K w1 w2 h0 h1 w4
    have := (K.way w1 w2).2.2.1
    omega
  · have := hoM_le (s := s) h0 (by have := K.hoist; omega)
    omega
theorem Ed_vn (K : HOK s) {r u m r' u' m' : Int} (hv : VN s r u) (h : Ed s r u m r' u' m') : VN s r' u' := by
  rcases h with ⟨rfl, a, w, w1, w2, w3, -⟩ | ⟨-, rfl, -, b, -⟩
  · rcases endW_in K (r := r) w1 w2 with c | c
    · omega
    · rw [w3] at c; exact ⟨c.1, c.2, hv.2.2⟩
  · exact ⟨b.1, b.2.1, Or.inr rfl⟩
theorem Ed_mono (K : HOK s) {r u m m0 r' u' m' : Int} (h0 : 0 ≤ m0) (hm : m0 ≤ m) (h : Ed s r u m r' u' m') : ∃ m'', m'' ≤ m' ∧ Ed s r u m0 r' u' m'' := by
  rcases h with ⟨a, b, w, w1, w2, w3, w4, rfl⟩ | ⟨a, a', b, c, d, rfl⟩
  · have := opW_mono hm w4
    exact ⟨opW s w m0 + s (28 + 6 * w + 2), by omega, Or.inl ⟨a, b, w, w1, w2, w3, by omega, rfl⟩⟩
  · have := hoM_mono (s := s) hm h0 (by have := K.hoist; omega)
    exact ⟨hoM s m0 + s 4, by omega, Or.inr ⟨a, a', b, c, by omega, rfl⟩⟩
abbrev Src : Type := Int → Int → Int → Prop
def Rn (s : Int → Int) (S : Src) : Nat → Int → Int → Int → Prop
  | 0 => S
  | k + 1 => fun r u m => Rn s S k r u m ∨ ∃ r0 u0 m0, Rn s S k r0 u0 m0 ∧ Ed s r0 u0 m0 r u m ∧ m ≤ 1439
def Rch (s : Int → Int) (S : Src) (r u m : Int) : Prop := ∃ k, Rn s S k r u m
def SOK (s : Int → Int) (S : Src) : Prop := ∀ r u m, S r u m → VN s r u ∧ 0 ≤ m ∧ m ≤ 1439
variable {S : Src}
theorem Rn_ok (K : HOK s) (hS : SOK s S) : ∀ (k : Nat) (r u m : Int), Rn s S k r u m → VN s r u ∧ 0 ≤ m ∧ m ≤ 1439
  | 0, r, u, m, h => hS r u m h
  | k + 1, r, u, m, h => by
    rcases h with h | ⟨r0, u0, m0, h1, h2, h3⟩
    · exact Rn_ok K hS k r u m h
    · obtain ⟨a, b, c⟩ := Rn_ok K hS k r0 u0 m0 h1
      have := Ed_lt K b c h2
      exact ⟨Ed_vn K a h2, by omega, h3⟩
theorem Rch_ok (K : HOK s) (hS : SOK s S) {r u m : Int} (h : Rch s S r u m) : VN s r u ∧ 0 ≤ m ∧ m ≤ 1439 := by
  obtain ⟨k, h⟩ := h; exact Rn_ok K hS k r u m h
theorem Rch_src {r u m : Int} (h : S r u m) : Rch s S r u m := ⟨0, h⟩
theorem Rch_step {r u m r' u' m' : Int} (h : Rch s S r u m) (he : Ed s r u m r' u' m') (h3 : m' ≤ 1439) : Rch s S r' u' m' := by
  obtain ⟨k, h⟩ := h; exact ⟨k + 1, Or.inr ⟨r, u, m, h, he, h3⟩⟩
theorem Rch_pred {r u m : Int} (h : Rch s S r u m) : S r u m ∨ ∃ r0 u0 m0, Rch s S r0 u0 m0 ∧ Ed s r0 u0 m0 r u m ∧ m ≤ 1439 := by
  obtain ⟨k, h⟩ := h
  induction k with
  | zero => exact Or.inl h
  | succ k ih =>
    rcases h with h | ⟨r0, u0, m0, h1, h2, h3⟩
    · exact ih h
    · exact Or.inr ⟨r0, u0, m0, ⟨k, h1⟩, h2, h3⟩
abbrev Tb : Type := Int → Int → Int
def Fin1 (s : Int → Int) (S : Src) (D : Tb) (r u : Int) : Prop := ∀ m, Rch s S r u m → D r u ≤ m
def Snd (s : Int → Int) (S : Src) (D : Tb) : Prop := ∀ r u, VN s r u → D r u ≤ 1439 → Rch s S r u (D r u)
/-- every edge out of D has been gone, with its end in D' -/
def Rel (s : Int → Int) (D D' : Tb) : Prop := ∀ r u, VN s r u → D r u ≤ 1439 → ∀ r' u' m', Ed s r u (D r u) r' u' m' → m' ≤ 1439 → D' r' u' ≤ m'
def Tab (s : Int → Int) (S : Src) (D : Tb) : Prop := Snd s S D ∧ ∀ r u, VN s r u → Fin1 s S D r u
theorem Tab_one {D D' : Tb} (h : Tab s S D) (h' : Tab s S D') {r u : Int} (hv : VN s r u) : D r u = D' r u ∨ (1439 < D r u ∧ 1439 < D' r u) := by
  by_cases a : D r u ≤ 1439
  · have b := h'.2 r u hv _ (h.1 r u hv a)
    have c := h.2 r u hv _ (h'.1 r u hv (by omega))
    exact Or.inl (by omega)
  · by_cases b : D' r u ≤ 1439
    · have c := h.2 r u hv _ (h'.1 r u hv b)
      omega
    · exact Or.inr ⟨by omega, by omega⟩
theorem closed_fin (K : HOK s) (hS : SOK s S) {D : Tb} (hs : ∀ r u m, S r u m → D r u ≤ m) (h0 : ∀ r u, VN s r u → 0 ≤ D r u) (hc : Rel s D D) : ∀ (k : Nat) (r u m : Int), Rn s S k r u m → D r u ≤ m
  | 0, r, u, m, h => hs r u m h
  | k + 1, r, u, m, h => by
    rcases h with h | ⟨r0, u0, m0, h1, h2, h3⟩
    · exact closed_fin K hS hs h0 hc k r u m h
    · have a := closed_fin K hS hs h0 hc k r0 u0 m0 h1
      obtain ⟨hv, b, c⟩ := Rn_ok K hS k r0 u0 m0 h1
      obtain ⟨m2, g1, g2⟩ := Ed_mono K (h0 r0 u0 hv) a h2
      have := hc r0 u0 hv (by omega) r u m2 g2 (by omega)
      omega
/-! how many nodes aren't final yet -/
noncomputable def nfc (P : Nat → Prop) : Nat → Nat
  | 0 => 0
  | k + 1 => nfc P k + @ite Nat (P k) (Classical.propDecidable _) 1 0
theorem nfc_le {P P' : Nat → Prop} (h : ∀ k, P' k → P k) : ∀ n, nfc P' n ≤ nfc P n
  | 0 => Nat.le_refl _
  | k + 1 => by
    have := nfc_le h k
    unfold nfc
    by_cases a : P' k
    · rw [if_pos a, if_pos (h k a)]; omega
    · rw [if_neg a]; omega
theorem nfc_lt {P P' : Nat → Prop} (h : ∀ k, P' k → P k) {j : Nat} (h1 : P j) (h2 : ¬ P' j) : ∀ n, j < n → nfc P' n < nfc P n
  | 0, hj => absurd hj (Nat.not_lt_zero _)
  | k + 1, hj => by
    unfold nfc
    by_cases e : j = k
    · subst e
      have := nfc_le h j
      rw [if_neg h2, if_pos h1]; omega
    · have := nfc_lt h h1 h2 k (by omega)
      by_cases a : P' k
      · rw [if_pos a, if_pos (h k a)]; omega
      · rw [if_neg a]; omega
theorem nfc_n {P : Nat → Prop} : ∀ n, nfc P n ≤ n
  | 0 => Nat.le_refl _
  | k + 1 => by
    have := nfc_n (P := P) k
    unfold nfc
    by_cases a : P k
    · rw [if_pos a]; omega
    · rw [if_neg a]; omega
def NF (s : Int → Int) (S : Src) (D : Tb) : Nat → Prop := fun k => VN s ((k / 2 : Nat) : Int) ((k % 2 : Nat) : Int) ∧ ¬ Fin1 s S D ((k / 2 : Nat) : Int) ((k % 2 : Nat) : Int)
theorem NF_of {D : Tb} {r u : Int} (hv : VN s r u) : ((((2 * r + u).toNat / 2 : Nat) : Int) = r) ∧ ((((2 * r + u).toNat % 2 : Nat) : Int) = u) := by
  obtain ⟨a, b, c⟩ := hv
  constructor <;> omega
theorem grow (K : HOK s) (hS : SOK s S) {D D' : Tb} (hs : ∀ r u m, S r u m → D r u ≤ m) (hsn : Snd s S D) (hle : ∀ r u, VN s r u → D' r u ≤ D r u) (hr : Rel s D D') (hn : ∃ r u, VN s r u ∧ ¬ Fin1 s S D r u) : nfc (NF s S D') 32 < nfc (NF s S D) 32 := by
  have hB : ∃ t : Nat, ∃ r u, VN s r u ∧ Rch s S r u (t : Int) ∧ (t : Int) < D r u := by
    obtain ⟨r, u, hv, hf⟩ := hn
    unfold Fin1 at hf
    have : ∃ m, Rch s S r u m ∧ m < D r u := by
      apply Classical.byContradiction
      intro z
      exact hf (fun m hm => by
        apply Classical.byContradiction
        intro z2
        exact z ⟨m, hm, by omega⟩)
    obtain ⟨m, h1, h2⟩ := this
    have := (Rch_ok K hS h1).2.1
    exact ⟨m.toNat, r, u, hv, by rw [Int.toNat_of_nonneg this]; exact h1, by omega⟩
  obtain ⟨t, ⟨r, u, hv, h1, h2⟩, hmin⟩ := pk_least _ hB
  have hD' : D' r u ≤ (t : Int) := by
    rcases Rch_pred h1 with h | ⟨r0, u0, m0, g1, g2, g3⟩
    · have := hs r u _ h; omega
    · obtain ⟨v0, a0, b0⟩ := Rch_ok K hS g1
      have hlt := Ed_lt K a0 b0 g2
      have hd : D r0 u0 ≤ m0 := by
        apply Classical.byContradiction
        intro z
        exact hmin m0.toNat (by omega) ⟨r0, u0, v0, by rw [Int.toNat_of_nonneg a0]; exact g1, by omega⟩
      have hd0 := (Rch_ok K hS (hsn r0 u0 v0 (by omega))).2.1
      obtain ⟨m2, e1, e2⟩ := Ed_mono K hd0 hd g2
      have := hr r0 u0 v0 (by omega) r u m2 e2 (by omega)
      omega
  have hfin : Fin1 s S D' r u := by
    intro m hm
    have h0 := (Rch_ok K hS hm).2.1
    by_cases c : m < (t : Int)
    · exact absurd ⟨r, u, hv, by rw [Int.toNat_of_nonneg h0]; exact hm, by omega⟩ (hmin m.toNat (by omega))
    · omega
  obtain ⟨e1, e2⟩ := NF_of (s := s) (D := D) hv
  have q1 : ∀ k, NF s S D' k → NF s S D k := fun k hk => ⟨hk.1, fun z => hk.2 (fun m hm => by have := hle _ _ hk.1; have := z m hm; omega)⟩
  have q2 : NF s S D (2 * r + u).toNat := by unfold NF; rw [e1, e2]; exact ⟨hv, fun z => by have := z _ h1; omega⟩
  have q3 : ¬ NF s S D' (2 * r + u).toNat := by unfold NF; rw [e1, e2]; exact fun z => z.2 hfin
  exact nfc_lt q1 q2 q3 32 (by have := K.2.1; obtain ⟨a, b, c⟩ := hv; omega)
end RP
