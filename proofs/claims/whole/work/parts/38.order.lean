/-! ===== shops put in order: the mathematics ===== -/
section ORP
variable {s : Int → Int} {n : Nat} {T : Nat → Int}
theorem cb_or {f g h : Int → Bool} : ∀ k : Nat, (∀ i : Int, 0 ≤ i → i < (k : Int) → f i = (g i || h i) ∧ ¬ (g i = true ∧ h i = true)) → cb f k = cb g k + cb h k
  | 0, _ => rfl
  | k + 1, H => by
    have ih := cb_or k (fun i h1 h2 => H i h1 (by omega))
    have hk := H (k : Int) (by omega) (by omega)
    unfold cb
    rw [ih, hk.1]
    cases hg : g (k : Int) <;> cases hh : h (k : Int)
    · simp
    · simp; omega
    · simp; omega
    · exact absurd ⟨hg, hh⟩ hk.2
/-- below the mask A, among n -/
def bel (n A : Nat) (t : Int) : Bool := decide (t < (n : Int)) && !(A.testBit t.toNat)
def cf (s : Int → Int) (n A a : Nat) : Int := cb (fun c => decide (s (308 + 2 * c) = (a : Int)) && bel n A (s (308 + 2 * c + 1))) (s 10).toNat
def ad (A a : Nat) : Nat := A ||| 2 ^ a
def VL (s : Int → Int) (n : Nat) : Nat → List Nat → Int
  | _, [] => 0
  | A, a :: t => cf s n (ad A a) a + VL s n (ad A a) t
def vld (n : Nat) : Nat → List Nat → Prop
  | A, [] => A = 2 ^ n - 1
  | A, a :: t => a < n ∧ A.testBit a = false ∧ vld n (ad A a) t
def dn (n : Nat) : Nat → List Nat → Int → Int → Bool
  | _, [], _, _ => false
  | A, a :: l, f, t => if f = (a : Int) then bel n (ad A a) t else dn n (ad A a) l f t
theorem ad_bit {A a k : Nat} : (ad A a).testBit k = (A.testBit k || decide (a = k)) := by
  unfold ad; rw [Nat.testBit_or, Nat.testBit_two_pow]
theorem ad_keep {A a k : Nat} (h : A.testBit k = true) : (ad A a).testBit k = true := by rw [ad_bit, h]; rfl
theorem ad_self {A a : Nat} : (ad A a).testBit a = true := by rw [ad_bit]; simp
theorem dn_off : ∀ (l : List Nat) (A : Nat) (f t : Int), vld n A l → 0 ≤ f → A.testBit f.toNat = true → dn n A l f t = false
  | [], _, _, _, _, _, _ => rfl
  | a :: l, A, f, t, h, h0, hf => by
    unfold dn
    rw [if_neg (fun z => by have := h.2.1; rw [show a = f.toNat by omega, hf] at this; cases this)]
    exact dn_off l _ f t h.2.2 h0 (ad_keep hf)
theorem dn_toOff : ∀ (l : List Nat) (A : Nat) (f t : Int), ((n : Int) ≤ t ∨ A.testBit t.toNat = true) → dn n A l f t = false
  | [], _, _, _, _ => rfl
  | a :: l, A, f, t, h => by
    have h' : (n : Int) ≤ t ∨ (ad A a).testBit t.toNat = true := by
      rcases h with h | h
      · exact Or.inl h
      · exact Or.inr (ad_keep h)
    unfold dn
    split
    · unfold bel
      rcases h' with h | h
      · rw [decide_eq_false (by omega)]; rfl
      · rw [h]; simp
    · exact dn_toOff l _ f t h'
def cOK (s : Int → Int) : Prop := ∀ c : Int, 0 ≤ c → c < s 10 → (0 ≤ s (308 + 2 * c) ∧ s (308 + 2 * c) ≤ 5) ∧ (0 ≤ s (308 + 2 * c + 1) ∧ s (308 + 2 * c + 1) ≤ 5) ∧ s (308 + 2 * c) ≠ s (308 + 2 * c + 1)
def gd (s : Int → Int) (n A : Nat) (l : List Nat) : Int := cb (fun c => dn n A l (s (308 + 2 * c)) (s (308 + 2 * c + 1))) (s 10).toNat
theorem VL_gd (hc : cOK s) : ∀ (l : List Nat) (A : Nat), vld n A l → VL s n A l = gd s n A l
  | [], A, _ => (cb_zero _ (fun _ _ _ => rfl)).symm
  | a :: l, A, h => by
    unfold VL gd
    rw [VL_gd hc l _ h.2.2]
    refine (cb_or _ (fun c c1 c2 => ?_)).symm
    have hk := hc c c1 (by omega)
    show (if s (308 + 2 * c) = (a : Int) then bel n (ad A a) (s (308 + 2 * c + 1)) else dn n (ad A a) l (s (308 + 2 * c)) (s (308 + 2 * c + 1))) = _ ∧ _
    by_cases e : s (308 + 2 * c) = (a : Int)
    · have := dn_off l (ad A a) (s (308 + 2 * c)) (s (308 + 2 * c + 1)) h.2.2 hk.1.1 (by rw [e, Int.toNat_natCast]; exact ad_self)
      rw [if_pos e, this]; simp [e]
    · rw [if_neg e]; simp [e]
/-! the places, as the reference finds them -/
def ps : List Nat → Nat → Int → Int → Int
  | [], _, _, x => x
  | a :: l, i, f, x => ps l (i + 1) f (if (a : Int) = f then (i : Int) else x)
theorem ps_off : ∀ (l : List Nat) (A i : Nat) (f x : Int), vld n A l → 0 ≤ f → ((n : Int) ≤ f ∨ A.testBit f.toNat = true) → ps l i f x = x
  | [], _, _, _, _, _, _, _ => rfl
  | a :: l, A, i, f, x, h, h0, hf => by
    unfold ps
    have h1 := h.1
    rw [if_neg (fun z => by
      rcases hf with q | q
      · omega
      · have := h.2.1; rw [show a = f.toNat by omega, q] at this; cases this)]
    refine ps_off l _ (i + 1) f x h.2.2 h0 ?_
    rcases hf with q | q
    · exact Or.inl q
    · exact Or.inr (ad_keep q)
theorem full_bit {n k : Nat} (h : k < n) : (2 ^ n - 1).testBit k = true := by
  rw [Nat.testBit_two_pow_sub_one]; exact decide_eq_true h
theorem ps_on : ∀ (l : List Nat) (A i : Nat) (f x : Int), vld n A l → 0 ≤ f → f < (n : Int) → A.testBit f.toNat = false → (i : Int) ≤ ps l i f x
  | [], A, i, f, x, h, h0, hn, hf => by
    have : A = 2 ^ n - 1 := h
    rw [this, full_bit (by omega)] at hf; cases hf
  | a :: l, A, i, f, x, h, h0, hn, hf => by
    unfold ps
    by_cases e : (a : Int) = f
    · rw [if_pos e, ps_off l (ad A a) (i + 1) f _ h.2.2 h0 (Or.inr (by rw [show f.toNat = a by omega]; exact ad_self))]
      exact Int.le_refl _
    · rw [if_neg e]
      have := ps_on l (ad A a) (i + 1) f x h.2.2 h0 hn (by rw [ad_bit, hf]; simp; omega)
      omega
theorem ps_dn : ∀ (l : List Nat) (A i : Nat) (f t : Int), vld n A l → 0 ≤ f → 0 ≤ t → f ≠ t → ((0 ≤ ps l i f (-1) ∧ ps l i f (-1) < ps l i t (-1)) ↔ (dn n A l f t = true ∨ (A.testBit t.toNat = true ∧ False)))
  | [], A, i, f, t, h, h0, h1, hne => by unfold ps dn; simp
  | a :: l, A, i, f, t, h, h0, h1, hne => by
    unfold ps dn
    by_cases e : f = (a : Int)
    · rw [if_pos e, if_pos e.symm, if_neg (fun z => hne (by omega)), ps_off l (ad A a) (i + 1) f _ h.2.2 h0 (Or.inr (by rw [show f.toNat = a by omega]; exact ad_self))]
      by_cases q : t < (n : Int) ∧ (ad A a).testBit t.toNat = false
      · have := ps_on l (ad A a) (i + 1) t (-1) h.2.2 h1 q.1 q.2
        refine ⟨fun _ => Or.inl ?_, fun _ => ⟨by omega, by omega⟩⟩
        unfold bel; rw [decide_eq_true q.1, q.2]; rfl
      · have hq : (n : Int) ≤ t ∨ (ad A a).testBit t.toNat = true := by
          by_cases w : t < (n : Int)
          · right
            cases hb : (ad A a).testBit t.toNat
            · exact absurd ⟨w, hb⟩ q
            · rfl
          · left; omega
        rw [ps_off l (ad A a) (i + 1) t _ h.2.2 h1 hq]
        refine ⟨fun z => by omega, fun z => ?_⟩
        rcases z with z | z
        · unfold bel at z
          rcases hq with w | w
          · rw [decide_eq_false (by omega)] at z; cases z
          · rw [w] at z; simp at z
        · exact z.2.elim
    · rw [if_neg e, if_neg (fun z => e z.symm)]
      by_cases g : (a : Int) = t
      · rw [if_pos g, ps_off l (ad A a) (i + 1) t _ h.2.2 h1 (Or.inr (by rw [show t.toNat = a by omega]; exact ad_self))]
        refine ⟨fun z => ?_, fun z => ?_⟩
        · exfalso
          by_cases w : f < (n : Int) ∧ (ad A a).testBit f.toNat = false
          · have := ps_on l (ad A a) (i + 1) f (-1) h.2.2 h0 w.1 w.2
            omega
          · have hq : (n : Int) ≤ f ∨ (ad A a).testBit f.toNat = true := by
              by_cases w' : f < (n : Int)
              · right
                cases hb : (ad A a).testBit f.toNat
                · exact absurd ⟨w', hb⟩ w
                · rfl
              · left; omega
            rw [ps_off l (ad A a) (i + 1) f _ h.2.2 h0 hq] at z
            omega
        · rcases z with z | z
          · rw [dn_toOff l (ad A a) f t (Or.inr (by rw [show t.toNat = a by omega]; exact ad_self))] at z; cases z
          · exact z.2.elim
      · rw [if_neg g]
        have := ps_dn l (ad A a) (i + 1) f t h.2.2 h0 h1 hne
        simpa using this
/-! the class's table -/
def vS (s : Int → Int) (n : Nat) (T : Nat → Int) (A k : Nat) : Int := T (ad A k) + cf s n (ad A k) k
def mxs (s : Int → Int) (n : Nat) (T : Nat → Int) (A : Nat) : Nat → Int
  | 0 => 0
  | k + 1 => if A.testBit k = true then mxs s n T A k else (if mxs s n T A k < vS s n T A k then vS s n T A k else mxs s n T A k)
def isT (s : Int → Int) (n : Nat) (T : Nat → Int) : Prop := ∀ A, A < 2 ^ n → T A = mxs s n T A n
theorem mxs_nn {A : Nat} : ∀ k, 0 ≤ mxs s n T A k
  | 0 => Int.le_refl _
  | k + 1 => by
    have := mxs_nn (A := A) k
    unfold mxs
    split
    · exact this
    · split <;> omega
theorem mxs_ge {A j : Nat} (hj : A.testBit j = false) : ∀ k, j < k → vS s n T A j ≤ mxs s n T A k
  | 0, h => by omega
  | k + 1, h => by
    unfold mxs
    by_cases e : j = k
    · rw [← e, hj, if_neg (by decide)]
      split <;> omega
    · have := mxs_ge hj k (by omega)
      split
      · exact this
      · split <;> omega
theorem mxs_at {A : Nat} (hv : ∀ j, j < n → A.testBit j = false → 0 ≤ vS s n T A j) : ∀ k, k ≤ n → (∃ j, j < k ∧ A.testBit j = false) → ∃ j, j < k ∧ A.testBit j = false ∧ vS s n T A j = mxs s n T A k
  | 0, _, ⟨j, h, _⟩ => by omega
  | k + 1, hk, ⟨j, h, hj⟩ => by
    unfold mxs
    by_cases e : A.testBit k = true
    · rw [if_pos e]
      have : j < k := by
        by_cases w : j = k
        · rw [w, e] at hj; cases hj
        · omega
      obtain ⟨i, i1, i2, i3⟩ := mxs_at hv k (by omega) ⟨j, this, hj⟩
      exact ⟨i, by omega, i2, i3⟩
    · have e' : A.testBit k = false := by simpa using e
      rw [if_neg e]
      by_cases w : mxs s n T A k < vS s n T A k
      · rw [if_pos w]; exact ⟨k, by omega, e', rfl⟩
      · rw [if_neg w]
        by_cases w2 : ∃ j, j < k ∧ A.testBit j = false
        · obtain ⟨i, i1, i2, i3⟩ := mxs_at hv k (by omega) w2
          exact ⟨i, by omega, i2, i3⟩
        · have hz : ∀ m, m ≤ k → mxs s n T A m = 0 := by
            intro m
            induction m with
            | zero => intro _; rfl
            | succ m ih =>
              intro hm
              unfold mxs
              rw [if_pos (by cases hb : A.testBit m; exact absurd ⟨m, by omega, hb⟩ w2; rfl)]
              exact ih (by omega)
          have h0 := hv k (by omega) e'
          have h1 := hz k (Nat.le_refl _)
          exact ⟨k, by omega, e', by omega⟩
theorem cf_nn {A a : Nat} : 0 ≤ cf s n A a ∧ cf s n A a ≤ ((s 10).toNat : Int) := cb_rng _
theorem ad_lt {A a : Nat} (h : A < 2 ^ n) (ha : a < n) : ad A a < 2 ^ n := Nat.or_lt_two_pow h (Nat.pow_lt_pow_right (by decide) ha)
theorem T_nn (h : isT s n T) {A : Nat} (hA : A < 2 ^ n) : 0 ≤ T A := by rw [h A hA]; exact mxs_nn n
theorem V_le (h : isT s n T) : ∀ (l : List Nat) (A : Nat), A < 2 ^ n → vld n A l → VL s n A l ≤ T A
  | [], A, hA, _ => T_nn h hA
  | a :: l, A, hA, hv => by
    have := V_le h l (ad A a) (ad_lt hA hv.1) hv.2.2
    have h2 := mxs_ge (s := s) (n := n) (T := T) hv.2.1 n hv.1
    rw [h A hA]
    unfold VL
    unfold vS at h2
    omega
def isNs (s : Int → Int) (n : Nat) (T : Nat → Int) (A a : Nat) : Prop := a < n ∧ A.testBit a = false ∧ vS s n T A a = T A ∧ ∀ j, j < a → A.testBit j = false → vS s n T A j ≠ T A
def isG (s : Int → Int) (n : Nat) (T : Nat → Int) : Nat → List Nat → Prop
  | A, [] => A = 2 ^ n - 1
  | A, a :: t => isNs s n T A a ∧ isG s n T (ad A a) t
def lx : List Nat → List Nat → Prop
  | a :: t, b :: u => a < b ∨ (a = b ∧ lx t u)
  | _, _ => False
theorem isG_vld : ∀ (l : List Nat) (A : Nat), isG s n T A l → vld n A l
  | [], _, h => h
  | a :: l, A, h => ⟨h.1.1, h.1.2.1, isG_vld l _ h.2⟩
theorem mxs_full : ∀ k, k ≤ n → mxs s n T (2 ^ n - 1) k = 0
  | 0, _ => rfl
  | k + 1, h => by
    unfold mxs
    rw [if_pos (full_bit (by omega))]
    exact mxs_full k (by omega)
theorem isG_V (h : isT s n T) : ∀ (l : List Nat) (A : Nat), A < 2 ^ n → isG s n T A l → VL s n A l = T A
  | [], A, hA, hg => by
    have : A = 2 ^ n - 1 := hg
    rw [h A hA, this, mxs_full n (Nat.le_refl _)]; rfl
  | a :: l, A, hA, hg => by
    have := isG_V h l _ (ad_lt hA hg.1.1) hg.2
    have h2 := hg.1.2.2.1
    unfold vS at h2
    unfold VL
    omega
theorem isG_lx (h : isT s n T) : ∀ (l l' : List Nat) (A : Nat), A < 2 ^ n → isG s n T A l → vld n A l' → lx l' l → VL s n A l' < T A
  | [], [], A, hA, hg, hv, hl => hl.elim
  | [], _ :: _, A, hA, hg, hv, hl => hl.elim
  | _ :: _, [], A, hA, hg, hv, hl => hl.elim
  | b :: u, a :: t, A, hA, hg, hv, hl => by
    have h1 := V_le h t (ad A a) (ad_lt hA hv.1) hv.2.2
    have h2 := mxs_ge (s := s) (n := n) (T := T) hv.2.1 n hv.1
    rw [← h A hA] at h2
    rcases hl with q | ⟨q1, q2⟩
    · have h3 := hg.1.2.2.2 a q hv.2.1
      unfold vS at h2 h3
      unfold VL
      omega
    · subst q1
      have h4 := isG_lx h u t (ad A a) (ad_lt hA hv.1) hg.2 hv.2.2 q2
      have h5 := hg.1.2.2.1
      unfold vS at h2 h5
      unfold VL
      omega
/-! masks below 64 -/
def p6 (A : Nat) : Nat := A % 2 + A / 2 % 2 + A / 4 % 2 + A / 8 % 2 + A / 16 % 2 + A / 32 % 2
theorem p6_ad {A a : Nat} (hA : A < 64) (ha : a < 6) : p6 (ad A a) = if A.testBit a = true then p6 A else p6 A + 1 := by
  have : ∀ A, A < 64 → ∀ a, a < 6 → p6 (ad A a) = if A.testBit a = true then p6 A else p6 A + 1 := by decide +kernel
  exact this A hA a ha
theorem p6_full {n : Nat} (hn : n < 7) : p6 (2 ^ n - 1) = n := by
  have : ∀ n, n < 7 → p6 (2 ^ n - 1) = n := by decide +kernel
  exact this n hn
theorem p6_eq {n A : Nat} (hn : n < 7) (hA : A < 2 ^ n) (h : p6 A = n) : A = 2 ^ n - 1 := by
  have : ∀ n, n < 7 → ∀ A, A < 2 ^ n → p6 A = n → A = 2 ^ n - 1 := by decide +kernel
  exact this n hn A hA h
theorem p6_free {n A : Nat} (hn : n < 7) (hA : A < 2 ^ n) (h : p6 A < n) : ∃ k, k < n ∧ A.testBit k = false := by
  have : ∀ n, n < 7 → ∀ A, A < 2 ^ n → p6 A < n → ∃ k, k < n ∧ A.testBit k = false := by decide +kernel
  exact this n hn A hA h
theorem p2_64 {n : Nat} (hn : n < 7) : 2 ^ n ≤ 64 := Nat.pow_le_pow_right (n := 2) (by decide) (show n ≤ 6 by omega)
theorem ns_ex (h : isT s n T) (hn : n < 7) {A : Nat} (hA : A < 2 ^ n) (hp : p6 A < n) : ∃ a, isNs s n T A a := by
  have hv : ∀ j, j < n → A.testBit j = false → 0 ≤ vS s n T A j := fun j j1 j2 => by
    have := T_nn h (ad_lt hA j1)
    have := (cf_nn (s := s) (n := n) (A := ad A j) (a := j)).1
    unfold vS; omega
  obtain ⟨j, j1, j2, j3⟩ := mxs_at hv n (Nat.le_refl _) (p6_free hn hA hp)
  rw [← h A hA] at j3
  have key : ∀ m, m ≤ n → (∃ a, isNs s n T A a) ∨ ∀ i, i < m → A.testBit i = false → vS s n T A i ≠ T A := by
    intro m
    induction m with
    | zero => intro _; exact Or.inr (fun i hi => by omega)
    | succ m ih =>
      intro hm
      rcases ih (by omega) with q | q
      · exact Or.inl q
      · by_cases w : A.testBit m = false ∧ vS s n T A m = T A
        · exact Or.inl ⟨m, by omega, w.1, w.2, q⟩
        · refine Or.inr (fun i i1 i2 i3 => ?_)
          by_cases e : i = m
          · subst e; exact w ⟨i2, i3⟩
          · exact q i (by omega) i2 i3
  rcases key n (Nat.le_refl _) with q | q
  · exact q
  · exact absurd j3 (q j j1 j2)
theorem g_ex (h : isT s n T) (hn : n < 7) : ∀ (m A : Nat), A < 2 ^ n → p6 A + m = n → ∃ l, l.length = m ∧ isG s n T A l
  | 0, A, hA, hp => ⟨[], rfl, p6_eq hn hA (by omega)⟩
  | m + 1, A, hA, hp => by
    obtain ⟨a, ha⟩ := ns_ex h hn hA (by omega)
    have h64 := p2_64 hn
    have hp' := p6_ad (A := A) (a := a) (by omega) (by have := ha.1; omega)
    rw [ha.2.1, if_neg (by decide)] at hp'
    obtain ⟨l, l1, l2⟩ := g_ex h hn m (ad A a) (ad_lt hA ha.1) (by omega)
    exact ⟨a :: l, by rw [List.length_cons, l1], ha, l2⟩
/-! the numbers of the orders -/
def Dg (n : Nat) : Nat → Nat → List Nat
  | 0, _ => []
  | m + 1, x => (x / n ^ m % n) :: Dg n m x
def st (n x : Nat) : Nat → Nat
  | 0 => 0
  | m + 1 => ad (st n x m) (x / n ^ m % n)
theorem p6_or (hn : n < 7) (h1 : 1 ≤ n) {x : Nat} : ∀ (m A : Nat), A < 2 ^ n → (A ||| st n x m) < 2 ^ n ∧ p6 (A ||| st n x m) ≤ p6 A + m
  | 0, A, hA => by unfold st; rw [Nat.or_zero]; exact ⟨hA, by omega⟩
  | m + 1, A, hA => by
    have h64 := p2_64 hn
    have hd : x / n ^ m % n < n := Nat.mod_lt _ (by omega)
    obtain ⟨a1, a2⟩ := p6_or hn h1 (x := x) m A hA
    have e : (A ||| st n x (m + 1)) = ad (A ||| st n x m) (x / n ^ m % n) := by
      show (A ||| (st n x m ||| _)) = ((A ||| st n x m) ||| _)
      rw [Nat.or_assoc]
    rw [e]
    refine ⟨ad_lt a1 hd, ?_⟩
    rw [p6_ad (by omega) (by omega)]
    split <;> omega
theorem ad_comm {A a b : Nat} : (ad A a ||| b) = (A ||| ad b a) := by
  unfold ad
  rw [Nat.or_assoc, Nat.or_comm (2 ^ a) b]
theorem ad_noop {A a : Nat} (h : A.testBit a = true) : ad A a = A := by
  apply Nat.eq_of_testBit_eq
  intro i
  rw [ad_bit]
  by_cases e : a = i
  · rw [← e, h]; rfl
  · simp [e]
theorem vld_st (hn : n < 7) (h1 : 1 ≤ n) {x : Nat} : ∀ (m A : Nat), A < 2 ^ n → p6 A + m = n → (vld n A (Dg n m x) ↔ (A ||| st n x m) = 2 ^ n - 1)
  | 0, A, hA, hp => by
    show A = _ ↔ (A ||| 0) = _
    rw [Nat.or_zero]
  | m + 1, A, hA, hp => by
    have h64 := p2_64 hn
    have hd : x / n ^ m % n < n := Nat.mod_lt _ (by omega)
    have e : (A ||| st n x (m + 1)) = (ad A (x / n ^ m % n) ||| st n x m) := ad_comm.symm
    rw [e]
    refine ⟨fun h => ?_, fun h => ?_⟩
    · have hq := p6_ad (A := A) (a := x / n ^ m % n) (by omega) (by omega)
      rw [h.2.1, if_neg (by decide)] at hq
      exact (vld_st hn h1 m (ad A (x / n ^ m % n)) (ad_lt hA hd) (by omega)).1 h.2.2
    · have hb : A.testBit (x / n ^ m % n) = false := by
        cases hb : A.testBit (x / n ^ m % n)
        · rfl
        · exfalso
          rw [ad_noop hb] at h
          have := (p6_or hn h1 (x := x) m A hA).2
          rw [h, p6_full hn] at this
          omega
      have hq := p6_ad (A := A) (a := x / n ^ m % n) (by omega) (by omega)
      rw [hb, if_neg (by decide)] at hq
      exact ⟨hd, hb, (vld_st hn h1 m (ad A (x / n ^ m % n)) (ad_lt hA hd) (by omega)).2 h⟩
theorem Dg_add : ∀ (m x c : Nat), 1 ≤ n → Dg n m (x + n ^ m * c) = Dg n m x := by
  have key : ∀ (j m x c : Nat), 1 ≤ n → j ≤ m → Dg n j (x + n ^ m * c) = Dg n j x := by
    intro j
    induction j with
    | zero => intros; rfl
    | succ j ih =>
      intro m x c h1 hj
      unfold Dg
      rw [ih m x c h1 (by omega)]
      congr 1
      have e : n ^ m * c = n ^ j * (n * (n ^ (m - j - 1) * c)) := by
        rw [← Nat.mul_assoc, ← Nat.mul_assoc, ← Nat.pow_succ, ← Nat.pow_add]
        congr 2; omega
      rw [e, Nat.add_mul_div_left _ _ (Nat.pow_pos h1), Nat.add_mul_mod_self_left]
  exact fun m x c h => key m m x c h (Nat.le_refl _)
theorem Dg_ex (h1 : 1 ≤ n) : ∀ (l : List Nat), (∀ a ∈ l, a < n) → ∃ x, x < n ^ l.length ∧ Dg n l.length x = l
  | [], _ => ⟨0, by rw [List.length_nil, Nat.pow_zero]; decide, rfl⟩
  | a :: l, h => by
    obtain ⟨x, x1, x2⟩ := Dg_ex h1 l (fun b hb => h b (List.mem_cons_of_mem _ hb))
    have ha := h a (List.mem_cons_self ..)
    refine ⟨x + n ^ l.length * a, ?_, ?_⟩
    · rw [List.length_cons, Nat.pow_succ]
      have : n ^ l.length * (a + 1) ≤ n ^ l.length * n := Nat.mul_le_mul_left _ ha
      rw [Nat.mul_add, Nat.mul_one] at this
      omega
    · rw [List.length_cons]
      unfold Dg
      rw [Dg_add _ _ _ h1, x2, Nat.add_mul_div_left _ _ (Nat.pow_pos h1), Nat.div_eq_of_lt x1, Nat.zero_add, Nat.mod_eq_of_lt ha]
theorem Dg_lx (h1 : 1 ≤ n) {x y : Nat} : ∀ m, x % n ^ m < y % n ^ m → lx (Dg n m x) (Dg n m y)
  | 0, h => by rw [Nat.pow_zero, Nat.mod_one, Nat.mod_one] at h; omega
  | m + 1, h => by
    rw [Nat.pow_succ, Nat.mod_mul, Nat.mod_mul] at h
    show _ ∨ _
    rcases Nat.lt_trichotomy (x / n ^ m % n) (y / n ^ m % n) with q | q | q
    · exact Or.inl q
    · refine Or.inr ⟨q, Dg_lx h1 m ?_⟩
      rw [q] at h; omega
    · exfalso
      have a := Nat.mod_lt x (Nat.pow_pos (n := m) h1)
      have b := Nat.mod_lt y (Nat.pow_pos (n := m) h1)
      have : n ^ m * (y / n ^ m % n + 1) ≤ n ^ m * (x / n ^ m % n) := Nat.mul_le_mul_left _ q
      rw [Nat.mul_add, Nat.mul_one] at this
      generalize x % n ^ m = X at *
      generalize y % n ^ m = Y at *
      omega
theorem vld_mem : ∀ (l : List Nat) (A : Nat), vld n A l → ∀ a ∈ l, a < n
  | [], _, _, a, ha => by cases ha
  | b :: l, A, h, a, ha => by
    rcases List.mem_cons.mp ha with q | q
    · rw [q]; exact h.1
    · exact vld_mem l _ h.2.2 a q
/-- what the reference keeps, behind x numbers: the most, and the first order that has it -/
def isB (s : Int → Int) (n x : Nat) (v : Int) (b : Nat → Int) : Prop :=
  (∀ y, y < x → vld n 0 (Dg n n y) → VL s n 0 (Dg n n y) ≤ v) ∧
  ((v = -1 ∧ ∀ y, y < x → ¬ vld n 0 (Dg n n y)) ∨ ∃ z, z < x ∧ vld n 0 (Dg n n z) ∧ VL s n 0 (Dg n n z) = v ∧ (∀ y, y < z → vld n 0 (Dg n n y) → VL s n 0 (Dg n n y) < v) ∧ ∀ i, i < n → b i = ((Dg n n z).getD i 0 : Nat))
theorem isB_end (h : isT s n T) (hn : n < 7) (h1 : 1 ≤ n) {v : Int} {b : Nat → Int} {l : List Nat} (hl : l.length = n) (hg : isG s n T 0 l) (hB : isB s n (n ^ n) v b) : v = T 0 ∧ ∀ i, i < n → b i = ((l.getD i 0 : Nat) : Int) := by
  have hp : 0 < 2 ^ n := Nat.pow_pos (by decide)
  obtain ⟨x, x1, x2⟩ := Dg_ex h1 l (vld_mem l 0 (isG_vld l 0 hg))
  rw [hl] at x1 x2
  obtain ⟨b1, b2⟩ := hB
  have hv : vld n 0 (Dg n n x) := by rw [x2]; exact isG_vld l 0 hg
  have hV : VL s n 0 (Dg n n x) = T 0 := by rw [x2]; exact isG_V h l 0 hp hg
  have c1 := b1 x x1 hv
  rcases b2 with ⟨b3, b4⟩ | ⟨z, z1, z2, z3, z4, z5⟩
  · exact absurd hv (b4 x x1)
  · have c2 := V_le h _ 0 hp z2
    have hvT : v = T 0 := by omega
    refine ⟨hvT, fun i hi => ?_⟩
    have hxz : z = x := by
      rcases Nat.lt_trichotomy z x with q | q | q
      · exfalso
        have := isG_lx h l (Dg n n z) 0 hp hg z2 (by rw [← x2]; exact Dg_lx h1 n (by rw [Nat.mod_eq_of_lt z1, Nat.mod_eq_of_lt x1]; exact q))
        omega
      · exact q
      · exfalso
        have := z4 x q hv
        omega
    rw [z5 i hi, hxz, x2]
end ORP
