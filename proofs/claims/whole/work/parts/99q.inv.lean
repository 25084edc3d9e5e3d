/-! ===== what holds between two calls ===== -/
section INV
variable {G : Gx} {M M2 : Mem}
def Inv (M : Mem) : Prop := SAll (M 4) (M 5) (M 6) (sd M) ∧ TpR M ∧ RuAll M ∧ ImOK M
def WG (G : Gx) (M : Mem) : Prop := (∀ o, o ≤ 11 → o ∈ gL G) ∧ (∀ i, M 1 2 i ≠ 0 → 15 + i ∈ gL G) ∧ (∀ i, M 1 5 i ≠ 0 → 27 + 4 * i ∈ gL G) ∧ 14 ∉ gL G ∧ (∀ k, k ≤ 5 → 21 + k ∉ gL G) ∧ (∀ k, k ≤ 5 → M 1 2 k = 0 → 15 + k ∉ gL G) ∧ (M 1 10 0 = 0 → 12 ∉ gL G ∧ 13 ∉ gL G) ∧ (∀ k, k < 4 → M 1 5 k = 0 → ∀ o ∈ [27 + 4 * k, 28 + 4 * k, 29 + 4 * k, 30 + 4 * k], o ∉ gL G) ∧ (M 1 10 0 ≠ 0 → 12 ∈ gL G)
def InvG (G : Gx) (M : Mem) : Prop := Inv M ∧ WG G M
theorem fK_56 {o k : Nat} (h : fK (oc o) k = 5 ∨ fK (oc o) k = 6) : o = 1 ∧ (k = 2 ∨ k = 5) := by
  have h11 : ∀ c, c < 13 → ∀ k, k < 48 → (fK c k = 5 ∨ fK c k = 6) → c = 11 ∧ (k = 2 ∨ k = 5) := by decide +kernel
  have hb : oc o < 13 ∧ k < 48 := by
    by_cases hc : oc o < 13
    · refine ⟨hc, ?_⟩
      by_cases hk : k < 48
      · exact hk
      · exfalso
        have all : ∀ c, c < 13 → (fKL.getD c []).length ≤ 48 := by decide +kernel
        have := all _ hc
        have z : fK (oc o) k = 0 := by
          unfold fK
          rw [List.getD_eq_getElem?_getD (l := fKL.getD (oc o) []), List.getElem?_eq_none (by omega)]
          rfl
        rw [z] at h
        omega
    · exfalso
      have z : fK (oc o) k = 0 := by
        unfold fK
        rw [List.getD_eq_getElem?_getD (l := fKL), List.getElem?_eq_none (by show 13 ≤ oc o; omega)]
        show ([] : List Nat).getD k 0 = 0
        simp
      rw [z] at h
      omega
  obtain ⟨a, b⟩ := h11 _ hb.1 _ hb.2 h
  exact ⟨oc_11 a, b⟩
theorem WG.nor (h : WG G M) : NoR G M := by
  intro o ho k i hk hz
  obtain ⟨rfl, rfl | rfl⟩ := fK_56 hk
  · exact h.2.1 i hz
  · exact h.2.2.1 i hz
theorem NoR_eq (h2 : ∀ i, M2 1 2 i = M 1 2 i) (h5 : ∀ i, M2 1 5 i = M 1 5 i) (h : NoR G M) : NoR G M2 := by
  intro o ho k i hk hz
  obtain ⟨rfl, rfl | rfl⟩ := fK_56 hk
  · exact h 1 ho 2 i hk (by rw [← h2]; exact hz)
  · exact h 1 ho 5 i hk (by rw [← h5]; exact hz)
theorem WG.eq (h : WG G M) (h2 : ∀ i, M2 1 2 i = M 1 2 i) (h5 : ∀ i, M2 1 5 i = M 1 5 i) (h10 : M2 1 10 0 = M 1 10 0) : WG G M2 := by
  obtain ⟨a1, a2, a3, a4, a5, a6, a7, a8, a9⟩ := h
  exact ⟨a1, fun i z => a2 i (by rw [← h2]; exact z), fun i z => a3 i (by rw [← h5]; exact z), a4, a5, fun k hk z => a6 k hk (by rw [← h2]; exact z), fun z => a7 (by rw [← h10]; exact z), fun k hk z => a8 k hk (by rw [← h5]; exact z), fun z => a9 (by rw [← h10]; exact z)⟩
theorem TpR_k (a : ∀ i, M2 2 0 i = M 2 0 i) (b : M2 2 1 0 = M 2 1 0) (c : ∀ i, M2 0 0 i = M 0 0 i) (d : M2 0 1 0 = M 0 1 0) (T : TpR M) : TpR M2 := by
  obtain ⟨t1, t2, t3, t4⟩ := T
  refine ⟨by rw [b, d]; exact t1, by rw [d]; exact t2, by rw [d]; exact t3, fun i hi => by rw [a, c]; exact t4 i hi⟩
theorem TpR_0 (a : ∀ i, M2 2 0 i = M 2 0 i) (b : M2 2 1 0 = 0) (c : ∀ i, M2 0 0 i = M 0 0 i) (d : M2 0 1 0 = 0) (T : TpR M) : TpR M2 := by
  obtain ⟨t1, t2, t3, t4⟩ := T
  refine ⟨by rw [b, d], by rw [d]; decide, by rw [d]; decide, fun i hi => by rw [a, c]; exact t4 i hi⟩
theorem RuM_k {ρ : Nat → Nat → Int} {k : Nat} (e : M2 0 6 k = M 0 6 k) (f : ∀ i, 48 * k ≤ i → i < 48 * k + 48 → M2 0 5 i = M 0 5 i) (g : ∀ i, 400 * k ≤ i → i < 400 * k + 400 → M2 0 3 i = M 0 3 i) (K : RuOK ρ) (R : RuM ρ M k) : RuM ρ M2 k := by
  obtain ⟨r1, r2⟩ := R
  refine ⟨by rw [e]; exact r1, fun c hc => ?_⟩
  have hc12 : c < 12 := by have := K.2.1; omega
  obtain ⟨k1, k2, k3, k4, k5⟩ := K.2.2 c hc
  rw [f _ (by omega) (by omega), f _ (by omega) (by omega), f _ (by omega) (by omega), f _ (by omega) (by omega)]
  obtain ⟨q1, q2, q3, q4⟩ := r2 c hc
  refine ⟨q1, q2, q3, fun z => ?_⟩
  obtain ⟨p1, p2, p3⟩ := q4 z
  exact ⟨p1, p2, fun i h1 h2 => by rw [g _ (by omega) (by omega)]; exact p3 i h1 h2⟩
theorem RuAll_k (a : M2 1 3 0 = M 1 3 0) (b : M2 0 2 0 = M 0 2 0) (c : ∀ i, M2 1 2 i = M 1 2 i) (d : ∀ k, k < 6 → ∀ j i, M2 (15 + k) j i = M (15 + k) j i) (e : ∀ i, M2 0 6 i = M 0 6 i) (f : ∀ i, M2 0 5 i = M 0 5 i) (g : ∀ i, M2 0 3 i = M 0 3 i) (R : RuAll M) : RuAll M2 := by
  obtain ⟨r1, r2, r3, r4⟩ := R
  refine ⟨by rw [a, b]; exact r1, by rw [b]; exact r2, by rw [b]; exact r3, fun k hk => ?_⟩
  rw [b] at hk
  obtain ⟨q1, ρ, q2, q3, q4⟩ := r4 k hk
  refine ⟨by rw [c]; exact q1, ρ, fun j hj => ?_, RuM_k (e k) (fun i _ _ => f i) (fun i _ _ => g i) q4 q3, q4⟩
  rw [← q2 j hj]
  funext i
  exact d k (by omega) j i
theorem ImOK_k (a : ∀ i, M2 1 5 i = M 1 5 i) (b : ∀ i, M2 0 46 i = M 0 46 i) (c : ∀ i, M2 0 45 i = M 0 45 i) (d : ∀ o, 28 ≤ o → ∀ j i, M2 o j i = M o j i) (I : ImOK M) : ImOK M2 := by
  intro k hk
  obtain ⟨i1, i2⟩ := I k hk
  have e1 : ∀ o, 28 ≤ o → M2 o = M o := fun o ho => by funext j i; exact d o ho j i
  refine ⟨fun z => by rw [b]; exact i1 (by rw [← a]; exact z), fun z => ?_⟩
  obtain ⟨p1, p2⟩ := i2 (by rw [← a]; exact z)
  refine ⟨by rw [b]; exact p1, ?_⟩
  rw [e1 _ (by omega), e1 _ (by omega), e1 _ (by omega)]
  have : sI M2 k = sI M k := by funext i; exact c _
  rw [this]
  exact p2
/-- fields that matter, but those of the state itself -/
def ky (o k : Nat) : Bool := decide (15 ≤ o ∧ o ≤ 20) || decide (27 ≤ o) || decide ((o, k) ∈ [(2, 0), (2, 1), (0, 0), (0, 1), (1, 3), (0, 2), (1, 2), (0, 3), (0, 5), (0, 6), (1, 5), (0, 46), (0, 45), (1, 10)])
theorem ky_r {k j : Nat} (h : k < 6) : ky (15 + k) j = true := by
  unfold ky
  rw [decide_eq_true (p := 15 ≤ 15 + k ∧ 15 + k ≤ 20) (by omega)]
  rfl
theorem ky_i {o j : Nat} (h : 27 ≤ o) : ky o j = true := by
  unfold ky
  rw [decide_eq_true (p := 27 ≤ o) h]
  simp
theorem InvG_ky (E : ∀ o k i, ky o k = true → M2 o k i = M o k i) (S : SAll (M2 4) (M2 5) (M2 6) (sd M2)) (I : InvG G M) : InvG G M2 :=
  ⟨⟨S, TpR_k (fun i => E 2 0 i (by decide)) (E 2 1 0 (by decide)) (fun i => E 0 0 i (by decide)) (E 0 1 0 (by decide)) I.1.2.1,
    RuAll_k (E 1 3 0 (by decide)) (E 0 2 0 (by decide)) (fun i => E 1 2 i (by decide)) (fun k hk j i => E _ j i (ky_r hk)) (fun i => E 0 6 i (by decide)) (fun i => E 0 5 i (by decide)) (fun i => E 0 3 i (by decide)) I.1.2.2.1,
    ImOK_k (fun i => E 1 5 i (by decide)) (fun i => E 0 46 i (by decide)) (fun i => E 0 45 i (by decide)) (fun o ho j i => E o j i (ky_i (by omega))) I.1.2.2.2⟩,
   I.2.eq (fun i => E 1 2 i (by decide)) (fun i => E 1 5 i (by decide)) (E 1 10 0 (by decide))⟩
theorem EqX_ky {l : List (Nat × Nat)} (h : EqX l M M2) (hl : ∀ p ∈ l, ky p.1 p.2 = false) : ∀ o k i, ky o k = true → M2 o k i = M o k i := fun o k i z => h o k i (fun hm => by have := hl _ hm; rw [z] at this; cases this)
theorem InvG_X {l : List (Nat × Nat)} (h : EqX l M M2) (hl : ∀ p ∈ l, ky p.1 p.2 = false ∧ p.1 ≠ 4 ∧ p.1 ≠ 5 ∧ p.1 ≠ 6 ∧ p ≠ (0, 26)) (I : InvG G M) : InvG G M2 := by
  refine InvG_ky (EqX_ky h (fun p hp => (hl p hp).1)) ?_ I
  have e4 : M2 4 = M 4 := by funext k i; exact h 4 k i (fun hm => (hl _ hm).2.1 rfl)
  have e5 : M2 5 = M 5 := by funext k i; exact h 5 k i (fun hm => (hl _ hm).2.2.1 rfl)
  have e6 : M2 6 = M 6 := by funext k i; exact h 6 k i (fun hm => (hl _ hm).2.2.2.1 rfl)
  have es : sd M2 = sd M := by funext i; exact h 0 26 _ (fun hm => (hl _ hm).2.2.2.2 rfl)
  rw [e4, e5, e6, es]
  exact I.1.1
theorem ky_56 {k : Nat} : ky 6 k = false ∧ ky 5 k = false := by
  constructor <;> (unfold ky; simp)
theorem SAll_LX {f4 f5 f6 f6' : Nat → Nat → Int} {s s' : Int → Int} (S : SAll f4 f5 f6 s) (h : LX s s') (L : LR f6' s') (LO : LOK s') : SAll f4 f5 f6' s' := by
  obtain ⟨H, K, D, D2, -, -⟩ := S
  have k8 := K.2.2.2.2.2.1
  exact ⟨h.he.hr K H, h.he.ok K, h.de.dr2 h.he.2.2.1 k8 D, h.de.dok2 h.he.1 h.he.2.2.1 h.he.2.2.2.2.1 k8 D2, L, LO⟩
theorem SAll_DX {f4 f5 f5' f6 : Nat → Nat → Int} {s s' : Int → Int} (S : SAll f4 f5 f6 s) (h : DX s s') (D : DR f5' s') (D2 : DOK2 s') : SAll f4 f5' f6 s' := by
  obtain ⟨H, K, -, -, L, LO⟩ := S
  exact ⟨h.he.hr K H, h.he.ok K, D, D2, h.le.lr h.he K LO L, h.le.lok h.he.1 LO⟩
theorem InvG_LJ {l : List (Nat × Nat)} (h : LJx l M M2) (hl : ∀ p ∈ l, ky p.1 p.2 = false ∧ p.1 ≠ 4 ∧ p.1 ≠ 5) (I : InvG G M) : InvG G M2 := by
  obtain ⟨j1, j2, j3, j4⟩ := h
  refine InvG_ky (fun o k i z => j1 o k i (fun e => ?_) (fun e => ?_)) ?_ I
  · rw [e, ky_56.1] at z; cases z
  · rcases List.mem_cons.mp e with e | e
    · cases e; exact absurd z (by decide)
    · rw [(hl _ e).1] at z; cases z
  · have e4 : M2 4 = M 4 := by
      funext k i
      refine j1 4 k i (by decide) (fun e => ?_)
      rcases List.mem_cons.mp e with e | e
      · cases e
      · exact (hl _ e).2.1 rfl
    have e5 : M2 5 = M 5 := by
      funext k i
      refine j1 5 k i (by decide) (fun e => ?_)
      rcases List.mem_cons.mp e with e | e
      · cases e
      · exact (hl _ e).2.2 rfl
    rw [e4, e5]
    exact SAll_LX I.1.1 j2 j3 j4
theorem LJ_x (h : LJ M M2) : LJx [] M M2 := ⟨fun o k i a b => h.1 o k i a (fun e => b (by rw [e]; exact List.mem_cons_self)), h.2⟩
theorem InvG_bk (h : BkP M M2) (I : InvG G M) : InvG G M2 := by
  refine InvG_ky (fun o k i z => h.1 o k i (fun e => ?_) (fun e => ?_) (fun e => ?_) (fun e => ?_)) h.2 I
  · rw [e] at z; unfold ky at z; simp at z
  · rw [e, ky_56.2] at z; cases z
  · rw [e, ky_56.1] at z; cases z
  · cases e; exact absurd z (by decide)
theorem InvG_tk (h : TkP M M2) (I : InvG G M) : InvG G M2 := by
  obtain ⟨j1, j2, j3, j4, j5⟩ := h
  have e4 : M2 4 = M 4 := by funext k i; exact j1 4 k i (by decide) (by decide) (by simp)
  have e6 : M2 6 = M 6 := by funext k i; exact j1 6 k i (by decide) (by decide) (by simp)
  have E : ∀ o k i, o ≠ 5 → ¬ (15 ≤ o ∧ o < 21) → (o, k) ∉ dyF → M2 o k i = M o k i := j1
  refine ⟨⟨by rw [e4, e6]; exact SAll_DX I.1.1 j3 j4 j5, TpR_k (fun i => E 2 0 i (by decide) (by decide) (by decide)) (E 2 1 0 (by decide) (by decide) (by decide)) (fun i => E 0 0 i (by decide) (by decide) (by decide)) (E 0 1 0 (by decide) (by decide) (by decide)) I.1.2.1, j2, ImOK_k (fun i => E 1 5 i (by decide) (by decide) (by decide)) (fun i => E 0 46 i (by decide) (by decide) (by decide)) (fun i => E 0 45 i (by decide) (by decide) (by decide)) (fun o ho j i => E o j i (by omega) (by omega) (by simp; omega)) I.1.2.2.2⟩, I.2.eq (fun i => E 1 2 i (by decide) (by decide) (by decide)) (fun i => E 1 5 i (by decide) (by decide) (by decide)) (E 1 10 0 (by decide) (by decide) (by decide))⟩
theorem InvG_ah (h : AhP M M2) (I : InvG G M) : InvG G M2 := by
  obtain ⟨j1, j2⟩ := h
  have e4 : M2 4 = M 4 := by funext k i; exact j1 4 k i (by decide) (by decide) (by simp)
  have e5 : M2 5 = M 5 := by funext k i; exact j1 5 k i (by decide) (by decide) (by simp)
  have e6 : M2 6 = M 6 := by funext k i; exact j1 6 k i (by decide) (by decide) (by simp)
  have es : sd M2 = sd M := by funext i; exact j1 0 26 _ (by decide) (by decide) (by decide)
  have E := j1
  refine ⟨⟨by rw [e4, e5, e6, es]; exact I.1.1, TpR_k (fun i => E 2 0 i (by decide) (by decide) (by decide)) (E 2 1 0 (by decide) (by decide) (by decide)) (fun i => E 0 0 i (by decide) (by decide) (by decide)) (E 0 1 0 (by decide) (by decide) (by decide)) I.1.2.1, j2, ImOK_k (fun i => E 1 5 i (by decide) (by decide) (by decide)) (fun i => E 0 46 i (by decide) (by decide) (by decide)) (fun i => E 0 45 i (by decide) (by decide) (by decide)) (fun o ho j i => E o j i (by omega) (by omega) (by simp; omega)) I.1.2.2.2⟩, I.2.eq (fun i => E 1 2 i (by decide) (by decide) (by decide)) (fun i => E 1 5 i (by decide) (by decide) (by decide)) (E 1 10 0 (by decide) (by decide) (by decide))⟩
theorem InvG_go (h1 : ∀ o k i, o ≠ 5 → (o, k) ≠ (0, 26) → M2 o k i = M o k i) (h2 : DX (sd M) (sd M2)) (h3 : DR (M2 5) (sd M2)) (h4 : DOK2 (sd M2)) (I : InvG G M) : InvG G M2 := by
  have e4 : M2 4 = M 4 := by funext k i; exact h1 4 k i (by decide) (by simp)
  have e6 : M2 6 = M 6 := by funext k i; exact h1 6 k i (by decide) (by simp)
  refine InvG_ky (fun o k i z => h1 o k i (fun e => ?_) (fun e => ?_)) (by rw [e4, e6]; exact SAll_DX I.1.1 h2 h3 h4) I
  · rw [e, ky_56.2] at z; cases z
  · cases e; exact absurd z (by decide)
theorem InvG_tp {l : List (Nat × Nat)} (h : EqX l M M2) (hl : ∀ p ∈ l, p ∈ [(2, 0), (2, 1), (0, 0), (0, 1)]) (T : TpR M2) (I : InvG G M) : InvG G M2 := by
  have E : ∀ o k i, (o, k) ∉ [(2, 0), (2, 1), (0, 0), (0, 1)] → M2 o k i = M o k i := fun o k i z => h o k i (fun e => z (hl _ e))
  have e4 : M2 4 = M 4 := by funext k i; exact E 4 k i (by simp)
  have e5 : M2 5 = M 5 := by funext k i; exact E 5 k i (by simp)
  have e6 : M2 6 = M 6 := by funext k i; exact E 6 k i (by simp)
  have es : sd M2 = sd M := by funext i; exact E 0 26 _ (by decide)
  refine ⟨⟨by rw [e4, e5, e6, es]; exact I.1.1, T, RuAll_k (E 1 3 0 (by decide)) (E 0 2 0 (by decide)) (fun i => E 1 2 i (by decide)) (fun k hk j i => E _ j i (by simp; omega)) (fun i => E 0 6 i (by decide)) (fun i => E 0 5 i (by decide)) (fun i => E 0 3 i (by decide)) I.1.2.2.1, ImOK_k (fun i => E 1 5 i (by decide)) (fun i => E 0 46 i (by decide)) (fun i => E 0 45 i (by decide)) (fun o ho j i => E o j i (by simp; omega)) I.1.2.2.2⟩, I.2.eq (fun i => E 1 2 i (by decide)) (fun i => E 1 5 i (by decide)) (E 1 10 0 (by decide))⟩
theorem InvG_seed {x : Int} (hx : 0 ≤ x) (I : InvG G M) : InvG G (mset (mset M 6 0 0 x) 0 26 11 x) := by
  generalize hM2 : mset (mset M 6 0 0 x) 0 26 11 x = M2
  have E : ∀ o k i, (o, k) ≠ (6, 0) → (o, k) ≠ (0, 26) → M2 o k i = M o k i := fun o k i a b => by
    rw [← hM2, mset_ne (fun z => b (by rw [z.1, z.2.1])), mset_ne (fun z => a (by rw [z.1, z.2.1]))]
  have e4 : M2 4 = M 4 := by funext k i; exact E 4 k i (by simp) (by simp)
  have e5 : M2 5 = M 5 := by funext k i; exact E 5 k i (by simp) (by simp)
  have es : ∀ i : Int, 0 ≤ i → i ≠ 11 → sd M2 i = sd M i := fun i a b => by
    show M2 0 26 i.toNat = M 0 26 i.toNat
    rw [← hM2, mset_ne (fun z => by omega), mset_ne (by omega)]
  have es11 : sd M2 11 = x := by show M2 0 26 11 = x; rw [← hM2, mset_self]
  have e60 : M2 6 0 0 = x := by rw [← hM2, mset_ne (by omega), mset_self]
  have e6 : ∀ k, k ≠ 0 → M2 6 k = M 6 k := fun k hk => by funext i; exact E 6 k i (by simp; exact hk) (by simp)
  refine InvG_ky (fun o k i z => E o k i (fun e => ?_) (fun e => ?_)) ?_ I
  · cases e; exact absurd z (by decide)
  · cases e; exact absurd z (by decide)
  · rw [e4, e5]
    obtain ⟨H, K, D, D2, L, LO⟩ := I.1.1
    have hX : LX (sd M) (sd M2) := fun i a b c => es i a (by omega)
    refine SAll_LX I.1.1 hX ?_ ?_
    · obtain ⟨l0, l1, l2, l3, l4, l5, l6, l7, l8⟩ := L
      refine ⟨by rw [e60, es11], by rw [e6 1 (by decide), es 7 (by decide) (by decide)]; exact l1, by rw [e6 2 (by decide), es 8 (by decide) (by decide)]; exact l2, by rw [e6 3 (by decide), es 9 (by decide) (by decide)]; exact l3, by rw [e6 4 (by decide), es 10 (by decide) (by decide)]; exact l4, fun e a b => ?_, fun t a b => ?_, fun k a b => ?_, fun c a b => ?_⟩
      · rw [es 7 (by decide) (by decide)] at b
        rw [e6 5 (by decide), e6 6 (by decide), e6 7 (by decide), e6 8 (by decide), es _ (by omega) (by omega), es _ (by omega) (by omega), es _ (by omega) (by omega), es _ (by omega) (by omega)]
        exact l5 e a b
      · rw [es 8 (by decide) (by decide)] at b
        rw [e6 9 (by decide), e6 10 (by decide), e6 11 (by decide), e6 12 (by decide), es _ (by omega) (by omega), es _ (by omega) (by omega), es _ (by omega) (by omega)]
        obtain ⟨p1, p2, p3, p4⟩ := l6 t a b
        exact ⟨p1, p2, p3, TTh_cg hX.he K (es _ (by omega) (by omega)) (es _ (by omega) (by omega)) (es _ (by omega) (by omega)) p4⟩
      · rw [es 9 (by decide) (by decide)] at b
        rw [e6 13 (by decide), es _ (by omega) (by omega)]
        exact l7 k a b
      · rw [es 10 (by decide) (by decide)] at b
        rw [e6 14 (by decide), e6 15 (by decide), es _ (by omega) (by omega), es _ (by omega) (by omega)]
        exact l8 c a b
    · obtain ⟨l0, l1, l2, l3, l4, l5, l6, l7, l8⟩ := LO
      unfold LOK
      rw [es 7 (by decide) (by decide), es 8 (by decide) (by decide), es 9 (by decide) (by decide), es 10 (by decide) (by decide), es 0 (by decide) (by decide), es11]
      refine ⟨l0, l1, l2, l3, hx, fun e a b => ?_, fun t a b => ?_, fun k a b => ?_, fun c a b => ?_⟩
      · rw [es _ (by omega) (by omega), es _ (by omega) (by omega), es _ (by omega) (by omega), es _ (by omega) (by omega)]
        exact l5 e a b
      · rw [es _ (by omega) (by omega), es _ (by omega) (by omega), es _ (by omega) (by omega)]
        exact l6 t a b
      · rw [es _ (by omega) (by omega)]
        exact l7 k a b
      · rw [es _ (by omega) (by omega), es _ (by omega) (by omega)]
        exact l8 c a b
end INV
