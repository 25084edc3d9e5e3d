/-! ===== the reference's spreads gives the same table ===== -/
section MR
variable {G : Gx} {n : Nat} {M : Mem} {s : Int → Int} {S : Src}
theorem l12_nearest {K : Kx} {Q : Int → Mem → Prop} (hN : (∀ j : Nat, j < 32 → M 0 29 j = 0 → 1439 < M 0 28 j) → Q (-1) M) (hY : ∀ k : Nat, k < 32 → M 0 29 k = 0 → M 0 28 k ≤ 1439 → (∀ j : Nat, j < 32 → M 0 29 j = 0 → M 0 28 k ≤ M 0 28 j) → Q (k : Int) M) :
    ∀ (f i : Nat) (b : Int), i ≤ 32 → 32 - i ≤ f → ((b = -1 ∧ ∀ j : Nat, j < i → M 0 29 j = 0 → 1439 < M 0 28 j) ∨ (∃ k : Nat, b = (k : Int) ∧ k < i ∧ M 0 29 k = 0 ∧ M 0 28 k ≤ 1439 ∧ ∀ j : Nat, j < i → M 0 29 j = 0 → M 0 28 k ≤ M 0 28 j)) → CW G K mX12_nearest n 4 [some (vO 0), some (vI b), some (vI (i : Int))] [] M (qI Q) := by
  have done : ∀ (i : Nat) (b : Int), i = 32 → ((b = -1 ∧ ∀ j : Nat, j < i → M 0 29 j = 0 → 1439 < M 0 28 j) ∨ (∃ k : Nat, b = (k : Int) ∧ k < i ∧ M 0 29 k = 0 ∧ M 0 28 k ≤ 1439 ∧ ∀ j : Nat, j < i → M 0 29 j = 0 → M 0 28 k ≤ M 0 28 j)) → Q b M := by
    intro i b e h
    subst e
    rcases h with ⟨rfl, h⟩ | ⟨k, rfl, h1, h2, h3, h4⟩
    · exact hN h
    · exact hY k h1 h2 h3 h4
  intro f
  induction f with
  | zero =>
    intro i b h1 h2 h3
    have q0 : i = 32 := by clear h3; omega
    refine bX12_nearest_4 ⟨fun _ => done i b q0 h3, fun a => absurd (by clear h3; omega) a⟩
  | succ f ih =>
    intro i b h1 h2 h3
    have q0 : (32 : Int) ≤ (i : Int) → i = 32 := by clear h3; omega
    refine bX12_nearest_4 ⟨fun a => done i b (q0 a) h3, fun a => ?_⟩
    have q : i + 1 ≤ 32 ∧ 32 - (i + 1) ≤ f ∧ i < i + 1 ∧ (0 : Int) ≤ (i : Int) ∧ (i : Int) < 32 := by clear h3; omega
    refine ⟨⟨q.2.2.2.1, q.2.2.2.2⟩, ?_⟩
    have e1 : wr ((i : Int) + 1) = ((i + 1 : Nat) : Int) := by clear h3; rw [wrs (by omega) (by omega)]; rfl
    rw [e1, Int.toNat_natCast]
    have keep : (M 0 29 i = 0 → 1439 < M 0 28 i ∨ (∃ k : Nat, b = (k : Int) ∧ k < i ∧ M 0 28 k ≤ M 0 28 i)) → CW G K mX12_nearest n 4 [some (vO 0), some (vI b), some (vI ((i + 1 : Nat) : Int))] [] M (qI Q) := by
      intro hk
      refine ih (i + 1) b q.1 q.2.1 ?_
      rcases h3 with ⟨rfl, h⟩ | ⟨k, rfl, g1, g2, g3, g4⟩
      · refine Or.inl ⟨rfl, fun j hj hj0 => ?_⟩
        by_cases e : j = i
        · subst e
          rcases hk hj0 with z | ⟨k, z, -⟩
          · exact z
          · omega
        · exact h j (by omega) hj0
      · refine Or.inr ⟨k, rfl, by omega, g2, g3, fun j hj hj0 => ?_⟩
        by_cases e : j = i
        · subst e
          rcases hk hj0 with z | ⟨k', z, -, z2⟩
          · omega
          · have : k' = k := by omega
            subst this; exact z2
        · exact g4 j (by omega) hj0
    refine ⟨fun c => keep (fun z => absurd z c), fun c => ⟨⟨q.2.2.2.1, q.2.2.2.2⟩, fun d => keep (fun _ => Or.inl d), fun d => ⟨fun e => ?_, fun e => ?_⟩⟩⟩
    · refine ih (i + 1) (i : Int) q.1 q.2.1 (Or.inr ⟨i, rfl, q.2.2.1, c, Int.not_lt.mp d, fun j hj hj0 => ?_⟩)
      rcases h3 with ⟨rfl, h⟩ | ⟨k, rfl, g1, g2, g3, g4⟩
      · by_cases e2 : j = i
        · subst e2; exact Int.le_refl _
        · have := h j (by omega) hj0; omega
      · omega
    · rcases h3 with ⟨rfl, h⟩ | ⟨k, rfl, g1, g2, g3, g4⟩
      · exact absurd (by decide) e
      · refine ⟨⟨by omega, by omega⟩, ⟨by omega, by omega⟩, fun g => ?_, fun g => ?_⟩
        · rw [Int.toNat_natCast] at g
          exact keep (fun _ => Or.inr ⟨k, rfl, g1, g⟩)
        · rw [Int.toNat_natCast] at g
          refine ih (i + 1) (i : Int) q.1 q.2.1 (Or.inr ⟨i, rfl, q.2.2.1, c, Int.not_lt.mp d, fun j hj hj0 => ?_⟩)
          by_cases e2 : j = i
          · subst e2; exact Int.le_refl _
          · have := g4 j (by omega) hj0; omega
theorem c12_nearest {Q : Int → Mem → Prop} (hN : (∀ j : Nat, j < 32 → M 0 29 j = 0 → 1439 < M 0 28 j) → Q (-1) M) (hY : ∀ k : Nat, k < 32 → M 0 29 k = 0 → M 0 28 k ≤ 1439 → (∀ j : Nat, j < 32 → M 0 29 j = 0 → M 0 28 k ≤ M 0 28 j) → Q (k : Int) M) : OkI G n mX12_nearest [vO 0] M Q :=
  eX12_nearest (fun K => bX12_nearest_0 (l12_nearest hN hY 32 0 (-1) (by decide) (by decide) (Or.inl ⟨rfl, fun j hj => absurd hj (Nat.not_lt_zero _)⟩)))
theorem c12_comesTo {Q : Mem → Prop} {k m : Int} (h1 : 0 ≤ k) (h2 : k < 32) (hn : M 0 28 k.toNat ≤ m → Q M) (hy : m < M 0 28 k.toNat → Q (mset M 0 28 k.toNat m)) : OkV G n mX12_comesTo [vO 0, vI k, vI m] M Q :=
  eX12_comesTo (fun K => bX12_comesTo_0 ⟨⟨h1, h2⟩, hn, fun a => ⟨⟨h1, h2⟩, fun M1 e => by subst e; exact hy (by omega)⟩⟩)
def tbM (M : Mem) : Tb := fun r u => M 0 28 (2 * r + u).toNat
def dnM (M : Mem) : Tb := fun r u => M 0 29 (2 * r + u).toNat
/-- the table while its nodes are gone from, the last at minute now, at r0, u0 -/
def JJ (s : Int → Int) (S : Src) (M : Mem) (now r0 u0 : Int) : Prop :=
  (∀ j : Nat, j < 32 → 0 ≤ M 0 28 j ∧ M 0 28 j ≤ 99999) ∧ (∀ j : Nat, j < 32 → M 0 28 j ≤ 1439 → VN s ((j / 2 : Nat) : Int) ((j % 2 : Nat) : Int)) ∧ Snd s S (tbM M) ∧ (∀ r u m, S r u m → tbM M r u ≤ m) ∧
  (∀ r u, VN s r u → dnM M r u ≠ 0 → tbM M r u ≤ now) ∧ (∀ r u, VN s r u → dnM M r u = 0 → now ≤ tbM M r u) ∧
  (∀ r u, VN s r u → dnM M r u ≠ 0 → ¬ (r = r0 ∧ u = u0) → ∀ r' u' m', Ed s r u (tbM M r u) r' u' m' → m' ≤ 1439 → tbM M r' u' ≤ m') ∧
  VN s r0 u0 ∧ tbM M r0 u0 = now ∧ dnM M r0 u0 ≠ 0 ∧ 0 ≤ now ∧ now ≤ 1439
theorem VN_ix {r u r' u' : Int} (h : VN s r u) (h' : VN s r' u') (e : (2 * r + u).toNat = (2 * r' + u').toNat) : r = r' ∧ u = u' := by
  obtain ⟨a, b, c⟩ := h; obtain ⟨a', b', c'⟩ := h'; omega
theorem tbM_set (K : HOK s) {r u r' u' m : Int} (h : VN s r u) (h' : VN s r' u') : tbM (mset M 0 28 (2 * r + u).toNat m) r' u' = if r' = r ∧ u' = u then m else tbM M r' u' := by
  unfold tbM
  by_cases e : r' = r ∧ u' = u
  · rw [if_pos e, e.1, e.2, mset_self]
  · rw [if_neg e, mset_ne (fun z => e (VN_ix h' h z.2.2))]
theorem dnM_set {r u : Int} {j : Nat} {m : Int} : dnM (mset M 0 28 j m) r u = dnM M r u := by
  unfold dnM; exact mset_ne (by simp)
theorem JJ_relax {now r0 u0 r' u' m : Int} (K : HOK s) (h : JJ s S M now r0 u0) (hv : VN s r' u') (hm : now < m) (hm2 : m ≤ 99999) (hr : m ≤ 1439 → Rch s S r' u' m) (hlt : m < tbM M r' u') : JJ s S (mset M 0 28 (2 * r' + u').toNat m) now r0 u0 ∧ ∀ r u, VN s r u → tbM (mset M 0 28 (2 * r' + u').toNat m) r u ≤ tbM M r u := by
  obtain ⟨a1, a2, a3, a4, a5, a6, a7, a8, a9, a10, a11, a12⟩ := h
  have hle : ∀ r u, VN s r u → tbM (mset M 0 28 (2 * r' + u').toNat m) r u ≤ tbM M r u := by
    intro r u hu
    rw [tbM_set K hv hu]
    by_cases e : r = r' ∧ u = u'
    · rw [if_pos e, e.1, e.2]; omega
    · rw [if_neg e]; exact Int.le_refl _
  have hdn : ∀ r u, VN s r u → dnM M r u ≠ 0 → tbM (mset M 0 28 (2 * r' + u').toNat m) r u = tbM M r u := by
    intro r u hu hd
    rw [tbM_set K hv hu]
    by_cases e : r = r' ∧ u = u'
    · have := a5 r u hu hd; rw [e.1, e.2] at this; omega
    · rw [if_neg e]
  have k1 := K.2.1
  refine ⟨⟨fun j hj => ?_, fun j hj hle' => ?_, fun r u hu hl => ?_, fun r u q hq => ?_, fun r u hu hd => ?_, fun r u hu hd => ?_, fun r u hu hd hne r2 u2 m2 he hm3 => ?_, a8, ?_, ?_, a11, a12⟩, hle⟩
  · by_cases e : j = (2 * r' + u').toNat
    · subst e; rw [mset_self]; omega
    · rw [mset_ne (fun z => e z.2.2)]; exact a1 j hj
  · by_cases e : j = (2 * r' + u').toNat
    · obtain ⟨e1, e2⟩ := NF_of (s := s) (D := tbM M) hv
      subst e; rw [e1, e2]; exact hv
    · rw [mset_ne (fun z => e z.2.2)] at hle'; exact a2 j hj hle'
  · rw [tbM_set K hv hu] at hl ⊢
    by_cases e : r = r' ∧ u = u'
    · rw [if_pos e] at hl ⊢; rw [e.1, e.2]; exact hr hl
    · rw [if_neg e] at hl ⊢; exact a3 r u hu hl
  · by_cases hu : VN s r u
    · exact Int.le_trans (hle r u hu) (a4 r u q hq)
    · have h1 := a4 r u q hq
      unfold tbM at h1 ⊢
      by_cases e : (2 * r + u).toNat = (2 * r' + u').toNat
      · rw [e, mset_self]
        have : m < M 0 28 (2 * r' + u').toNat := hlt
        rw [e] at h1; omega
      · rw [mset_ne (fun z => e z.2.2)]; exact h1
  · rw [dnM_set] at hd; rw [hdn r u hu hd]; exact a5 r u hu hd
  · rw [dnM_set] at hd
    rw [tbM_set K hv hu]
    by_cases e : r = r' ∧ u = u'
    · rw [if_pos e]; omega
    · rw [if_neg e]; exact a6 r u hu hd
  · rw [dnM_set] at hd
    rw [hdn r u hu hd] at he
    exact Int.le_trans (hle r2 u2 (Ed_vn K hu he)) (a7 r u hu hd hne r2 u2 m2 he hm3)
  · rw [hdn r0 u0 a8 a10]; exact a9
  · rw [dnM_set]; exact a10
/-- a try to come sooner -/
theorem c12_try {Q : Mem → Prop} {now r0 u0 r' u' m : Int} (K : HOK s) (h : JJ s S M now r0 u0) (hv : VN s r' u') (hm : now < m) (hm2 : m ≤ 99999) (hr : m ≤ 1439 → Rch s S r' u' m)
    (hq : ∀ M' : Mem, EqX [(0, 28)] M M' → JJ s S M' now r0 u0 → (∀ r u, VN s r u → tbM M' r u ≤ tbM M r u) → tbM M' r' u' ≤ m → Q M') : OkV G n mX12_comesTo [vO 0, vI (2 * r' + u'), vI m] M Q := by
  have k1 := K.2.1
  have hv' := hv
  obtain ⟨v1, v2, v3⟩ := hv'
  refine c12_comesTo (by omega) (by omega) (fun a => hq M EqX.rf h (fun _ _ _ => Int.le_refl _) a) (fun a => ?_)
  obtain ⟨g1, g2⟩ := JJ_relax K h hv hm hm2 hr a
  refine hq _ (EqX.mset (List.mem_singleton.mpr rfl)) g1 g2 ?_
  rw [tbM_set K hv hv, if_pos ⟨rfl, rfl⟩]; exact Int.le_refl _
end MR
