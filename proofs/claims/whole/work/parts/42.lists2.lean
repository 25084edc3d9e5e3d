/-! ===== customers and errands ===== -/
section LS2
variable {G : Gx} {n : Nat} {M : Mem} {f f' : Nat → Nat → Int} {s s' : Int → Int}
def scE (f : Nat → Nat → Int) (s : Int → Int) : Prop := (f 1 0 = s 7 ∧ ∀ e : Int, 0 ≤ e → e < s 7 → f 5 e.toNat = s (212 + 4 * e + 0) ∧ f 6 e.toNat = s (212 + 4 * e + 1) ∧ f 7 e.toNat = s (212 + 4 * e + 2) ∧ f 8 e.toNat = s (212 + 4 * e + 3)) ∧ (0 ≤ s 7 ∧ s 7 ≤ 10) ∧ ∀ e : Int, 0 ≤ e → e < s 7 → (0 ≤ s (212 + 4 * e + 0) ∧ s (212 + 4 * e + 0) < s 0) ∧ 0 ≤ s (212 + 4 * e + 1) ∧ s (212 + 4 * e + 1) ≤ s (212 + 4 * e + 2) ∧ s (212 + 4 * e + 2) ≤ 1439 ∧ 0 ≤ s (212 + 4 * e + 3) ∧ s (212 + 4 * e + 3) ≤ 99
def scT (f : Nat → Nat → Int) (s : Int → Int) : Prop := (f 2 0 = s 8 ∧ ∀ t : Int, 0 ≤ t → t < s 8 → f 9 t.toNat = s (252 + 3 * t + 0) ∧ f 10 t.toNat = s (252 + 3 * t + 1) ∧ f 11 t.toNat = s (252 + 3 * t + 2) ∧ TTh s t (f 12 t.toNat)) ∧ (0 ≤ s 8 ∧ s 8 ≤ 12) ∧ ∀ t : Int, 0 ≤ t → t < s 8 → (0 ≤ s (252 + 3 * t + 0) ∧ s (252 + 3 * t + 0) < s 0) ∧ (0 ≤ s (252 + 3 * t + 1) ∧ s (252 + 3 * t + 1) ≤ 1439) ∧ (0 ≤ s (252 + 3 * t + 2) ∧ s (252 + 3 * t + 2) < s 0)
def scR (f : Nat → Nat → Int) (s : Int → Int) : Prop := (f 3 0 = s 9 ∧ ∀ k : Int, 0 ≤ k → k < s 9 → f 13 k.toNat = s (288 + k)) ∧ (0 ≤ s 9 ∧ s 9 ≤ 20) ∧ ∀ k : Int, 0 ≤ k → k < s 9 → 0 ≤ s (288 + k) ∧ s (288 + k) ≤ 1439
def scC (f : Nat → Nat → Int) (s : Int → Int) : Prop := (f 4 0 = s 10 ∧ ∀ c : Int, 0 ≤ c → c < s 10 → f 14 c.toNat = s (308 + 2 * c) ∧ f 15 c.toNat = s (308 + 2 * c + 1)) ∧ (0 ≤ s 10 ∧ s 10 ≤ 10) ∧ ∀ c : Int, 0 ≤ c → c < s 10 → (0 ≤ s (308 + 2 * c) ∧ s (308 + 2 * c) ≤ 5) ∧ (0 ≤ s (308 + 2 * c + 1) ∧ s (308 + 2 * c + 1) ≤ 5) ∧ s (308 + 2 * c) ≠ s (308 + 2 * c + 1)
def scX (f : Nat → Nat → Int) (s : Int → Int) : Prop := f 0 0 = s 11 ∧ 0 ≤ s 11
theorem sc_all : (LR f s ∧ LOK s) ↔ (scX f s ∧ scE f s ∧ scT f s ∧ scR f s ∧ scC f s) := by
  constructor
  · rintro ⟨⟨a0, a1, a2, a3, a4, le, lt, lr, lc⟩, l7, l8, l9, l10, l11, me, mt, mr, mc⟩
    exact ⟨⟨a0, l11⟩, ⟨⟨a1, le⟩, l7, me⟩, ⟨⟨a2, lt⟩, l8, mt⟩, ⟨⟨a3, lr⟩, l9, mr⟩, ⟨⟨a4, lc⟩, l10, mc⟩⟩
  · rintro ⟨⟨a0, l11⟩, ⟨⟨a1, le⟩, l7, me⟩, ⟨⟨a2, lt⟩, l8, mt⟩, ⟨⟨a3, lr⟩, l9, mr⟩, ⟨⟨a4, lc⟩, l10, mc⟩⟩
    exact ⟨⟨a0, a1, a2, a3, a4, le, lt, lr, lc⟩, l7, l8, l9, l10, l11, me, mt, mr, mc⟩
theorem scX_cg (h : scX f s) (hf : f' 0 = f 0) (e : s' 11 = s 11) : scX f' s' := by unfold scX; rw [hf, e]; exact h
theorem scE_cg (h : scE f s) (hf : ∀ k, (k = 1 ∨ (5 ≤ k ∧ k ≤ 8)) → f' k = f k) (e0 : s' 0 = s 0) (e : s' 7 = s 7) (hs : ∀ i, 212 ≤ i → i < 252 → s' i = s i) : scE f' s' := by
  obtain ⟨⟨a, b⟩, c, d⟩ := h
  unfold scE
  rw [e, e0, hf 1 (by omega), hf 5 (by omega), hf 6 (by omega), hf 7 (by omega), hf 8 (by omega)]
  refine ⟨⟨a, fun x h1 h2 => ?_⟩, c, fun x h1 h2 => ?_⟩
  · rw [hs (212 + 4 * x + 0) (by omega) (by omega), hs (212 + 4 * x + 1) (by omega) (by omega), hs (212 + 4 * x + 2) (by omega) (by omega), hs (212 + 4 * x + 3) (by omega) (by omega)]; exact b x h1 h2
  · rw [hs (212 + 4 * x + 0) (by omega) (by omega), hs (212 + 4 * x + 1) (by omega) (by omega), hs (212 + 4 * x + 2) (by omega) (by omega), hs (212 + 4 * x + 3) (by omega) (by omega)]; exact d x h1 h2
theorem scT_cg (h : scT f s) (K : HOK s) (hf : ∀ k, (k = 2 ∨ (9 ≤ k ∧ k ≤ 12)) → f' k = f k) (he : HE s s') (e : s' 8 = s 8) (hs : ∀ i, 252 ≤ i → i < 288 → s' i = s i) : scT f' s' := by
  obtain ⟨⟨a, b⟩, c, d⟩ := h
  unfold scT
  rw [e, he.1, hf 2 (by omega), hf 9 (by omega), hf 10 (by omega), hf 11 (by omega), hf 12 (by omega)]
  refine ⟨⟨a, fun x h1 h2 => ?_⟩, c, fun x h1 h2 => ?_⟩
  · have z0 := hs (252 + 3 * x + 0) (by omega) (by omega)
    have z1 := hs (252 + 3 * x + 1) (by omega) (by omega)
    have z2 := hs (252 + 3 * x + 2) (by omega) (by omega)
    obtain ⟨q1, q2, q3, q4⟩ := b x h1 h2
    exact ⟨by rw [z0]; exact q1, by rw [z1]; exact q2, by rw [z2]; exact q3, TTh_cg he K z0 z1 z2 q4⟩
  · rw [hs (252 + 3 * x + 0) (by omega) (by omega), hs (252 + 3 * x + 1) (by omega) (by omega), hs (252 + 3 * x + 2) (by omega) (by omega)]; exact d x h1 h2
theorem scR_cg (h : scR f s) (hf : ∀ k, (k = 3 ∨ k = 13) → f' k = f k) (e : s' 9 = s 9) (hs : ∀ i, 288 ≤ i → i < 308 → s' i = s i) : scR f' s' := by
  obtain ⟨⟨a, b⟩, c, d⟩ := h
  unfold scR
  rw [e, hf 3 (by omega), hf 13 (by omega)]
  refine ⟨⟨a, fun x h1 h2 => ?_⟩, c, fun x h1 h2 => ?_⟩
  · rw [hs (288 + x) (by omega) (by omega)]; exact b x h1 h2
  · rw [hs (288 + x) (by omega) (by omega)]; exact d x h1 h2
theorem scC_cg (h : scC f s) (hf : ∀ k, (k = 4 ∨ k = 14 ∨ k = 15) → f' k = f k) (e : s' 10 = s 10) (hs : ∀ i, 308 ≤ i → i < 328 → s' i = s i) : scC f' s' := by
  obtain ⟨⟨a, b⟩, c, d⟩ := h
  unfold scC
  rw [e, hf 4 (by omega), hf 14 (by omega), hf 15 (by omega)]
  refine ⟨⟨a, fun x h1 h2 => ?_⟩, c, fun x h1 h2 => ?_⟩
  · rw [hs (308 + 2 * x) (by omega) (by omega), hs (308 + 2 * x + 1) (by omega) (by omega)]; exact b x h1 h2
  · rw [hs (308 + 2 * x) (by omega) (by omega), hs (308 + 2 * x + 1) (by omega) (by omega)]; exact d x h1 h2
theorem LJ_rf (L : LR (M 6) (sd M)) (LO : LOK (sd M)) : LJ M M := ⟨fun _ _ _ _ _ => rfl, fun _ _ _ _ => rfl, L, LO⟩
set_option maxHeartbeats 1600000 in
theorem both_customer {x y : Int} {P : Int → Int → Mem → Prop} (K : HOK (sd M)) (L : LR (M 6) (sd M)) (LO : LOK (sd M)) (h : ∀ r M2, LJ M M2 → P r r M2) : OkI G (n + 1) mX11_customer [vO 1, vI x, vI y] M (fun r1 M1 => OkI G (n + 1) mX12_customer [vO 0, vI x, vI y] M1 (fun r2 M2 => P r1 r2 M2)) := by
  obtain ⟨sX, sE, sT, sR, sC⟩ := sc_all.mp ⟨L, LO⟩
  obtain ⟨⟨c1, c2⟩, c3, c4⟩ := id sC
  have hM := LJ_rf L LO
  have e10 : M 0 26 10 = sd M 10 := rfl
  have ok : ∀ {a b : Int} {Q : Int → Mem → Prop} {M : Mem}, a ≤ x ∨ True → (a ≤ x → x ≤ b → Q 1 M) → True := fun _ _ => trivial
  have no : (¬ (0 ≤ x ∧ x ≤ 5 ∧ 0 ≤ y ∧ y ≤ 5 ∧ x ≠ y) ∨ sd M 10 = 10) → ¬ x = -1 → OkI G (n + 1) mX12_customer [vO 0, vI x, vI y] M (fun r2 M2 => P (-2) r2 M2) := by
    intro z a
    refine eX12_customer (fun Kz => bX12_customer_0 ⟨fun _ => ?_, fun w => absurd w a⟩)
    rw [e10]
    refine ⟨fun _ => h _ M hM, fun w => ?_⟩
    refine c12_in (fun p1 p2 => ⟨fun q => absurd q (by decide), fun _ => c12_in (fun p3 p4 => ⟨fun q => absurd q (by decide), fun _ => ⟨fun q => ?_, fun _ => h _ M hM⟩⟩) (fun _ => ⟨fun _ => h _ M hM, fun q => absurd rfl q⟩)⟩) (fun _ => ⟨fun _ => h _ M hM, fun q => absurd rfl q⟩)
    rcases z with z | z
    · exact absurd ⟨p1, p2, p3, p4, q⟩ z
    · exact absurd z w
  refine eX11_customer (fun Kx => bX11_customer_0 ⟨fun a => ⟨fun b => no (Or.inl (by omega)) a, fun b => ⟨fun c => no (Or.inl (by omega)) a, fun c => ⟨fun d => no (Or.inl (by omega)) a, fun d => ⟨fun e => no (Or.inl (by omega)) a, fun e => ⟨fun g => ?_, fun g => no (Or.inl (by omega)) a⟩⟩⟩⟩⟩, fun a M3 em => ?_⟩)
  · rw [c1]
    refine ⟨fun k => eX3_addCustomer (fun Ky => bX3_addCustomer_0 rfl ?_), fun k => no (Or.inr (by omega)) a⟩
    rw [c1]
    refine ⟨fun _ => ⟨⟨c3.1, k⟩, fun M1 em1 => ?_⟩, fun z => absurd k z⟩
    have g1 : M1 6 4 0 = sd M 10 := by rw [em1, mset_ne (by simp)]; exact c1
    rw [g1]
    refine ⟨⟨c3.1, k⟩, fun M2 em2 M3 em3 => ?_⟩
    have g2 : M2 6 4 0 = sd M 10 := by rw [em2, mset_ne (by simp)]; exact g1
    rw [g2, wrs (x := sd M 10 + 1) (by omega) (by omega)] at em3
    have g3 : M3 6 4 0 = sd M 10 + 1 := by rw [em3, mset_self]
    rw [g3]
    have g10 : M3 0 26 10 = sd M 10 := by rw [em3, mset_ne (by simp), em2, mset_ne (by simp), em1, mset_ne (by simp)]; rfl
    refine eX12_customer (fun Kz => bX12_customer_0 ⟨fun _ => ?_, fun w => absurd w a⟩)
    rw [g10]
    refine ⟨fun w => absurd w (by omega), fun w => c12_in (fun _ _ => ⟨fun q => absurd q (by decide), fun _ => c12_in (fun _ _ => ⟨fun q => absurd q (by decide), fun _ => ⟨fun _ => ?_, fun q => absurd q g⟩⟩) (fun q => absurd ⟨by omega, by omega⟩ q)⟩) (fun q => absurd ⟨by omega, by omega⟩ q)⟩
    have ei : wr (308 + wr (2 * sd M 10)) = 308 + 2 * sd M 10 := by rw [wrs (x := 2 * sd M 10) (by omega) (by omega), wrs (x := 308 + 2 * sd M 10) (by omega) (by omega)]
    rw [g10, ei]
    refine ⟨⟨by omega, by omega⟩, fun M4 em4 => ?_⟩
    have g4 : M4 0 26 10 = sd M 10 := by rw [em4, mset_ne (by simp; omega)]; exact g10
    have ei2 : wr (wr (308 + wr (2 * sd M 10)) + 1) = 308 + 2 * sd M 10 + 1 := by rw [ei, wrs (x := 308 + 2 * sd M 10 + 1) (by omega) (by omega)]
    rw [g4, ei2]
    refine ⟨⟨by omega, by omega⟩, fun M5 em5 M6 em6 => ?_⟩
    have g5 : M5 0 26 10 = sd M 10 := by rw [em5, mset_ne (by simp; omega)]; exact g4
    rw [g5, wrs (x := sd M 10 + 1) (by omega) (by omega)] at em6
    have g6 : M6 0 26 10 = sd M 10 + 1 := by rw [em6, mset_self]
    rw [g6]
    have hsd : ∀ i : Int, sd M6 i = if i.toNat = 10 then sd M 10 + 1 else if i.toNat = (308 + 2 * sd M 10 + 1).toNat then y else if i.toNat = (308 + 2 * sd M 10).toNat then x else sd M i := by
      intro i
      rw [em6, sd_set, em5, sd_set, em4, sd_set]
      have : sd M3 i = sd M i := by
        show M3 0 26 _ = M 0 26 _
        rw [em3, mset_ne (by simp), em2, mset_ne (by simp), em1, mset_ne (by simp)]
      rw [this]
    have hs : ∀ i : Int, 0 ≤ i → i ≠ 10 → i ≠ 308 + 2 * sd M 10 → i ≠ 308 + 2 * sd M 10 + 1 → sd M6 i = sd M i := fun i i0 i1 i2 i3 => by rw [hsd, if_neg (by omega), if_neg (by omega), if_neg (by omega)]
    have hs10 : sd M6 10 = sd M 10 + 1 := by rw [hsd, if_pos (by decide)]
    have h6 : ∀ k, k ≠ 4 → k ≠ 14 → k ≠ 15 → M6 6 k = M 6 k := fun k k1 k2 k3 => funext (fun i => by
      rw [em6, mset_ne (by simp), em5, mset_ne (by simp), em4, mset_ne (by simp), em3, mset_ne (fun z => k1 z.2.1), em2, mset_ne (fun z => k3 z.2.1), em1, mset_ne (fun z => k2 z.2.1)])
    have hx : LX (sd M) (sd M6) := fun i i0 i1 i2 => hs i i0 (by omega) (by omega) (by omega)
    have q36 : ∀ k i, M6 6 k i = M3 6 k i := fun k i => by rw [em6, mset_ne (by simp), em5, mset_ne (by simp), em4, mset_ne (by simp)]
    have fin := sc_all.mpr ⟨scX_cg sX (h6 0 (by decide) (by decide) (by decide)) (hs 11 (by decide) (by decide) (by omega) (by omega)), scE_cg sE (fun k hk => h6 k (by omega) (by omega) (by omega)) hx.he.1 (hs 7 (by decide) (by decide) (by omega) (by omega)) (fun i i1 i2 => hs i (by omega) (by omega) (by omega) (by omega)), scT_cg sT K (fun k hk => h6 k (by omega) (by omega) (by omega)) hx.he (hs 8 (by decide) (by decide) (by omega) (by omega)) (fun i i1 i2 => hs i (by omega) (by omega) (by omega) (by omega)), scR_cg sR (fun k hk => h6 k (by omega) (by omega) (by omega)) (hs 9 (by decide) (by decide) (by omega) (by omega)) (fun i i1 i2 => hs i (by omega) (by omega) (by omega) (by omega)), (?_ : scC (M6 6) (sd M6))⟩
    · refine h _ M6 ⟨fun o k i ho hk => ?_, hx, fin.1, fin.2⟩
      rw [em6, mset_ne (fun z => hk (by rw [z.1, z.2.1])), em5, mset_ne (fun z => hk (by rw [z.1, z.2.1])), em4, mset_ne (fun z => hk (by rw [z.1, z.2.1])), em3, mset_ne (fun z => ho z.1), em2, mset_ne (fun z => ho z.1), em1, mset_ne (fun z => ho z.1)]
    · unfold scC
      rw [hs10, q36 4, g3]
      refine ⟨⟨rfl, fun t t1 t2 => ?_⟩, ⟨by omega, by omega⟩, fun t t1 t2 => ?_⟩
      · rw [q36 14, q36 15]
        by_cases q : t = sd M 10
        · rw [q, hsd, if_neg (by omega), if_neg (by omega), if_pos rfl, hsd (308 + 2 * sd M 10 + 1), if_neg (by omega), if_pos rfl]
          rw [em3, mset_ne (by simp), em2, mset_ne (by simp), em1, mset_self, mset_ne (by simp), mset_self]
          exact ⟨rfl, rfl⟩
        · rw [hs (308 + 2 * t) (by omega) (by omega) (by omega) (by omega), hs (308 + 2 * t + 1) (by omega) (by omega) (by omega) (by omega), em3, mset_ne (by simp), mset_ne (by simp), em2, mset_ne (by simp), mset_ne (fun z => q (by have := z.2.2; omega)), em1, mset_ne (fun z => q (by have := z.2.2; omega)), mset_ne (by simp)]
          exact c2 t t1 (by omega)
      · by_cases q : t = sd M 10
        · rw [q, hsd, if_neg (by omega), if_neg (by omega), if_pos rfl, hsd (308 + 2 * sd M 10 + 1), if_neg (by omega), if_pos rfl]
          omega
        · rw [hs (308 + 2 * t) (by omega) (by omega) (by omega) (by omega), hs (308 + 2 * t + 1) (by omega) (by omega) (by omega) (by omega)]
          exact c4 t t1 (by omega)
  · refine eX12_customer (fun Kz => bX12_customer_0 ⟨fun z => absurd a z, fun _ M4 em4 => h _ M4 ?_⟩)
    have hsd : ∀ i : Int, sd M4 i = if i.toNat = 10 then 0 else sd M i := by
      intro i
      rw [em4, sd_set]
      have : sd M3 i = sd M i := by
        show M3 0 26 _ = M 0 26 _
        rw [em, mset_ne (by simp)]
      rw [this]
    have hs : ∀ i : Int, 0 ≤ i → i ≠ 10 → sd M4 i = sd M i := fun i i0 i1 => by rw [hsd, if_neg (by omega)]
    have hs10 : sd M4 10 = 0 := by rw [hsd, if_pos (by decide)]
    have h6 : ∀ k, k ≠ 4 → M4 6 k = M 6 k := fun k k1 => funext (fun i => by rw [em4, mset_ne (by simp), em, mset_ne (fun z => k1 z.2.1)])
    have hx : LX (sd M) (sd M4) := fun i i0 i1 i2 => hs i i0 (by omega)
    have fin := sc_all.mpr ⟨scX_cg sX (h6 0 (by decide)) (hs 11 (by decide) (by decide)), scE_cg sE (fun k hk => h6 k (by omega)) hx.he.1 (hs 7 (by decide) (by decide)) (fun i i1 i2 => hs i (by omega) (by omega)), scT_cg sT K (fun k hk => h6 k (by omega)) hx.he (hs 8 (by decide) (by decide)) (fun i i1 i2 => hs i (by omega) (by omega)), scR_cg sR (fun k hk => h6 k (by omega)) (hs 9 (by decide) (by decide)) (fun i i1 i2 => hs i (by omega) (by omega)), (?_ : scC (M4 6) (sd M4))⟩
    · refine ⟨fun o k i ho hk => ?_, hx, fin.1, fin.2⟩
      rw [em4, mset_ne (fun z => hk (by rw [z.1, z.2.1])), em, mset_ne (fun z => ho z.1)]
    · unfold scC
      rw [hs10]
      refine ⟨⟨by rw [em4, mset_ne (by simp), em, mset_self], fun t t1 t2 => by omega⟩, ⟨by omega, by omega⟩, fun t t1 t2 => by omega⟩
def erS (s : Int → Int) (x1 x2 x3 x4 i : Int) : Int := if i.toNat = 7 then s 7 + 1 else if i.toNat = (212 + 4 * s 7 + 3).toNat then x4 else if i.toNat = (212 + 4 * s 7 + 2).toNat then x3 else if i.toNat = (212 + 4 * s 7 + 1).toNat then x2 else if i.toNat = (212 + 4 * s 7).toNat then x1 else s i
theorem erS_far {x1 x2 x3 x4 i : Int} (k0 : 0 ≤ s 7) (i0 : 0 ≤ i) (i1 : i ≠ 7) (i2 : i < 212 + 4 * s 7 ∨ 212 + 4 * s 7 + 3 < i) : erS s x1 x2 x3 x4 i = s i := by
  unfold erS; rw [if_neg (by omega), if_neg (by omega), if_neg (by omega), if_neg (by omega), if_neg (by omega)]
theorem erS_at {x1 x2 x3 x4 : Int} (k0 : 0 ≤ s 7) : erS s x1 x2 x3 x4 7 = s 7 + 1 ∧ erS s x1 x2 x3 x4 (212 + 4 * s 7 + 0) = x1 ∧ erS s x1 x2 x3 x4 (212 + 4 * s 7 + 1) = x2 ∧ erS s x1 x2 x3 x4 (212 + 4 * s 7 + 2) = x3 ∧ erS s x1 x2 x3 x4 (212 + 4 * s 7 + 3) = x4 := by
  refine ⟨?_, ?_, ?_, ?_, ?_⟩ <;> unfold erS
  · rw [if_pos (by decide)]
  · rw [if_neg (by omega), if_neg (by omega), if_neg (by omega), if_neg (by omega), if_pos (by omega)]
  · rw [if_neg (by omega), if_neg (by omega), if_neg (by omega), if_pos (by omega)]
  · rw [if_neg (by omega), if_neg (by omega), if_pos (by omega)]
  · rw [if_neg (by omega), if_pos (by omega)]
theorem c12_errand_no {Q : Int → Mem → Prop} {x1 x2 x3 x4 : Int} (z : ¬ (0 ≤ x1 ∧ x1 < sd M 0 ∧ 0 ≤ x2 ∧ x2 ≤ 1439 ∧ x2 ≤ x3 ∧ x3 ≤ 1439 ∧ 0 ≤ x4 ∧ x4 ≤ 99) ∨ sd M 7 = 10) (h : Q (-1) M) : OkI G (n + 2) mX12_errand [vO 0, vI x1, vI x2, vI x3, vI x4] M Q := by
  have e7 : M 0 26 7 = sd M 7 := rfl
  refine eX12_errand (fun Kz => bX12_errand_0 ?_)
  rw [e7]
  refine ⟨fun _ => h, fun w => ?_⟩
  refine c12_isRoom (fun p1 p2 => ⟨fun q => absurd q (by decide), fun _ => c12_isMinute (fun p3 p4 => ⟨fun q => absurd q (by decide), fun _ => c12_in (fun p5 p6 => ⟨fun q => absurd q (by decide), fun _ => c12_in (fun p7 p8 => ?_) (fun _ => ⟨fun q => absurd rfl q, fun _ => h⟩)⟩) (fun _ => ⟨fun _ => h, fun q => absurd rfl q⟩)⟩) (fun _ => ⟨fun _ => h, fun q => absurd rfl q⟩)⟩) (fun _ => ⟨fun _ => h, fun q => absurd rfl q⟩)
  rcases z with z | z
  · exact absurd ⟨p1, p2, p3, p4, p5, p6, p7, p8⟩ z
  · exact absurd z w
theorem c12_errand {Q : Int → Mem → Prop} {x1 x2 x3 x4 : Int} (hs : sd M = s) (k0 : 0 ≤ s 7) (k1 : s 7 < 10) (p1 : 0 ≤ x1) (p2 : x1 < s 0) (p3 : 0 ≤ x2) (p4 : x2 ≤ 1439) (p5 : x2 ≤ x3) (p6 : x3 ≤ 1439) (p7 : 0 ≤ x4) (p8 : x4 ≤ 99) (h : ∀ N, (∀ o k i, (o, k) ≠ (0, 26) → N o k i = M o k i) → sd N = erS s x1 x2 x3 x4 → Q (s 7) N) : OkI G (n + 2) mX12_errand [vO 0, vI x1, vI x2, vI x3, vI x4] M Q := by
  have g07 : M 0 26 7 = s 7 := by rw [← hs]; rfl
  have w7 : s 7 ≠ 10 := by omega
  refine eX12_errand (fun Kz => bX12_errand_0 ?_)
  rw [g07]
  refine ⟨fun w => absurd w w7, fun w => c12_isRoom (fun _ _ => ⟨fun q => absurd q (by decide), fun _ => c12_isMinute (fun _ _ => ⟨fun q => absurd q (by decide), fun _ => c12_in (fun _ _ => ⟨fun q => absurd q (by decide), fun _ => c12_in (fun _ _ => ⟨fun _ => ?_, fun q => absurd q (by decide)⟩) (fun q => absurd ⟨p7, p8⟩ q)⟩) (fun q => absurd ⟨p5, p6⟩ q)⟩) (fun q => absurd ⟨p3, p4⟩ q)⟩) (fun q => absurd ⟨p1, by rw [hs]; exact p2⟩ q)⟩
  rw [g07, show wr (212 + wr (4 * s 7)) = 212 + 4 * s 7 by rw [wrs (x := 4 * s 7) (by omega) (by omega), wrs (x := 212 + 4 * s 7) (by omega) (by omega)], wrs (x := 212 + 4 * s 7 + 1) (by omega) (by omega), wrs (x := 212 + 4 * s 7 + 2) (by omega) (by omega), wrs (x := 212 + 4 * s 7 + 3) (by omega) (by omega)]
  refine ⟨⟨by omega, by omega⟩, fun N1 en1 => ⟨⟨by omega, by omega⟩, fun N2 en2 => ⟨⟨by omega, by omega⟩, fun N3 en3 => ⟨⟨by omega, by omega⟩, fun N4 en4 N5 en5 => ?_⟩⟩⟩⟩
  have n7 : N4 0 26 7 = s 7 := by rw [en4, mset_ne (by simp; omega), en3, mset_ne (by simp; omega), en2, mset_ne (by simp; omega), en1, mset_ne (by simp; omega)]; exact g07
  rw [n7, wrs (x := s 7 + 1) (by omega) (by omega)] at en5
  have n57 : N5 0 26 7 = s 7 + 1 := by rw [en5, mset_self]
  rw [n57, show s 7 + 1 - 1 = s 7 by omega, wrs (x := s 7) (by omega) (by omega)]
  refine h N5 (fun o k i hk => ?_) ?_
  · rw [en5, mset_ne (fun z => hk (by rw [z.1, z.2.1])), en4, mset_ne (fun z => hk (by rw [z.1, z.2.1])), en3, mset_ne (fun z => hk (by rw [z.1, z.2.1])), en2, mset_ne (fun z => hk (by rw [z.1, z.2.1])), en1, mset_ne (fun z => hk (by rw [z.1, z.2.1]))]
  · funext i
    rw [en5, sd_set, en4, sd_set, en3, sd_set, en2, sd_set, en1, sd_set, hs]
    rfl
theorem c3_addErrand {Q : Int → Mem → Prop} {x1 x2 x3 x4 : Int} (c1 : M 6 1 0 = s 7) (k0 : 0 ≤ s 7) (k1 : s 7 < 10) (h : ∀ N, EqX [(6, 1), (6, 5), (6, 6), (6, 7), (6, 8)] M N → N 6 1 0 = s 7 + 1 → (∀ i, N 6 5 i = if i = (s 7).toNat then x1 else M 6 5 i) → (∀ i, N 6 6 i = if i = (s 7).toNat then x2 else M 6 6 i) → (∀ i, N 6 7 i = if i = (s 7).toNat then x3 else M 6 7 i) → (∀ i, N 6 8 i = if i = (s 7).toNat then x4 else M 6 8 i) → Q (s 7) N) : OkI G n mX3_addErrand [vO 6, vI x1, vI x2, vI x3, vI x4] M Q := by
  have kb : 0 ≤ s 7 ∧ s 7 < 10 := ⟨k0, k1⟩
  have ms : ∀ {N : Mem} {o k j : Nat} {x : Int} (i : Nat), mset N o k j x o k i = if i = j then x else N o k i := fun {N o k j x} i => by
    unfold mset
    by_cases e : i = j
    · rw [if_pos ⟨rfl, rfl, e⟩, if_pos e]
    · rw [if_neg (fun z => e z.2.2), if_neg e]
  refine eX3_addErrand (fun Ky => bX3_addErrand_0 rfl ?_)
  rw [c1]
  refine ⟨fun _ => ⟨kb, fun M1 em1 => ?_⟩, fun z => absurd k1 z⟩
  have g1 : M1 6 1 0 = s 7 := by rw [em1, mset_ne (by simp)]; exact c1
  rw [g1]
  refine ⟨kb, fun M2 em2 => ?_⟩
  have g2 : M2 6 1 0 = s 7 := by rw [em2, mset_ne (by simp)]; exact g1
  rw [g2]
  refine ⟨kb, fun M3 em3 => ?_⟩
  have g3 : M3 6 1 0 = s 7 := by rw [em3, mset_ne (by simp)]; exact g2
  rw [g3]
  refine ⟨kb, fun M4 em4 M5 em5 => ?_⟩
  have g4 : M4 6 1 0 = s 7 := by rw [em4, mset_ne (by simp)]; exact g3
  rw [g4, wrs (x := s 7 + 1) (by omega) (by omega)] at em5
  have g5 : M5 6 1 0 = s 7 + 1 := by rw [em5, mset_self]
  rw [g5, show s 7 + 1 - 1 = s 7 by omega, wrs (x := s 7) (by omega) (by omega)]
  refine h M5 ?_ g5 (fun i => ?_) (fun i => ?_) (fun i => ?_) (fun i => ?_)
  · rw [em5, em4, em3, em2, em1]; exact ((((EqX.mset (by decide)).trans (EqX.mset (by decide))).trans (EqX.mset (by decide))).trans (EqX.mset (by decide))).trans (EqX.mset (by decide))
  · rw [em5, mset_ne (by simp), em4, mset_ne (by simp), em3, mset_ne (by simp), em2, mset_ne (by simp), em1, ms]
  · rw [em5, mset_ne (by simp), em4, mset_ne (by simp), em3, mset_ne (by simp), em2, ms, em1, mset_ne (by simp)]
  · rw [em5, mset_ne (by simp), em4, mset_ne (by simp), em3, ms, em2, mset_ne (by simp), em1, mset_ne (by simp)]
  · rw [em5, mset_ne (by simp), em4, ms, em3, mset_ne (by simp), em2, mset_ne (by simp), em1, mset_ne (by simp)]
theorem scE_add {x1 x2 x3 x4 : Int} (h : scE f s) (k1 : s 7 < 10) (p1 : 0 ≤ x1) (p2 : x1 < s 0) (p3 : 0 ≤ x2) (p5 : x2 ≤ x3) (p6 : x3 ≤ 1439) (p7 : 0 ≤ x4) (p8 : x4 ≤ 99) (f1 : f' 1 0 = s 7 + 1) (f5 : ∀ i, f' 5 i = if i = (s 7).toNat then x1 else f 5 i) (f6 : ∀ i, f' 6 i = if i = (s 7).toNat then x2 else f 6 i) (f7 : ∀ i, f' 7 i = if i = (s 7).toNat then x3 else f 7 i) (f8 : ∀ i, f' 8 i = if i = (s 7).toNat then x4 else f 8 i) : scE f' (erS s x1 x2 x3 x4) := by
  obtain ⟨⟨c1, c2⟩, ⟨k0, k10⟩, c4⟩ := h
  obtain ⟨e7, v0, v1, v2, v3⟩ := erS_at (s := s) (x1 := x1) (x2 := x2) (x3 := x3) (x4 := x4) k0
  have e0 : erS s x1 x2 x3 x4 0 = s 0 := erS_far k0 (by omega) (by omega) (by omega)
  unfold scE
  rw [e7, e0]
  refine ⟨⟨f1, fun t t1 t2 => ?_⟩, ⟨by omega, by omega⟩, fun t t1 t2 => ?_⟩
  · rw [f5, f6, f7, f8]
    by_cases q : t = s 7
    · rw [q, v0, v1, v2, v3, if_pos rfl, if_pos rfl, if_pos rfl, if_pos rfl]
      exact ⟨rfl, rfl, rfl, rfl⟩
    · have qq : ¬ t.toNat = (s 7).toNat := by omega
      rw [if_neg qq, if_neg qq, if_neg qq, if_neg qq, erS_far (i := 212 + 4 * t + 0) k0 (by omega) (by omega) (by omega), erS_far (i := 212 + 4 * t + 1) k0 (by omega) (by omega) (by omega), erS_far (i := 212 + 4 * t + 2) k0 (by omega) (by omega) (by omega), erS_far (i := 212 + 4 * t + 3) k0 (by omega) (by omega) (by omega)]
      exact c2 t t1 (by omega)
  · by_cases q : t = s 7
    · rw [q, v0, v1, v2, v3]; exact ⟨⟨p1, p2⟩, p3, p5, p6, p7, p8⟩
    · rw [erS_far (i := 212 + 4 * t + 0) k0 (by omega) (by omega) (by omega), erS_far (i := 212 + 4 * t + 1) k0 (by omega) (by omega) (by omega), erS_far (i := 212 + 4 * t + 2) k0 (by omega) (by omega) (by omega), erS_far (i := 212 + 4 * t + 3) k0 (by omega) (by omega) (by omega)]
      exact c4 t t1 (by omega)
theorem both_errand {x1 x2 x3 x4 : Int} {P : Int → Int → Mem → Prop} (H : HR (M 4) (sd M)) (K : HOK (sd M)) (L : LR (M 6) (sd M)) (LO : LOK (sd M)) (h : ∀ r M2, LJ M M2 → P r r M2) : OkI G (n + 2) mX11_errand [vO 1, vI x1, vI x2, vI x3, vI x4] M (fun r1 M1 => OkI G (n + 2) mX12_errand [vO 0, vI x1, vI x2, vI x3, vI x4] M1 (fun r2 M2 => P r1 r2 M2)) := by
  obtain ⟨sX, sE, sT, sR, sC⟩ := sc_all.mp ⟨L, LO⟩
  obtain ⟨⟨c1, -⟩, ⟨c3, c3'⟩, -⟩ := id sE
  have hM := LJ_rf L LO
  have no : (¬ (0 ≤ x1 ∧ x1 < sd M 0 ∧ 0 ≤ x2 ∧ x2 ≤ 1439 ∧ x2 ≤ x3 ∧ x3 ≤ 1439 ∧ 0 ≤ x4 ∧ x4 ≤ 99) ∨ sd M 7 = 10) → OkI G (n + 2) mX12_errand [vO 0, vI x1, vI x2, vI x3, vI x4] M (fun r2 M2 => P (-1) r2 M2) := fun z => c12_errand_no z (h _ M hM)
  refine eX11_errand (fun Kx => bX11_errand_0 ?_)
  rw [c1]
  refine ⟨fun a => no (Or.inr (by omega)), fun a => c11_isStart H K (fun p1 p2 p3 p4 => ⟨fun q => absurd q (by decide), fun _ => c11_isMinute (fun p5 p6 => ⟨fun _ => ⟨fun b => no (Or.inl (fun q => by omega)), fun b => ⟨fun c => no (Or.inl (fun q => by omega)), fun c => ⟨fun d => ?_, fun d => no (Or.inl (fun q => by omega))⟩⟩⟩, fun q => absurd q (by decide)⟩) (fun q => ⟨fun w => absurd rfl w, fun _ => no (Or.inl (fun q' => by omega))⟩)⟩) (fun q => ⟨fun _ => no (Or.inl (fun q' => q ⟨q'.1, q'.2.1, q'.2.2.1, q'.2.2.2.1⟩)), fun w => absurd rfl w⟩)⟩
  refine c3_addErrand (s := sd M) c1 c3 (by omega) (fun N e g1 g5 g6 g7 g8 => ?_)
  have es : sd N = sd M := e.sd (by decide)
  refine c12_errand es c3 (by omega) p1 p2 p3 p4 (by omega) p6 (by omega) d (fun N2 q5 e2 => ?_)
  have o6 : N2 6 = N 6 := funext (fun k => funext (fun i => q5 6 k i (by simp)))
  have hs : ∀ i : Int, 0 ≤ i → i ≠ 7 → (i < 212 + 4 * sd M 7 ∨ 212 + 4 * sd M 7 + 3 < i) → sd N2 i = sd M i := fun i i0 i1 i2 => by rw [e2]; exact erS_far c3 i0 i1 i2
  have hx : LX (sd M) (sd N2) := fun i i0 i1 i2 => hs i i0 (by omega) (by omega)
  have h6 : ∀ k, k ≠ 1 → k ≠ 5 → k ≠ 6 → k ≠ 7 → k ≠ 8 → N2 6 k = M 6 k := fun k k1 k2 k3 k4 k5 => by
    rw [o6]; exact e.fld (by simp; omega)
  have fE : scE (N2 6) (sd N2) := by
    rw [o6, e2]
    exact scE_add sE (by omega) p1 p2 p3 (by omega) p6 (by omega) d g1 g5 g6 g7 g8
  have fin := sc_all.mpr ⟨scX_cg sX (h6 0 (by decide) (by decide) (by decide) (by decide) (by decide)) (hs 11 (by decide) (by decide) (by omega)), fE, scT_cg sT K (fun k hk => h6 k (by omega) (by omega) (by omega) (by omega) (by omega)) hx.he (hs 8 (by decide) (by decide) (by omega)) (fun i i1 i2 => hs i (by omega) (by omega) (by omega)), scR_cg sR (fun k hk => h6 k (by omega) (by omega) (by omega) (by omega) (by omega)) (hs 9 (by decide) (by decide) (by omega)) (fun i i1 i2 => hs i (by omega) (by omega) (by omega)), scC_cg sC (fun k hk => h6 k (by omega) (by omega) (by omega) (by omega) (by omega)) (hs 10 (by decide) (by decide) (by omega)) (fun i i1 i2 => hs i (by omega) (by omega) (by omega))⟩
  refine h _ N2 ⟨fun o k i ho hk => ?_, hx, fin.1, fin.2⟩
  rw [q5 o k i hk]
  exact e o k i (fun z => ho (by
    rcases List.mem_cons.mp z with z | z
    · cases z; rfl
    rcases List.mem_cons.mp z with z | z
    · cases z; rfl
    rcases List.mem_cons.mp z with z | z
    · cases z; rfl
    rcases List.mem_cons.mp z with z | z
    · cases z; rfl
    rcases List.mem_cons.mp z with z | z
    · cases z; rfl
    cases z))
end LS2
