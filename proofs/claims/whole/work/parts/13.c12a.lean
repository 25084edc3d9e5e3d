section C12A
variable {G : Gx} {n : Nat} {M : Mem} {Q : Int → Mem → Prop}
theorem c12_in {x l h : Int} (ht : l ≤ x → x ≤ h → Q 1 M) (hf : ¬ (l ≤ x ∧ x ≤ h) → Q 0 M) : OkI G n mX12_in [vL x, vL l, vL h] M Q := by
  refine eX12_in (fun K => bX12_in_0 ?_)
  simp only [sg_neg, sg_pos]
  exact ⟨fun a => hf (by omega), fun a => ⟨fun b => hf (by omega), fun b => ht (by omega) (by omega)⟩⟩
theorem c12_isOf {x y : Int} (ht : bAnd (bShr x y) 1 = 1 → Q 1 M) (hf : ¬ bAnd (bShr x y) 1 = 1 → Q 0 M) : OkI G n mX12_isOf [vI x, vI y] M Q :=
  eX12_isOf (fun K => bX12_isOf_0 ⟨hf, ht⟩)
theorem c12_later {x y : Int} (h : Q (if x ≤ y then y else x) M) : OkI G n mX12_later [vI x, vI y] M Q := by
  refine eX12_later (fun K => bX12_later_0 ⟨fun a => ?_, fun a => ?_⟩)
  · rw [if_pos a] at h; exact h
  · rw [if_neg a] at h; exact h
theorem c12_isRule {x : Int} (ht : 0 ≤ x → x < M 0 2 0 → Q 1 M) (hf : ¬ (0 ≤ x ∧ x < M 0 2 0) → Q 0 M) : OkI G n mX12_isRule [vO 0, vI x] M Q :=
  eX12_isRule (fun K => bX12_isRule_0 ⟨fun a => hf (by omega), fun a => ⟨fun b => hf (by omega), fun b => ht (by omega) (by omega)⟩⟩)
theorem c12_isRoom {x : Int} (ht : 0 ≤ x → x < sd M 0 → Q 1 M) (hf : ¬ (0 ≤ x ∧ x < sd M 0) → Q 0 M) : OkI G n mX12_isRoom [vO 0, vI x] M Q :=
  eX12_isRoom (fun K => bX12_isRoom_0 ⟨fun a => hf (by omega), fun a => ⟨fun b => hf (fun z => by have : x < M 0 26 0 := z.2; omega), fun b => ht (by omega) (show x < M 0 26 0 by omega)⟩⟩)
theorem c12_isWay {x : Int} (ht : 0 ≤ x → x < sd M 1 → Q 1 M) (hf : ¬ (0 ≤ x ∧ x < sd M 1) → Q 0 M) : OkI G n mX12_isWay [vO 0, vI x] M Q :=
  eX12_isWay (fun K => bX12_isWay_0 ⟨fun a => hf (by omega), fun a => ⟨fun b => hf (fun z => by have : x < M 0 26 1 := z.2; omega), fun b => ht (by omega) (show x < M 0 26 1 by omega)⟩⟩)
theorem c12_isPerson {x : Int} (ht : 0 ≤ x → x < sd M 2 → Q 1 M) (hf : ¬ (0 ≤ x ∧ x < sd M 2) → Q 0 M) : OkI G n mX12_isPerson [vO 0, vI x] M Q :=
  eX12_isPerson (fun K => bX12_isPerson_0 ⟨fun a => hf (by omega), fun a => ⟨fun b => hf (fun z => by have : x < M 0 26 2 := z.2; omega), fun b => ht (by omega) (show x < M 0 26 2 by omega)⟩⟩)
theorem c12_isMinute {x : Int} (ht : 0 ≤ x → x ≤ 1439 → Q 1 M) (hf : ¬ (0 ≤ x ∧ x ≤ 1439) → Q 0 M) : OkI G n mX12_isMinute [vI x] M Q :=
  eX12_isMinute (fun K => bX12_isMinute_0 ⟨fun a => hf (by omega), fun a => ⟨fun b => hf (by omega), fun b => ht (by omega) (by omega)⟩⟩)
theorem c12_wayOf {w k : Int} (h1 : 0 ≤ w) (h2 : w < 24) (h3 : 0 ≤ k) (h4 : k < 6) (h : Q (sd M (28 + 6 * w + k)) M) : OkI G n mX12_wayOf [vO 0, vI w, vI k] M Q := by
  refine eX12_wayOf (fun K => bX12_wayOf_0 ?_)
  have e : wr (wr (28 + (wr (6 * w))) + k) = 28 + 6 * w + k := by unfold wr; omega
  rw [e]
  exact ⟨⟨by omega, by omega⟩, h⟩
theorem c12_personOf {p k : Int} (h1 : 0 ≤ p) (h2 : p < 8) (h3 : 0 ≤ k) (h4 : k < 5) (h : Q (sd M (172 + 5 * p + k)) M) : OkI G n mX12_personOf [vO 0, vI p, vI k] M Q := by
  refine eX12_personOf (fun K => bX12_personOf_0 ?_)
  have e : wr (wr (172 + (wr (5 * p))) + k) = 172 + 5 * p + k := by unfold wr; omega
  rw [e]
  exact ⟨⟨by omega, by omega⟩, h⟩
theorem c12_errandOf {p k : Int} (h1 : 0 ≤ p) (h2 : p < 10) (h3 : 0 ≤ k) (h4 : k < 4) (h : Q (sd M (212 + 4 * p + k)) M) : OkI G n mX12_errandOf [vO 0, vI p, vI k] M Q := by
  refine eX12_errandOf (fun K => bX12_errandOf_0 ?_)
  have e : wr (wr (212 + (wr (4 * p))) + k) = 212 + 4 * p + k := by unfold wr; omega
  rw [e]
  exact ⟨⟨by omega, by omega⟩, h⟩
theorem c12_ridden {p : Int} (h1 : 0 ≤ p) (h2 : p < 8) (ht : 0 < sd M (172 + 5 * p + 2) → Q 1 M) (hf : ¬ 0 < sd M (172 + 5 * p + 2) → Q 0 M) : OkI G (n + 1) mX12_ridden [vO 0, vI p] M Q :=
  eX12_ridden (fun K => bX12_ridden_0 (c12_personOf h1 h2 (by decide) (by decide) ⟨fun a => hf (by omega), fun a => ht (by omega)⟩))
/-- where a way leads from a room; -1: nowhere -/
def endW (s : Int → Int) (w r : Int) : Int := if s (28 + 6 * w + 0) = r then s (28 + 6 * w + 1) else if s (28 + 6 * w + 3) = 1 ∧ s (28 + 6 * w + 1) = r then s (28 + 6 * w + 0) else -1
theorem c12_endOf {w r : Int} (h1 : 0 ≤ w) (h2 : w < 24) (h : Q (endW (sd M) w r) M) : OkI G (n + 1) mX12_endOf [vO 0, vI w, vI r] M Q := by
  unfold endW at h
  refine eX12_endOf (fun K => bX12_endOf_0 (c12_wayOf h1 h2 (by decide) (by decide) ⟨fun a => ?_, fun a => ?_⟩))
  · rw [if_neg a] at h
    refine c12_wayOf h1 h2 (by decide) (by decide) ⟨fun b => ?_, fun b => ?_⟩
    · rw [if_neg (fun z => b z.1)] at h; exact h
    · refine c12_wayOf h1 h2 (by decide) (by decide) ⟨fun c => ?_, fun c => ?_⟩
      · rw [if_neg (fun z => c z.2)] at h; exact h
      · rw [if_pos ⟨b, c⟩] at h
        exact c12_wayOf h1 h2 (by decide) (by decide) h
  · rw [if_pos a] at h
    exact c12_wayOf h1 h2 (by decide) (by decide) h
theorem c12_isOpen {w m : Int} (h1 : 0 ≤ w) (h2 : w < 24) (ht : (sd M (28 + 6 * w + 4) < 0 ∨ (sd M (28 + 6 * w + 4) ≤ m ∧ m ≤ sd M (28 + 6 * w + 5))) → Q 1 M) (hf : ¬ (sd M (28 + 6 * w + 4) < 0 ∨ (sd M (28 + 6 * w + 4) ≤ m ∧ m ≤ sd M (28 + 6 * w + 5))) → Q 0 M) : OkI G (n + 1) mX12_isOpen [vO 0, vI w, vI m] M Q := by
  refine eX12_isOpen (fun K => bX12_isOpen_0 (c12_wayOf h1 h2 (by decide) (by decide) ⟨fun a => ht (Or.inl a), fun a => ?_⟩))
  refine c12_wayOf h1 h2 (by decide) (by decide) (c12_wayOf h1 h2 (by decide) (by decide) (c12_in (fun b c => ?_) (fun b => ?_)))
  · exact ⟨fun z => absurd z (by decide), fun _ => ht (Or.inr ⟨b, c⟩)⟩
  · exact ⟨fun _ => hf (fun z => z.elim a b), fun z => absurd rfl z⟩
/-- from which minute on a way can be gone; 99999: not any more -/
def opW (s : Int → Int) (w m : Int) : Int := if s (28 + 6 * w + 4) < 0 then m else if (if m ≤ s (28 + 6 * w + 4) then s (28 + 6 * w + 4) else m) ≤ s (28 + 6 * w + 5) then (if m ≤ s (28 + 6 * w + 4) then s (28 + 6 * w + 4) else m) else 99999
theorem c12_opens {w m : Int} (h1 : 0 ≤ w) (h2 : w < 24) (h : Q (opW (sd M) w m) M) : OkI G (n + 1) mX12_opens_ [vO 0, vI w, vI m] M Q := by
  unfold opW at h
  refine eX12_opens_ (fun K => bX12_opens__0 (c12_wayOf h1 h2 (by decide) (by decide) ⟨fun a => ?_, fun a => ?_⟩))
  · rw [if_neg (by omega)] at h
    refine c12_wayOf h1 h2 (by decide) (by decide) (c12_later (c12_wayOf h1 h2 (by decide) (by decide) ⟨fun b => ?_, fun b => ?_⟩))
    · rw [if_pos b] at h; exact h
    · rw [if_neg b] at h; exact h
  · rw [if_pos (by omega)] at h; exact h
/-- the highest room, the least of them -/
def isTop (s : Int → Int) (t : Int) : Prop := 0 ≤ t ∧ t < s 0 ∧ (∀ r, 0 ≤ r → r < s 0 → s (12 + r) ≤ s (12 + t)) ∧ ∀ r, 0 ≤ r → r < t → s (12 + r) < s (12 + t)
theorem l12_topRoom {K : Kx} (hR : sd M 0 ≤ 16) (h : ∀ t, isTop (sd M) t → Q t M) : ∀ (f : Nat) (t r : Int), 0 ≤ t → t < r → 1 ≤ r → r ≤ sd M 0 → (∀ q, 0 ≤ q → q < r → sd M (12 + q) ≤ sd M (12 + t)) → (∀ q, 0 ≤ q → q < t → sd M (12 + q) < sd M (12 + t)) → (sd M 0 - r).toNat ≤ f → CW G K mX12_topRoom n 4 [some (vO 0), some (vI t), some (vI r)] [] M (qI Q) := by
  intro f
  induction f with
  | zero =>
    intro t r h1 h2 h3 h4 h5 h6 h7
    refine bX12_topRoom_4 ⟨fun a => h t ⟨h1, by omega, fun q hq hq2 => h5 q hq (by omega), h6⟩, fun a => ?_⟩
    exact absurd (show M 0 26 0 ≤ r by show sd M 0 ≤ r; omega) a
  | succ f ih =>
    intro t r h1 h2 h3 h4 h5 h6 h7
    refine bX12_topRoom_4 ⟨fun a => h t ⟨h1, by omega, fun q hq hq2 => h5 q hq (by have : sd M 0 ≤ r := a; omega), h6⟩, fun a => ?_⟩
    have hlt : r < sd M 0 := by have : ¬ sd M 0 ≤ r := a; omega
    rw [wrs (x := 12 + r) (by omega) (by omega), wrs (x := 12 + t) (by omega) (by omega), wrs (x := r + 1) (by omega) (by omega)]
    refine ⟨⟨by omega, by omega⟩, ⟨by omega, by omega⟩, fun b => ?_, fun b => ?_⟩
    · have b' : sd M (12 + r) ≤ sd M (12 + t) := b
      refine ih t (r + 1) h1 (by omega) (by omega) (by omega) (fun q hq hq2 => ?_) h6 (by omega)
      by_cases e : q = r
      · rw [e]; exact b'
      · exact h5 q hq (by omega)
    · have b' : ¬ sd M (12 + r) ≤ sd M (12 + t) := b
      refine ih r (r + 1) (by omega) (by omega) (by omega) (by omega) (fun q hq hq2 => ?_) (fun q hq hq2 => ?_) (by omega)
      · by_cases e : q = r
        · rw [e]; omega
        · have := h5 q hq (by omega); omega
      · have := h5 q hq hq2; omega
theorem c12_topRoom (hR : sd M 0 ≤ 16) (h0 : 1 ≤ sd M 0) (h : ∀ t, isTop (sd M) t → Q t M) : OkI G n mX12_topRoom [vO 0] M Q := by
  refine eX12_topRoom (fun K => bX12_topRoom_0 (l12_topRoom hR h (sd M 0 - 1).toNat 0 1 (by decide) (by decide) (by decide) h0 (fun q h1 h2 => ?_) (fun q h1 h2 => by omega) (by omega)))
  have e : q = 0 := by omega
  rw [e]; exact Int.le_refl _
theorem isTop_one {s : Int → Int} {t t' : Int} (h : isTop s t) (h' : isTop s t') : t = t' := by
  obtain ⟨a1, a2, a3, a4⟩ := h
  obtain ⟨b1, b2, b3, b4⟩ := h'
  rcases Int.lt_trichotomy t t' with c | c | c
  · have := b4 t a1 c; have := a3 t' b1 b2; omega
  · exact c
  · have := a4 t' b1 c; have := b3 t a1 a2; omega
theorem l12_inRoom {K : Kx} {r : Int} (h2 : sd M 2 ≤ 8) (h : Q (setF (fun p => decide (sd M (172 + 5 * p + 0) = r)) (sd M 2).toNat) M) : ∀ (f k : Nat), (k : Int) ≤ sd M 2 → (sd M 2).toNat - k ≤ f → CW G K mX12_inRoom (n + 1) 4 [some (vO 0), some (vI r), some (vI (setF (fun p => decide (sd M (172 + 5 * p + 0) = r)) k)), some (vI (k : Int))] [] M (qI Q) := by
  intro f
  induction f with
  | zero =>
    intro k h3 h4
    have e : k = (sd M 2).toNat := by omega
    refine bX12_inRoom_4 ⟨fun a => by rw [e]; exact h, fun a => ?_⟩
    exact absurd (show sd M 2 ≤ (k : Int) by omega) a
  | succ f ih =>
    intro k h3 h4
    refine bX12_inRoom_4 ⟨fun a => ?_, fun a => ?_⟩
    · have e : k = (sd M 2).toNat := by have : sd M 2 ≤ (k : Int) := a; omega
      rw [e]; exact h
    · have hk : (k : Int) < sd M 2 := by have : ¬ sd M 2 ≤ (k : Int) := a; omega
      have ih' := ih (k + 1) (by omega) (by omega)
      rw [wrs (x := (k : Int) + 1) (by omega) (by omega)]
      refine c12_personOf (by omega) (by omega) (by decide) (by decide) ⟨fun b => ?_, fun b => ?_⟩
      · rw [bOr_0 (setF_in _ _)]
        unfold setF at ih'
        rw [if_neg (by simpa using b)] at ih'
        exact ih'
      · unfold setF at ih'
        rw [if_pos (by simpa using b)] at ih'
        exact ih'
theorem c12_inRoom {r : Int} (h1 : 0 ≤ sd M 2) (h2 : sd M 2 ≤ 8) (h : Q (setF (fun p => decide (sd M (172 + 5 * p + 0) = r)) (sd M 2).toNat) M) : OkI G (n + 1) mX12_inRoom [vO 0, vI r] M Q :=
  eX12_inRoom (fun K => bX12_inRoom_0 (l12_inRoom h2 h (sd M 2).toNat 0 (by omega) (by omega)))
end C12A
