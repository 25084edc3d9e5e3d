/-! ===== a rule's text: what both readers find ===== -/
section RSP
variable {b : Nat → Int} {L f m l c : Nat} {u : Nat → Int} {ρ : Nat → Nat → Int}
/-- where the steps come to rest -/
noncomputable def tR (b : Nat → Int) (L : Nat) (S : St) : St := cI (∃ T, Rc b L S T ∧ stp b L T = T) (Classical.epsilon (fun T : St => Rc b L S T ∧ stp b L T = T)) S
theorem tR_eq {S T : St} (h : Rc b L S T) (t : stp b L T = T) : tR b L S = T := by
  have hx : ∃ T, Rc b L S T ∧ stp b L T = T := ⟨T, h, t⟩
  unfold tR
  rw [cI_t hx]
  have := Classical.epsilon_spec hx
  exact Rc_one this.1 h this.2 t
/-- the steps of before stay -/
def Kp (l0 : Nat) (u0 : Nat → Int) (S : St) : Prop := S.1 = 5 ∨ (l0 ≤ S.2.2.2.1 ∧ ∀ i, i < l0 → S.2.2.2.2.1 i = u0 i)
theorem Kp_stp {l0 : Nat} {u0 : Nat → Int} {S : St} (h : Kp l0 u0 S) : Kp l0 u0 (stp b L S) := by
  obtain ⟨md, f, m, l, u, σ, φ⟩ := S
  have fl : ∀ φ, Kp l0 u0 (flt φ) := fun _ => Or.inl rfl
  rcases h with h | ⟨h1, h2⟩
  · have : md = 5 := h
    subst this
    exact Or.inl rfl
  · have h1' : l0 ≤ l := h1
    have h2' : ∀ i, i < l0 → u i = u0 i := h2
    have same : ∀ md f m σ φ, Kp l0 u0 (md, f, m, l, u, σ, φ) := fun _ _ _ _ _ => Or.inr ⟨h1', h2'⟩
    have put : ∀ md f m v σ φ, Kp l0 u0 (md, f, m, l + 1, upN u l v, σ, φ) := fun _ _ _ v _ _ => Or.inr ⟨by show l0 ≤ l + 1; omega, fun i hi => by show upN u l v i = u0 i; unfold upN; rw [if_neg (by omega)]; exact h2' i hi⟩
    by_cases c0 : md = 0
    · subst c0; rw [stp_0]; unfold s0 cI
      repeat' split
      all_goals first | exact fl _ | exact same _ _ _ _ _ | exact put _ _ _ _ _ _
    by_cases c1 : md = 1
    · subst c1; rw [stp_1]; unfold s1
      repeat' split
      all_goals first | exact fl _ | exact same _ _ _ _ _ | exact put _ _ _ _ _ _
    by_cases c2 : md = 2
    · subst c2; rw [stp_2]; unfold s2
      repeat' split
      all_goals first | exact fl _ | exact same _ _ _ _ _ | exact put _ _ _ _ _ _
    by_cases c3 : md = 3
    · subst c3; rw [stp_3]; unfold s3 cI
      repeat' split
      all_goals first | exact fl _ | exact same _ _ _ _ _ | exact put _ _ _ _ _ _
    have : stp b L (md, f, m, l, u, σ, φ) = (md, f, m, l, u, σ, φ) := (if_neg c0).trans ((if_neg c1).trans ((if_neg c2).trans (if_neg c3)))
    rw [this]; exact same _ _ _ _ _
theorem Kp_Rc {l0 : Nat} {u0 : Nat → Int} {S S' : St} (h : Kp l0 u0 S) (r : Rc b L S S') : Kp l0 u0 S' := by
  obtain ⟨k, e⟩ := r
  subst e
  induction k generalizing S with
  | zero => exact h
  | succ k ih => exact ih (Kp_stp h)
theorem Rc_keep {md f m l : Nat} {u : Nat → Int} {σ : List Int} {φ : Int} {md' f' m' l' : Nat} {u' : Nat → Int} {σ' : List Int} {φ' : Int} (r : Rc b L (md, f, m, l, u, σ, φ) (md', f', m', l', u', σ', φ')) (h5 : md' ≠ 5) : l ≤ l' ∧ ∀ i, i < l → u' i = u i := by
  have h : Kp l u (md, f, m, l, u, σ, φ) := Or.inr ⟨Nat.le_refl _, fun _ _ => rfl⟩
  rcases Kp_Rc h r with q | q
  · exact absurd q h5
  · exact q
/-! the clauses -/
noncomputable def dw (b : Nat → Int) (L f : Nat) : Int := cI (wq b L f 7) 0 (cI (wq b L f 8) 1 (cI (wq b L f 9) 2 (-1)))
theorem dw_rng : -1 ≤ dw b L f ∧ dw b L f ≤ 2 := by
  unfold dw cI
  repeat' split
  all_goals omega
theorem dw_kd (h : dw b L f ≠ -1) : kd b L f = 1 := by
  unfold dw at h
  by_cases w : wq b L f 7
  · exact w.1
  rw [cI_f w] at h
  by_cases w : wq b L f 8
  · exact w.1
  rw [cI_f w] at h
  by_cases w : wq b L f 9
  · exact w.1
  rw [cI_f w] at h
  exact absurd rfl h
/-- the deed: fault, deed, way, the piece behind -/
noncomputable def rD (b : Nat → Int) (L f c : Nat) : Int × Int × Int × Nat :=
  if dw b L f = -1 then (1 + 8 * (f : Int) + 0, 0, 0, 0) else if c = 12 then (1 + 8 * (f : Int) + 4, 0, 0, 0)
  else if dw b L f = 0 then (nF b L (nx b L f) 0 23, 0, nv b L (nx b L f), nx b L (nx b L f)) else (0, dw b L f, 0, nx b L f)
def rup (ρ : Nat → Nat → Int) (c : Nat) (d w : Int) (l l' : Nat) (u : Nat → Int) : Nat → Nat → Int := fun k i =>
  if k = 0 then (if i = 0 then ((c + 1 : Nat) : Int) else ρ 0 i) else if k = 1 then (if i = c then d else ρ 1 i) else if k = 2 then (if i = c ∧ d = 0 then w else ρ 2 i)
  else if k = 3 then (if i = c then (l : Int) else ρ 3 i) else if k = 4 then (if i = c then (l' : Int) else ρ 4 i) else if k = 5 then u i else ρ k i
/-- fault, piece, made, length, the rule -/
abbrev RS : Type := Int × Nat × Nat × Nat × (Nat → Nat → Int)
noncomputable def rT (b : Nat → Int) (L c : Nat) (d w : Int) (f m l : Nat) (ρ : Nat → Nat → Int) : RS :=
  cI (wq b L f 6) (if (tR b L (0, nx b L f, m, l, ρ 5, [], 0)).1 = 5 then ((tR b L (0, nx b L f, m, l, ρ 5, [], 0)).2.2.2.2.2.2, 0, 0, 0, ρ)
    else (0, (tR b L (0, nx b L f, m, l, ρ 5, [], 0)).2.1, (tR b L (0, nx b L f, m, l, ρ 5, [], 0)).2.2.1, (tR b L (0, nx b L f, m, l, ρ 5, [], 0)).2.2.2.1, rup ρ c d w l (tR b L (0, nx b L f, m, l, ρ 5, [], 0)).2.2.2.1 (tR b L (0, nx b L f, m, l, ρ 5, [], 0)).2.2.2.2.1))
  (0, f, m, l, rup ρ c d w l l (ρ 5))
theorem rT_n {d w : Int} (h : ¬ wq b L f 6) : rT b L c d w f m l ρ = (0, f, m, l, rup ρ c d w l l (ρ 5)) := cI_f h
theorem rT_t {d w : Int} {f' m' l' : Nat} {u' : Nat → Int} (h : wq b L f 6) (r : Rc b L (0, nx b L f, m, l, ρ 5, [], 0) (4, f', m', l', u', [], 0)) : rT b L c d w f m l ρ = (0, f', m', l', rup ρ c d w l l' u') := by
  unfold rT
  rw [cI_t h, tR_eq r stp_4]
  exact if_neg (show ¬ (4 : Nat) = 5 by decide)
theorem rT_f {d w : Int} {φ : Int} (h : wq b L f 6) (r : Rc b L (0, nx b L f, m, l, ρ 5, [], 0) (flt φ)) : rT b L c d w f m l ρ = (φ, 0, 0, 0, ρ) := by
  unfold rT
  rw [cI_t h, tR_eq r stp_5]
  exact if_pos (show (5 : Nat) = 5 from rfl)
noncomputable def rCl (b : Nat → Int) (L f c m l : Nat) (ρ : Nat → Nat → Int) : RS := if (rD b L f c).1 = 0 then rT b L c (rD b L f c).2.1 (rD b L f c).2.2.1 (rD b L f c).2.2.2 m l ρ else ((rD b L f c).1, 0, 0, 0, ρ)
noncomputable def rLp (b : Nat → Int) (L : Nat) : Nat → Nat → Nat → Nat → Nat → (Nat → Nat → Int) → Int × (Nat → Nat → Int)
  | 0, _, _, _, _, ρ => (0, ρ)
  | k + 1, c, f, m, l, ρ =>
    if (rCl b L f c m l ρ).1 = 0 then (if L ≤ (rCl b L f c m l ρ).2.1 then (0, (rCl b L f c m l ρ).2.2.2.2) else if b (rCl b L f c m l ρ).2.1 = 59 then rLp b L k (c + 1) (nx b L (rCl b L f c m l ρ).2.1) (rCl b L f c m l ρ).2.2.1 (rCl b L f c m l ρ).2.2.2.1 (rCl b L f c m l ρ).2.2.2.2 else (1 + 8 * (((rCl b L f c m l ρ).2.1 : Nat) : Int) + 0, ρ)) else ((rCl b L f c m l ρ).1, ρ)
theorem rLp_s {k : Nat} : rLp b L (k + 1) c f m l ρ = if (rCl b L f c m l ρ).1 = 0 then (if L ≤ (rCl b L f c m l ρ).2.1 then (0, (rCl b L f c m l ρ).2.2.2.2) else if b (rCl b L f c m l ρ).2.1 = 59 then rLp b L k (c + 1) (nx b L (rCl b L f c m l ρ).2.1) (rCl b L f c m l ρ).2.2.1 (rCl b L f c m l ρ).2.2.2.1 (rCl b L f c m l ρ).2.2.2.2 else (1 + 8 * (((rCl b L f c m l ρ).2.1 : Nat) : Int) + 0, ρ)) else ((rCl b L f c m l ρ).1, ρ) := rfl
noncomputable def rAll (b : Nat → Int) (L : Nat) (ρ : Nat → Nat → Int) : Int × (Nat → Nat → Int) := rLp b L 13 0 (run pB b L 0) 0 0 (fun k i => if k = 0 ∧ i = 0 then 0 else ρ k i)
/-! what holds of a rule half read -/
def rI (b : Nat → Int) (L f m l c : Nat) (ρ : Nat → Nat → Int) : Prop := f ≤ L ∧ run pB b L f = f ∧ l ≤ f ∧ m ≤ 60 ∧ c ≤ 12 ∧ L ≤ 400 ∧ ρ 0 0 = (c : Int) ∧ ∀ j : Nat, j < c → (0 ≤ ρ 1 j ∧ ρ 1 j ≤ 2) ∧ 0 ≤ ρ 3 j ∧ (ρ 3 j = ρ 4 j ∨ WFs (ρ 5) (ρ 3 j).toNat (ρ 4 j).toNat) ∧ 0 ≤ ρ 4 j ∧ ρ 4 j ≤ (l : Int)
theorem rI_ok (h : rI b L f m l c ρ) : RuOK ρ := by
  obtain ⟨h1, h2, h3, h4, h5, h6, h7, h8⟩ := h
  refine ⟨by rw [h7]; omega, by rw [h7]; omega, fun j hj => ?_⟩
  rw [h7] at hj
  obtain ⟨a1, a2, a3, a4, a5⟩ := h8 j (by omega)
  exact ⟨a1, a2, a3, a4, by omega⟩
theorem rI_MIv (h : rI b L f m l c ρ) {g : Nat} (hg : f ≤ g) (hL : g ≤ L) (hr : run pB b L g = g) : MIv b L l 0 g m l (ρ 5) [] := by
  obtain ⟨h1, h2, h3, h4, h5, h6, h7, h8⟩ := h
  refine ⟨hL, hr, by show l + 0 ≤ g; omega, Nat.le_refl _, ⟨fun j hj => by omega, ?_⟩, ?_, h4, fun _ x hx => absurd hx List.not_mem_nil, fun z => by omega, fun z => by omega⟩
  · rw [Nat.sub_self]; rfl
  · show (0 : Int) + 0 ≤ _; omega
theorem WFs_cg {u u' : Nat → Int} {x y : Nat} (h : WFs u x y) (e : ∀ i, x ≤ i → i < y → u' i = u i) : WFs u' x y := by
  obtain ⟨h1, h2, h3, h4⟩ := h
  have hd : ∀ j, x + j ≤ y → dpt u' x j = dpt u x j := fun j hj => dpt_cg j (fun i hi => e _ (by omega) (by omega))
  refine ⟨h1, h2, fun j hj => ?_, ?_⟩
  · rw [hd j (by omega), e _ (by omega) hj]; exact h3 j hj
  · rw [hd _ (by omega)]; exact h4
theorem rI_up {d w : Int} {g m' l' : Nat} {u' : Nat → Int} (h : rI b L f m l c ρ) (hc : c < 12) (hd : 0 ≤ d ∧ d ≤ 2) (hg : f ≤ g) (hL : g ≤ L) (hr : run pB b L g = g) (hm : m' ≤ 60) (hl : l' ≤ g) (hll : l ≤ l') (hu : ∀ i, i < l → u' i = ρ 5 i) (ht : l = l' ∨ WFs u' l l') : rI b L g m' l' (c + 1) (rup ρ c d w l l' u') := by
  obtain ⟨h1, h2, h3, h4, h5, h6, h7, h8⟩ := h
  have e0 : rup ρ c d w l l' u' 0 0 = ((c + 1 : Nat) : Int) := rfl
  have e1 : ∀ i, rup ρ c d w l l' u' 1 i = if i = c then d else ρ 1 i := fun _ => rfl
  have e3 : ∀ i, rup ρ c d w l l' u' 3 i = if i = c then (l : Int) else ρ 3 i := fun _ => rfl
  have e4 : ∀ i, rup ρ c d w l l' u' 4 i = if i = c then (l' : Int) else ρ 4 i := fun _ => rfl
  have e5 : rup ρ c d w l l' u' 5 = u' := rfl
  refine ⟨hL, hr, hl, hm, hc, h6, e0, fun j hj => ?_⟩
  rw [e1, e3, e4, e5]
  by_cases q : j = c
  · rw [if_pos q, if_pos q, if_pos q, Int.toNat_natCast, Int.toNat_natCast]
    exact ⟨hd, by omega, by rcases ht with z | z; exact Or.inl (by omega); exact Or.inr z, by omega, by omega⟩
  · rw [if_neg q, if_neg q, if_neg q]
    obtain ⟨a1, a2, a3, a4, a5⟩ := h8 j (by omega)
    refine ⟨a1, a2, ?_, a4, by omega⟩
    rcases a3 with z | z
    · exact Or.inl z
    · exact Or.inr (WFs_cg z (fun i _ hi => hu i (by omega)))
theorem rI_test {d w : Int} {g f' m' l' : Nat} {u' : Nat → Int} (h : rI b L f m l c ρ) (hc : c < 12) (hd : 0 ≤ d ∧ d ≤ 2) (hg : f ≤ g) (hL : g ≤ L) (hr : run pB b L g = g) (hgf : g ≤ f') (r : Rc b L (0, g, m, l, ρ 5, [], 0) (4, f', m', l', u', [], 0)) : rI b L f' m' l' (c + 1) (rup ρ c d w l l' u') := by
  have I := MIv_of (MIv_Rc (MIS_mk (rI_MIv h hg hL hr)) r) (by decide)
  obtain ⟨i1, i2, i3, i4, i5, i6, i7, -⟩ := I
  obtain ⟨k1, k2⟩ := Rc_keep r (by decide)
  have i3' : l' + 0 ≤ f' := i3
  have i5' : dW u' l l' 1 := i5
  refine rI_up h hc hd (by omega) i1 i2 i7 (by omega) k1 k2 (Or.inr ⟨?_, by have := h.2.2.2.2.2.1; omega, i5'.1, i5'.2⟩)
  by_cases q : l = l'
  · have z := i5'.2
    rw [q, Nat.sub_self] at z
    have : dpt u' l' 0 = 0 := rfl
    omega
  · omega
end RSP
