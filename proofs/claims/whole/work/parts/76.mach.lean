/-! ===== a test's text: the steps that both readers follow ===== -/
section MAC
variable {b : Nat → Int} {L : Nat}
/-- mode, piece, how many made, how long, the steps, what waits, the fault -/
abbrev St : Type := Nat × Nat × Nat × Nat × (Nat → Int) × List Int × Int
def upN (u : Nat → Int) (l : Nat) (v : Int) : Nat → Int := fun i => if i = l then v else u i
def hd (σ : List Int) : Int := σ.headD 0
def dep : List Int → Nat
  | [] => 0
  | x :: τ => dep τ + if x = 21 ∨ x = 91 then 1 else 0
def nb : List Int → Int
  | [] => 0
  | x :: τ => nb τ + if 10 ≤ x ∧ x ≤ 20 then 1 else 0
def flt (φ : Int) : St := (5, 0, 0, 0, fun _ => 0, [], φ)
noncomputable def vw (b : Nat → Int) (L f : Nat) : Int := cI (wq b L f 13) 0 (cI (wq b L f 5) 1 (cI (wq b L f 0) 2 (cI (wq b L f 14) 3 (cI (wq b L f 15) 4 (cI (wq b L f 16) 5 (cI (wq b L f 17) 6 (cI (wq b L f 18) 7 (-1))))))))
def rk (b : Nat → Int) (L f : Nat) : Int := if f < L then (if b f = 42 then 12 else if b f = 43 then 10 else if b f = 45 then 11 else if b f = 47 then 13 else -1) else -1
def cp (b : Nat → Int) (L f : Nat) : Int := if f < L then (if b f = 60 then (if bh b L f = f + 2 then 15 else 14) else if b f = 61 then 16 else if b f = 62 then (if bh b L f = f + 2 then 17 else 18) else -1) else -1
noncomputable def s0 (b : Nat → Int) (L f m l : Nat) (u : Nat → Int) (σ : List Int) : St :=
  cI (wq b L f 12) (if dep σ = 10 then flt (1 + 8 * (f : Int) + 2) else (0, nx b L f, m, l, u, 21 :: σ, 0))
  (if f < L ∧ b f = 91 then (if dep σ = 10 then flt (1 + 8 * (f : Int) + 2) else (0, nx b L f, m, l, u, 91 :: σ, 0)) else (1, f, m, l, u, σ, 0))
noncomputable def s1 (b : Nat → Int) (L f m l : Nat) (u : Nat → Int) (σ : List Int) : St :=
  if 0 ≤ vw b L f then (if m = 60 then flt (1 + 8 * (f : Int) + 3) else (2, nx b L f, m + 1, l + 1, upN u l (vw b L f), σ, 0))
  else if nF b L f 0 99999 = 0 then (if m = 60 then flt (1 + 8 * (f : Int) + 3) else (2, nx b L f, m + 1, l + 1, upN u l (100 + nv b L f), σ, 0))
  else flt (nF b L f 0 99999)
def s2 (b : Nat → Int) (L f m l : Nat) (u : Nat → Int) (σ : List Int) : St :=
  if hd σ = 12 ∨ hd σ = 13 then (2, f, m, l + 1, upN u l (hd σ), σ.tail, 0)
  else if rk b L f = 12 ∨ rk b L f = 13 then (1, nx b L f, m, l, u, rk b L f :: σ, 0)
  else if hd σ = 10 ∨ hd σ = 11 then (2, f, m, l + 1, upN u l (hd σ), σ.tail, 0)
  else if rk b L f = 10 ∨ rk b L f = 11 then (1, nx b L f, m, l, u, rk b L f :: σ, 0)
  else if 14 ≤ hd σ ∧ hd σ ≤ 18 then (3, f, m, l + 1, upN u l (hd σ), σ.tail, 0)
  else if cp b L f = -1 then flt (1 + 8 * (f : Int) + 0)
  else if m = 60 then flt (1 + 8 * (f : Int) + 3)
  else (1, nx b L f, m + 1, l, u, cp b L f :: σ, 0)
noncomputable def s3 (b : Nat → Int) (L f m l : Nat) (u : Nat → Int) (σ : List Int) : St :=
  if hd σ = 21 ∨ hd σ = 19 then (3, f, m, l + 1, upN u l (hd σ), σ.tail, 0)
  else cI (wq b L f 11) (0, nx b L f, m, l, u, 19 :: σ, 0)
  (if hd σ = 20 then (3, f, m, l + 1, upN u l 20, σ.tail, 0)
  else cI (wq b L f 10) (0, nx b L f, m, l, u, 20 :: σ, 0)
  (if hd σ = 91 then (if f < L ∧ b f = 93 then (3, nx b L f, m, l, u, σ.tail, 0) else flt (1 + 8 * (f : Int) + 0)) else (4, f, m, l, u, σ, 0)))
noncomputable def stp (b : Nat → Int) (L : Nat) (S : St) : St :=
  if S.1 = 0 then s0 b L S.2.1 S.2.2.1 S.2.2.2.1 S.2.2.2.2.1 S.2.2.2.2.2.1
  else if S.1 = 1 then s1 b L S.2.1 S.2.2.1 S.2.2.2.1 S.2.2.2.2.1 S.2.2.2.2.2.1
  else if S.1 = 2 then s2 b L S.2.1 S.2.2.1 S.2.2.2.1 S.2.2.2.2.1 S.2.2.2.2.2.1
  else if S.1 = 3 then s3 b L S.2.1 S.2.2.1 S.2.2.2.1 S.2.2.2.2.1 S.2.2.2.2.2.1
  else S
noncomputable def itr (b : Nat → Int) (L : Nat) : Nat → St → St
  | 0, S => S
  | k + 1, S => itr b L k (stp b L S)
def Rc (b : Nat → Int) (L : Nat) (S S' : St) : Prop := ∃ k, itr b L k S = S'
theorem Rc.rf {S : St} : Rc b L S S := ⟨0, rfl⟩
theorem itr_add {S : St} : ∀ (i j : Nat), itr b L (i + j) S = itr b L j (itr b L i S) := by
  intro i
  induction i generalizing S with
  | zero => intro j; rw [Nat.zero_add]; rfl
  | succ i ih => intro j; rw [show i + 1 + j = (i + j) + 1 by omega]; exact ih j
theorem Rc.trans {S S1 S2 : St} (h1 : Rc b L S S1) (h2 : Rc b L S1 S2) : Rc b L S S2 := by
  obtain ⟨i, e1⟩ := h1
  obtain ⟨j, e2⟩ := h2
  exact ⟨i + j, by rw [itr_add, e1, e2]⟩
theorem Rc.st {S S1 S2 : St} (h : stp b L S = S1) (h2 : Rc b L S1 S2) : Rc b L S S2 := by
  obtain ⟨j, e2⟩ := h2
  exact ⟨j + 1, by show itr b L j (stp b L S) = S2; rw [h]; exact e2⟩
theorem Rc.then {S S1 S2 : St} (h1 : Rc b L S S1) (h : stp b L S1 = S2) : Rc b L S S2 := h1.trans (Rc.st h Rc.rf)
theorem itr_fix {S : St} (h : stp b L S = S) : ∀ k, itr b L k S = S
  | 0 => rfl
  | k + 1 => by show itr b L k (stp b L S) = S; rw [h]; exact itr_fix h k
theorem Rc_one {S T T' : St} (h : Rc b L S T) (h' : Rc b L S T') (t : stp b L T = T) (t' : stp b L T' = T') : T = T' := by
  obtain ⟨i, e1⟩ := h
  obtain ⟨j, e2⟩ := h'
  have a : itr b L (i + j) S = T := by rw [itr_add, e1]; exact itr_fix t j
  have c : itr b L (j + i) S = T' := by rw [itr_add, e2]; exact itr_fix t' i
  rw [← a, ← c, Nat.add_comm]
theorem stp_0 {f m l : Nat} {u : Nat → Int} {σ : List Int} {φ : Int} : stp b L (0, f, m, l, u, σ, φ) = s0 b L f m l u σ := if_pos rfl
theorem stp_1 {f m l : Nat} {u : Nat → Int} {σ : List Int} {φ : Int} : stp b L (1, f, m, l, u, σ, φ) = s1 b L f m l u σ := rfl
theorem stp_2 {f m l : Nat} {u : Nat → Int} {σ : List Int} {φ : Int} : stp b L (2, f, m, l, u, σ, φ) = s2 b L f m l u σ := rfl
theorem stp_3 {f m l : Nat} {u : Nat → Int} {σ : List Int} {φ : Int} : stp b L (3, f, m, l, u, σ, φ) = s3 b L f m l u σ := rfl
theorem stp_4 {f m l : Nat} {u : Nat → Int} {σ : List Int} {φ : Int} : stp b L (4, f, m, l, u, σ, φ) = (4, f, m, l, u, σ, φ) := rfl
theorem stp_5 {φ : Int} : stp b L (flt φ) = flt φ := rfl
theorem flt_inj {φ φ' : Int} (h : flt φ = flt φ') : φ = φ' := by
  have : (flt φ).2.2.2.2.2.2 = (flt φ').2.2.2.2.2.2 := by rw [h]
  exact this
/-! what the steps keep -/
def dW (u : Nat → Int) (a l : Nat) (d : Int) : Prop := (∀ j, a + j < l → okc (dpt u a j) (u (a + j))) ∧ dpt u a (l - a) = d
theorem dpt_cg {u u' : Nat → Int} {a : Nat} : ∀ j : Nat, (∀ i, i < j → u' (a + i) = u (a + i)) → dpt u' a j = dpt u a j
  | 0, _ => rfl
  | j + 1, h => by
    unfold dpt
    rw [dpt_cg j (fun i hi => h i (by omega)), h j (by omega)]
theorem dW_put {u : Nat → Int} {a l : Nat} {d v : Int} (h : dW u a l d) (hal : a ≤ l) (hv : okc d v) : dW (upN u l v) a (l + 1) (nxd d v) := by
  obtain ⟨h1, h2⟩ := h
  have e : ∀ i, a + i < l → upN u l v (a + i) = u (a + i) := fun i hi => if_neg (by omega)
  have el : upN u l v (a + (l - a)) = v := by rw [show a + (l - a) = l by omega]; exact if_pos rfl
  have hd : ∀ j, a + j ≤ l → dpt (upN u l v) a j = dpt u a j := fun j hj => dpt_cg j (fun i hi => e i (by omega))
  refine ⟨fun j hj => ?_, ?_⟩
  · rw [hd j (by omega)]
    by_cases q : a + j = l
    · have : j = l - a := by omega
      rw [this, h2, el]; exact hv
    · rw [e j (by omega)]; exact h1 j (by omega)
  · rw [show l + 1 - a = (l - a) + 1 by omega]
    show nxd (dpt (upN u l v) a (l - a)) (upN u l v (a + (l - a))) = nxd d v
    rw [hd _ (by omega), h2, el]
def bse (σ : List Int) : Prop := ∀ x ∈ σ, x = 19 ∨ x = 20 ∨ x = 21 ∨ x = 91
def sC1 (σ : List Int) : Prop := bse σ ∨ (14 ≤ hd σ ∧ hd σ ≤ 18 ∧ bse σ.tail)
def sC2 (σ : List Int) : Prop := sC1 σ ∨ ((hd σ = 10 ∨ hd σ = 11) ∧ sC1 σ.tail)
def sC3 (σ : List Int) : Prop := sC2 σ ∨ ((hd σ = 12 ∨ hd σ = 13) ∧ sC2 σ.tail)
theorem bse_hd {σ : List Int} (h : bse σ) : hd σ = 0 ∨ hd σ = 19 ∨ hd σ = 20 ∨ hd σ = 21 ∨ hd σ = 91 := by
  cases σ with
  | nil => exact Or.inl rfl
  | cons x τ => exact Or.inr (h x List.mem_cons_self)
theorem bse_tl {σ : List Int} (h : bse σ) : bse σ.tail := by
  cases σ with
  | nil => exact h
  | cons x τ => exact fun y hy => h y (List.mem_cons_of_mem _ hy)
theorem hd_nz {σ : List Int} (h : hd σ ≠ 0) : σ = hd σ :: σ.tail := by
  cases σ with
  | nil => exact absurd rfl h
  | cons x τ => rfl
theorem nb_hd {σ : List Int} (h : hd σ ≠ 0) : nb σ = nb σ.tail + if 10 ≤ hd σ ∧ hd σ ≤ 20 then 1 else 0 := by
  cases σ with
  | nil => exact absurd rfl h
  | cons x τ => rfl
theorem len_hd {σ : List Int} (h : hd σ ≠ 0) : σ.length = σ.tail.length + 1 := by
  cases σ with
  | nil => exact absurd rfl h
  | cons x τ => rfl
theorem nb_nn : ∀ σ : List Int, 0 ≤ nb σ
  | [] => Int.le_refl _
  | x :: τ => by
    have := nb_nn τ
    unfold nb; split <;> omega
/-- the whole of it -/
def MIv (b : Nat → Int) (L a : Nat) (md f m l : Nat) (u : Nat → Int) (σ : List Int) : Prop :=
  f ≤ L ∧ run pB b L f = f ∧ l + σ.length ≤ f ∧ a ≤ l ∧ dW u a l (nb σ + if 2 ≤ md then 1 else 0) ∧ nb σ + (if 2 ≤ md then 1 else 0) ≤ (m : Int) ∧ m ≤ 60 ∧ ((md = 0 ∨ md = 3) → bse σ) ∧ ((md = 1 ∨ md = 2) → sC3 σ) ∧ (md = 4 → σ = [])
def MIS (b : Nat → Int) (L a : Nat) (S : St) : Prop := S.1 = 5 ∨ MIv b L a S.1 S.2.1 S.2.2.1 S.2.2.2.1 S.2.2.2.2.1 S.2.2.2.2.2.1
theorem vw_rng {f : Nat} : -1 ≤ vw b L f ∧ vw b L f ≤ 7 := by
  unfold vw
  by_cases h : wq b L f 13
  · rw [cI_t h]; omega
  rw [cI_f h]
  by_cases h : wq b L f 5
  · rw [cI_t h]; omega
  rw [cI_f h]
  by_cases h : wq b L f 0
  · rw [cI_t h]; omega
  rw [cI_f h]
  by_cases h : wq b L f 14
  · rw [cI_t h]; omega
  rw [cI_f h]
  by_cases h : wq b L f 15
  · rw [cI_t h]; omega
  rw [cI_f h]
  by_cases h : wq b L f 16
  · rw [cI_t h]; omega
  rw [cI_f h]
  by_cases h : wq b L f 17
  · rw [cI_t h]; omega
  rw [cI_f h]
  by_cases h : wq b L f 18
  · rw [cI_t h]; omega
  rw [cI_f h]; omega
theorem vw_lt {f : Nat} (h : 0 ≤ vw b L f) : f < L ∧ kd b L f = 1 := by
  have key : ∀ j, wq b L f j → f < L ∧ kd b L f = 1 := fun j w => ⟨(kd_1.mp w.1).1, w.1⟩
  unfold vw at h
  by_cases w : wq b L f 13
  · exact key _ w
  rw [cI_f w] at h
  by_cases w : wq b L f 5
  · exact key _ w
  rw [cI_f w] at h
  by_cases w : wq b L f 0
  · exact key _ w
  rw [cI_f w] at h
  by_cases w : wq b L f 14
  · exact key _ w
  rw [cI_f w] at h
  by_cases w : wq b L f 15
  · exact key _ w
  rw [cI_f w] at h
  by_cases w : wq b L f 16
  · exact key _ w
  rw [cI_f w] at h
  by_cases w : wq b L f 17
  · exact key _ w
  rw [cI_f w] at h
  by_cases w : wq b L f 18
  · exact key _ w
  rw [cI_f w] at h
  omega
theorem rk_lt {f : Nat} (h : rk b L f ≠ -1) : f < L := by
  unfold rk at h
  by_cases z : f < L
  · exact z
  · rw [if_neg z] at h; exact absurd rfl h
theorem cp_lt {f : Nat} (h : cp b L f ≠ -1) : f < L ∧ 14 ≤ cp b L f ∧ cp b L f ≤ 18 := by
  unfold cp at h ⊢
  by_cases z : f < L
  · rw [if_pos z] at h ⊢
    refine ⟨z, ?_⟩
    split
    · split <;> omega
    · split
      · omega
      · split
        · split <;> omega
        · rename_i x y w; rw [if_neg x, if_neg y, if_neg w] at h; exact absurd rfl h
  · rw [if_neg z] at h; exact absurd rfl h
theorem okc_bin {d c : Int} (h1 : 10 ≤ c) (h2 : c ≤ 20) (h3 : 2 ≤ d) (h4 : d ≤ 64) : okc d c := ⟨Or.inr (Or.inl ⟨h1, by omega⟩), fun z => by unfold isPush at z; omega, fun z => by omega, fun _ _ => h3, by omega, h4⟩
theorem nxd_bin {d c : Int} (h1 : 10 ≤ c) (h2 : c ≤ 20) : nxd d c = d - 1 := by unfold nxd; rw [if_neg (by omega), if_pos (by omega)]
/-- a waiting sign comes out -/
theorem MIv_pop {a md md' f m l : Nat} {u : Nat → Int} {σ : List Int} (h : MIv b L a md f m l u σ) (h1 : 10 ≤ hd σ) (h2 : hd σ ≤ 20) (hm : 2 ≤ md) (hm' : md' = 2 ∨ md' = 3) (hs : (md' = 3 → bse σ.tail) ∧ (md' = 2 → sC3 σ.tail)) : MIv b L a md' f m (l + 1) (upN u l (hd σ)) σ.tail := by
  obtain ⟨i1, i2, i3, i4, i5, i6, i7, -⟩ := h
  have hz : hd σ ≠ 0 := by omega
  have hl := len_hd hz
  have hn := nb_hd hz
  have := nb_nn σ.tail
  rw [if_pos hm] at i5 i6
  rw [if_pos ⟨h1, h2⟩] at hn
  refine ⟨i1, i2, by omega, by omega, ?_, ?_, i7, fun z => hs.1 (by omega), fun z => hs.2 (by omega), fun z => by omega⟩
  · rw [if_pos (by omega)]
    have := dW_put i5 i4 (okc_bin h1 h2 (by omega) (by omega))
    rw [nxd_bin h1 h2, show nb σ + 1 - 1 = nb σ.tail + 1 by omega] at this
    exact this
  · rw [if_pos (by omega)]; omega
theorem MIv_not {a f m l : Nat} {u : Nat → Int} {σ : List Int} (h : MIv b L a 3 f m l u σ) (h1 : hd σ = 21) : MIv b L a 3 f m (l + 1) (upN u l 21) σ.tail := by
  obtain ⟨i1, i2, i3, i4, i5, i6, i7, i8, -⟩ := h
  have hz : hd σ ≠ 0 := by omega
  have hl := len_hd hz
  have hn := nb_hd hz
  have := nb_nn σ.tail
  rw [if_pos (by decide)] at i5 i6
  rw [if_neg (by omega)] at hn
  refine ⟨i1, i2, by omega, by omega, ?_, ?_, i7, fun _ => bse_tl (i8 (Or.inr rfl)), fun z => by omega, fun z => by omega⟩
  · rw [if_pos (by decide)]
    have := dW_put (v := 21) i5 i4 ⟨Or.inr (Or.inl ⟨by omega, by omega⟩), fun z => by unfold isPush at z; omega, fun _ => by omega, fun _ z => by omega, by omega, by omega⟩
    have e : nxd (nb σ + 1) 21 = nb σ + 1 := by unfold nxd; rw [if_pos rfl]
    rw [e, show nb σ + 1 = nb σ.tail + 1 by omega] at this
    exact this
  · rw [if_pos (by decide)]; omega
/-- a sign waits -/
theorem MIv_push {a md md' f f' m m' l : Nat} {u : Nat → Int} {σ : List Int} {x : Int} (h : MIv b L a md f m l u σ) (hf : f' ≤ L) (hr : run pB b L f' = f') (hff : f < f') (hm' : md' = 0 ∨ md' = 1) (hmm : m ≤ m') (h60 : m' ≤ 60) (hx : (md < 2 ∧ ¬ (10 ≤ x ∧ x ≤ 20)) ∨ (2 ≤ md ∧ 10 ≤ x ∧ x ≤ 20)) (hs : (md' = 0 → bse (x :: σ)) ∧ (md' = 1 → sC3 (x :: σ))) : MIv b L a md' f' m' l u (x :: σ) := by
  obtain ⟨i1, i2, i3, i4, i5, i6, i7, -⟩ := h
  have e : nb (x :: σ) + (if 2 ≤ md' then 1 else 0) = nb σ + (if 2 ≤ md then 1 else 0) := by
    rw [if_neg (by omega)]
    show nb σ + (if 10 ≤ x ∧ x ≤ 20 then 1 else 0) + 0 = _
    rcases hx with ⟨q1, q2⟩ | ⟨q1, q2⟩
    · rw [if_neg q2, if_neg (by omega)]
      exact Int.add_zero _
    · rw [if_pos q2, if_pos q1]
      exact Int.add_zero _
  refine ⟨hf, hr, by show l + (σ.length + 1) ≤ f'; omega, i4, by rw [e]; exact i5, by rw [e]; omega, h60, fun z => hs.1 (by omega), fun z => hs.2 (by omega), fun z => by omega⟩
theorem MIv_val {a f m l : Nat} {u : Nat → Int} {σ : List Int} {v : Int} (h : MIv b L a 1 f m l u σ) (hf : f < L) (hm : m ≠ 60) (hv : (0 ≤ v ∧ v ≤ 7) ∨ (100 ≤ v ∧ v ≤ 100099)) : MIv b L a 2 (nx b L f) (m + 1) (l + 1) (upN u l v) σ := by
  obtain ⟨i1, i2, i3, i4, i5, i6, i7, -, i9, -⟩ := h
  obtain ⟨n1, n2, n3⟩ := nx_rng (b := b) i1
  have := n3 hf
  have := nb_nn σ
  rw [if_neg (by decide), Int.add_zero] at i5 i6
  refine ⟨n2, nx_tok i1, by omega, by omega, ?_, ?_, by omega, fun z => by omega, fun _ => i9 (Or.inl rfl), fun z => by omega⟩
  · rw [if_pos (by decide)]
    have := dW_put (v := v) i5 i4 ⟨by omega, fun _ => by omega, fun z => by omega, fun z y => by omega, by omega, by omega⟩
    have e : nxd (nb σ) v = nb σ + 1 := by unfold nxd; rw [if_neg (by omega), if_neg (by omega)]
    rw [e] at this; exact this
  · rw [if_pos (by decide)]; omega
theorem bse_cons {σ : List Int} {x : Int} (h : bse σ) (hx : x = 19 ∨ x = 20 ∨ x = 21 ∨ x = 91) : bse (x :: σ) := by
  intro y hy
  rcases List.mem_cons.mp hy with e | e
  · rw [e]; exact hx
  · exact h y e
theorem MIS_mk {a md f m l : Nat} {u : Nat → Int} {σ : List Int} {φ : Int} (h : MIv b L a md f m l u σ) : MIS b L a (md, f, m, l, u, σ, φ) := Or.inr h
theorem MIv_stp {a : Nat} {S : St} (h : MIS b L a S) : MIS b L a (stp b L S) := by
  obtain ⟨md, f, m, l, u, σ, φ⟩ := S
  rcases h with h | h
  · have : md = 5 := h
    subst this
    exact Or.inl rfl
  · change MIv b L a md f m l u σ at h
    have hh := h
    obtain ⟨i1, i2, i3, i4, i5, i6, i7, i8, i9, i10⟩ := hh
    obtain ⟨n1, n2, n3⟩ := nx_rng (b := b) i1
    have nt := nx_tok (b := b) i1
    have fl : ∀ φ, MIS b L a (flt φ) := fun φ => Or.inl rfl
    by_cases c0 : md = 0
    · subst c0
      rw [stp_0]
      unfold s0
      have hb := i8 (Or.inl rfl)
      by_cases w : wq b L f 12
      · rw [cI_t w]
        split
        · exact fl _
        · exact MIS_mk (MIv_push h n2 nt (n3 (kd_1.mp w.1).1) (Or.inl rfl) (Nat.le_refl _) i7 (Or.inl ⟨by decide, by decide⟩) ⟨fun _ => bse_cons hb (by simp), fun z => absurd z (by decide)⟩)
      · rw [cI_f w]
        split
        · rename_i q
          split
          · exact fl _
          · exact MIS_mk (MIv_push h n2 nt (n3 q.1) (Or.inl rfl) (Nat.le_refl _) i7 (Or.inl ⟨by decide, by decide⟩) ⟨fun _ => bse_cons hb (by simp), fun z => absurd z (by decide)⟩)
        · exact MIS_mk ⟨i1, i2, i3, i4, i5, i6, i7, fun z => by rcases z with z | z <;> exact absurd z (by decide), fun _ => Or.inl (Or.inl (Or.inl hb)), fun z => absurd z (by decide)⟩
    by_cases c1 : md = 1
    · subst c1
      rw [stp_1]
      unfold s1
      have hv := vw_rng (b := b) (L := L) (f := f)
      split
      · rename_i q
        split
        · exact fl _
        · rename_i q2
          exact MIS_mk (MIv_val h (vw_lt q).1 q2 (Or.inl ⟨q, hv.2⟩))
      · split
        · rename_i q q1
          split
          · exact fl _
          · rename_i q2
            obtain ⟨o1, o2, o3, o4⟩ := nF_ok q1
            exact MIS_mk (MIv_val h (kd_2.mp o1).1 q2 (Or.inr ⟨by omega, by omega⟩))
        · exact fl _
    by_cases c2 : md = 2
    · subst c2
      rw [stp_2]
      unfold s2
      have h3 := i9 (Or.inr rfl)
      split
      · rename_i q
        refine MIS_mk (MIv_pop h (by omega) (by omega) (by decide) (Or.inl rfl) ⟨fun z => absurd z (by decide), fun _ => ?_⟩)
        rcases h3 with z | ⟨-, z⟩
        · rcases z with z | ⟨z, -⟩
          · rcases z with z | ⟨z1, z2, -⟩
            · have := bse_hd z; omega
            · omega
          · omega
        · exact Or.inl z
      · rename_i q
        have hs2 : sC2 σ := by
          rcases h3 with z | ⟨z, -⟩
          · exact z
          · exact absurd z q
        split
        · rename_i r
          have hlt := rk_lt (b := b) (L := L) (f := f) (by omega)
          exact MIS_mk (MIv_push h n2 nt (n3 hlt) (Or.inr rfl) (Nat.le_refl _) i7 (Or.inr ⟨by decide, by omega, by omega⟩) ⟨fun z => absurd z (by decide), fun _ => Or.inr ⟨r, hs2⟩⟩)
        · rename_i r
          split
          · rename_i q1
            refine MIS_mk (MIv_pop h (by omega) (by omega) (by decide) (Or.inl rfl) ⟨fun z => absurd z (by decide), fun _ => ?_⟩)
            rcases hs2 with z | ⟨-, z⟩
            · rcases z with z | ⟨z1, z2, -⟩
              · have := bse_hd z; omega
              · omega
            · exact Or.inl (Or.inl z)
          · rename_i q1
            have hs1 : sC1 σ := by
              rcases hs2 with z | ⟨z, -⟩
              · exact z
              · exact absurd z q1
            split
            · rename_i r1
              have hlt := rk_lt (b := b) (L := L) (f := f) (by omega)
              exact MIS_mk (MIv_push h n2 nt (n3 hlt) (Or.inr rfl) (Nat.le_refl _) i7 (Or.inr ⟨by decide, by omega, by omega⟩) ⟨fun z => absurd z (by decide), fun _ => Or.inl (Or.inr ⟨r1, hs1⟩)⟩)
            · split
              · rename_i q2
                refine MIS_mk (MIv_pop h (by omega) (by omega) (by decide) (Or.inr rfl) ⟨fun _ => ?_, fun z => absurd z (by decide)⟩)
                rcases hs1 with z | ⟨-, -, z⟩
                · have := bse_hd z; omega
                · exact z
              · rename_i q2
                have hs0 : bse σ := by
                  rcases hs1 with z | ⟨z1, z2, -⟩
                  · exact z
                  · exact absurd ⟨z1, z2⟩ q2
                split
                · exact fl _
                · rename_i q3
                  obtain ⟨p1, p2, p3⟩ := cp_lt q3
                  split
                  · exact fl _
                  · exact MIS_mk (MIv_push h n2 nt (n3 p1) (Or.inr rfl) (Nat.le_succ _) (by omega) (Or.inr ⟨by decide, by omega, by omega⟩) ⟨fun z => absurd z (by decide), fun _ => Or.inl (Or.inl (Or.inr ⟨p2, p3, hs0⟩))⟩)
    by_cases c3 : md = 3
    · subst c3
      rw [stp_3]
      unfold s3
      have hb := i8 (Or.inr rfl)
      have hbh := bse_hd hb
      split
      · rename_i q
        rcases q with q | q
        · have := MIv_not h q
          rw [q]
          exact MIS_mk this
        · exact MIS_mk (MIv_pop h (by omega) (by omega) (by decide) (Or.inr rfl) ⟨fun _ => bse_tl hb, fun z => absurd z (by decide)⟩)
      · rename_i q
        by_cases w : wq b L f 11
        · rw [cI_t w]
          exact MIS_mk (MIv_push h n2 nt (n3 (kd_1.mp w.1).1) (Or.inl rfl) (Nat.le_refl _) i7 (Or.inr ⟨by decide, by decide, by decide⟩) ⟨fun _ => bse_cons hb (by simp), fun z => absurd z (by decide)⟩)
        · rw [cI_f w]
          split
          · rename_i q1
            have := MIv_pop h (md' := 3) (by omega) (by omega) (by decide) (Or.inr rfl) ⟨fun _ => bse_tl hb, fun z => absurd z (by decide)⟩
            rw [q1] at this
            exact MIS_mk this
          · rename_i q1
            by_cases w2 : wq b L f 10
            · rw [cI_t w2]
              exact MIS_mk (MIv_push h n2 nt (n3 (kd_1.mp w2.1).1) (Or.inl rfl) (Nat.le_refl _) i7 (Or.inr ⟨by decide, by decide, by decide⟩) ⟨fun _ => bse_cons hb (by simp), fun z => absurd z (by decide)⟩)
            · rw [cI_f w2]
              split
              · rename_i q2
                split
                · rename_i q3
                  have hz : hd σ ≠ 0 := by omega
                  have hl := len_hd hz
                  have hn := nb_hd hz
                  rw [if_neg (by omega), Int.add_zero] at hn
                  refine MIS_mk ⟨n2, nt, by show l + σ.tail.length ≤ nx b L f; omega, i4, by show dW u a l (nb σ.tail + _); rw [← hn]; exact i5, by show nb σ.tail + _ ≤ _; rw [← hn]; exact i6, i7, fun _ => bse_tl hb, fun z => by rcases z with z | z <;> exact absurd z (by decide), fun z => absurd z (by decide)⟩
                · exact fl _
              · rename_i q2
                refine MIS_mk ⟨i1, i2, i3, i4, i5, i6, i7, fun z => by rcases z with z | z <;> exact absurd z (by decide), fun z => by rcases z with z | z <;> exact absurd z (by decide), fun _ => ?_⟩
                have h0 : hd σ = 0 := by omega
                cases σ with
                | nil => rfl
                | cons x τ =>
                  have := hb x List.mem_cons_self
                  have e : hd (x :: τ) = x := rfl
                  rw [e] at h0; omega
    · have : stp b L (md, f, m, l, u, σ, φ) = (md, f, m, l, u, σ, φ) := (if_neg c0).trans ((if_neg c1).trans ((if_neg c2).trans (if_neg c3)))
      rw [this]; exact Or.inr h
theorem MIv_Rc {a : Nat} {S S' : St} (h : MIS b L a S) (r : Rc b L S S') : MIS b L a S' := by
  obtain ⟨k, e⟩ := r
  subst e
  induction k generalizing S with
  | zero => exact h
  | succ k ih => exact ih (MIv_stp h)
theorem MIv_of {a : Nat} {md f m l : Nat} {u : Nat → Int} {σ : List Int} {φ : Int} (h : MIS b L a (md, f, m, l, u, σ, φ)) (h5 : md ≠ 5) : MIv b L a md f m l u σ := h.elim (fun z => absurd z h5) id
end MAC
