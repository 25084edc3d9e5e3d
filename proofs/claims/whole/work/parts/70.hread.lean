/-! ===== a house's text: what it tells; the class's reader ===== -/
section HSP
variable {b : Nat → Int} {L f : Nat} {h : Int → Int}
noncomputable def cI {α : Type} (p : Prop) (a c : α) : α := @ite α p (Classical.propDecidable p) a c
theorem cI_t {α : Type} {p : Prop} {a c : α} (h : p) : cI p a c = a := if_pos h
theorem cI_f {α : Type} {p : Prop} {a c : α} (h : ¬ p) : cI p a c = c := if_neg h
abbrev HS : Type := Int × Nat × (Int → Int)
def HOKr (s : Int → Int) : Prop :=
  0 ≤ s 0 ∧ s 0 ≤ 16 ∧ 0 ≤ s 1 ∧ s 1 ≤ 24 ∧ 0 ≤ s 2 ∧ s 2 ≤ 8 ∧
  ((s 4 = 0 ∧ s 5 = 0 ∧ s 6 = 0) ∨ (1 ≤ s 4 ∧ s 4 ≤ 60 ∧ 1 ≤ s 5 ∧ s 5 ≤ 9 ∧ 1 ≤ s 6 ∧ s 6 ≤ 120)) ∧
  (∀ r : Int, 0 ≤ r → r < s 0 → 0 ≤ s (12 + r) ∧ s (12 + r) ≤ 40) ∧
  (∀ w : Int, 0 ≤ w → w < s 1 → (0 ≤ s (28 + 6 * w + 0) ∧ s (28 + 6 * w + 0) < s 0) ∧ (0 ≤ s (28 + 6 * w + 1) ∧ s (28 + 6 * w + 1) < s 0) ∧ (1 ≤ s (28 + 6 * w + 2) ∧ s (28 + 6 * w + 2) ≤ 60) ∧
    ((s (28 + 6 * w + 3) = 0 ∧ s (12 + s (28 + 6 * w + 1)) < s (12 + s (28 + 6 * w + 0))) ∨ (s (28 + 6 * w + 3) = 1 ∧ s (28 + 6 * w + 0) ≠ s (28 + 6 * w + 1) ∧ s (12 + s (28 + 6 * w + 1)) = s (12 + s (28 + 6 * w + 0)))) ∧
    ((s (28 + 6 * w + 4) = -1 ∧ s (28 + 6 * w + 5) = -1) ∨ (0 ≤ s (28 + 6 * w + 4) ∧ s (28 + 6 * w + 4) ≤ s (28 + 6 * w + 5) ∧ s (28 + 6 * w + 5) ≤ 1439))) ∧
  (∀ p : Int, 0 ≤ p → p < s 2 → 0 ≤ s (172 + 5 * p + 1) ∧ s (172 + 5 * p + 1) < s 0)
theorem HOKr.ok (K : HOKr h) (h0 : h 0 ≠ 0) : HOK h := by
  obtain ⟨k1, k2, k3, k4, k5, k6, k8, k9, k10, k11⟩ := K
  exact ⟨k1, k2, k3, k4, k5, k6, fun z => absurd z h0, k8, k9, k10, k11⟩
/-- the clauses: a fault or 0, the next piece, the house -/
def rmA (h : Int → Int) (v : Int) : Int → Int := us (us h (12 + h 0) v) 0 (h 0 + 1)
def pRoom (b : Nat → Int) (L f : Nat) (h : Int → Int) : HS := if nF b L f 0 40 = 0 then (0, nx b L f, rmA h (nv b L f)) else (nF b L f 0 40, f, h)
def jns (h : Int → Int) (a c q : Int) : Prop := (q = 0 → h (12 + c) < h (12 + a)) ∧ (q ≠ 0 → a ≠ c ∧ h (12 + a) = h (12 + c))
def wyA (h : Int → Int) (a c m q : Int) : Int → Int := us (us (us (us (us (us (us h (28 + 6 * h 1 + 0) a) (28 + 6 * h 1 + 1) c) (28 + 6 * h 1 + 2) m) (28 + 6 * h 1 + 3) q) (28 + 6 * h 1 + 4) (-1)) (28 + 6 * h 1 + 5) (-1)) 1 (h 1 + 1)
noncomputable def pWay (b : Nat → Int) (L f : Nat) (h : Int → Int) (q : Int) : HS :=
  if nF b L f 0 (h 0 - 1) = 0 then
    (if nF b L (nx b L f) 0 (h 0 - 1) = 0 then
      cI (jns h (nv b L f) (nv b L (nx b L f)) q)
        (if nF b L (nx b L (nx b L f)) 1 60 = 0 then (0, nx b L (nx b L (nx b L f)), wyA h (nv b L f) (nv b L (nx b L f)) (nv b L (nx b L (nx b L f))) q) else (nF b L (nx b L (nx b L f)) 1 60, f, h))
        (1 + 8 * ((nx b L f : Nat) : Int) + 1, f, h)
    else (nF b L (nx b L f) 0 (h 0 - 1), f, h))
  else (nF b L f 0 (h 0 - 1), f, h)
def drA (h : Int → Int) (w a c : Int) : Int → Int := us (us h (28 + 6 * w + 4) a) (28 + 6 * w + 5) c
def pDoor (b : Nat → Int) (L f : Nat) (h : Int → Int) : HS :=
  if nF b L f 0 (h 1 - 1) = 0 then
    (if nF b L (nx b L f) 0 1439 = 0 then
      (if nF b L (nx b L (nx b L f)) (nv b L (nx b L f)) 1439 = 0 then (0, nx b L (nx b L (nx b L f)), drA h (nv b L f) (nv b L (nx b L f)) (nv b L (nx b L (nx b L f)))) else (nF b L (nx b L (nx b L f)) (nv b L (nx b L f)) 1439, f, h))
    else (nF b L (nx b L f) 0 1439, f, h))
  else (nF b L f 0 (h 1 - 1), f, h)
def hoA (h : Int → Int) (a c e : Int) : Int → Int := us (us (us h 4 a) 5 c) 6 e
def pHoist (b : Nat → Int) (L f : Nat) (h : Int → Int) : HS :=
  if nF b L f 1 60 = 0 then
    (if nF b L (nx b L f) 1 9 = 0 then
      (if nF b L (nx b L (nx b L f)) 1 120 = 0 then (0, nx b L (nx b L (nx b L f)), hoA h (nv b L f) (nv b L (nx b L f)) (nv b L (nx b L (nx b L f)))) else (nF b L (nx b L (nx b L f)) 1 120, f, h))
    else (nF b L (nx b L f) 1 9, f, h))
  else (nF b L f 1 60, f, h)
def peA (h : Int → Int) (v : Int) : Int → Int := us (us h (172 + 5 * h 2 + 1) v) 2 (h 2 + 1)
def pPerson (b : Nat → Int) (L f : Nat) (h : Int → Int) : HS := if nF b L f 0 (h 0 - 1) = 0 then (0, nx b L f, peA h (nv b L f)) else (nF b L f 0 (h 0 - 1), f, h)
def tooM (f : Nat) (h : Int → Int) : HS := (1 + 8 * (f : Int) + 4, f, h)
noncomputable def pCl (b : Nat → Int) (L f : Nat) (c : Nat) (h : Int → Int) : HS :=
  cI (wq b L f 0) (cI (h 0 = 16 ∨ c = 40) (tooM f h) (pRoom b L (nx b L f) h))
  (cI (wq b L f 1) (cI (h 1 = 24 ∨ c = 40) (tooM f h) (pWay b L (nx b L f) h 0))
  (cI (wq b L f 2) (cI (h 1 = 24 ∨ c = 40) (tooM f h) (pWay b L (nx b L f) h 1))
  (cI (wq b L f 3) (cI (False ∨ c = 40) (tooM f h) (pDoor b L (nx b L f) h))
  (cI (wq b L f 4) (cI (h 6 ≠ 0 ∨ c = 40) (tooM f h) (pHoist b L (nx b L f) h))
  (cI (wq b L f 5) (cI (h 2 = 8 ∨ c = 40) (tooM f h) (pPerson b L (nx b L f) h))
  (1 + 8 * (f : Int) + 0, f, h))))))
/-! what they keep -/
theorem nx2 (hf : f ≤ L) : nx b L f ≤ L := (nx_rng hf).2.1
theorem rmA_ok (K : HOKr h) (h16 : h 0 < 16) {v : Int} (v0 : 0 ≤ v) (v1 : v ≤ 40) : HOKr (rmA h v) := by
  obtain ⟨k1, k2, k3, k4, k5, k6, k8, k9, k10, k11⟩ := K
  have e0 : rmA h v 0 = h 0 + 1 := us_at
  have ei : ∀ i, i ≠ 0 → i ≠ 12 + h 0 → rmA h v i = h i := fun i a c => by unfold rmA; rw [us_ne a, us_ne c]
  have en : rmA h v (12 + h 0) = v := by unfold rmA; rw [us_ne (by omega), us_at]
  unfold HOKr
  rw [e0, ei 1 (by omega) (by omega), ei 2 (by omega) (by omega), ei 4 (by omega) (by omega), ei 5 (by omega) (by omega), ei 6 (by omega) (by omega)]
  refine ⟨by omega, by omega, k3, k4, k5, k6, k8, fun r r1 r2 => ?_, fun w w1 w2 => ?_, fun p p1 p2 => ?_⟩
  · by_cases e : r = h 0
    · rw [e, en]; exact ⟨v0, v1⟩
    · rw [ei (12 + r) (by omega) (by omega)]; exact k9 r r1 (by omega)
  · obtain ⟨a, c, d, e, g⟩ := k10 w w1 w2
    rw [ei (28 + 6 * w + 0) (by omega) (by omega), ei (28 + 6 * w + 1) (by omega) (by omega), ei (28 + 6 * w + 2) (by omega) (by omega), ei (28 + 6 * w + 3) (by omega) (by omega), ei (28 + 6 * w + 4) (by omega) (by omega), ei (28 + 6 * w + 5) (by omega) (by omega), ei (12 + h (28 + 6 * w + 0)) (by omega) (by omega), ei (12 + h (28 + 6 * w + 1)) (by omega) (by omega)]
    exact ⟨⟨a.1, by omega⟩, ⟨c.1, by omega⟩, d, e, g⟩
  · rw [ei (172 + 5 * p + 1) (by omega) (by omega)]
    have := k11 p p1 p2
    exact ⟨this.1, by omega⟩
theorem wyA_i {a c m q i : Int} (h1 : i ≠ 1) (h2 : i < 28 + 6 * h 1 ∨ 28 + 6 * h 1 + 5 < i) : wyA h a c m q i = h i := by
  unfold wyA; rw [us_ne h1, us_ne (by omega), us_ne (by omega), us_ne (by omega), us_ne (by omega), us_ne (by omega), us_ne (by omega)]
theorem wyA_at {a c m q : Int} (k3 : 0 ≤ h 1) : wyA h a c m q 1 = h 1 + 1 ∧ wyA h a c m q (28 + 6 * h 1 + 0) = a ∧ wyA h a c m q (28 + 6 * h 1 + 1) = c ∧ wyA h a c m q (28 + 6 * h 1 + 2) = m ∧ wyA h a c m q (28 + 6 * h 1 + 3) = q ∧ wyA h a c m q (28 + 6 * h 1 + 4) = -1 ∧ wyA h a c m q (28 + 6 * h 1 + 5) = -1 := by
  refine ⟨us_at, ?_, ?_, ?_, ?_, ?_, ?_⟩ <;> unfold wyA
  · rw [us_ne (by omega), us_ne (by omega), us_ne (by omega), us_ne (by omega), us_ne (by omega), us_ne (by omega), us_at]
  · rw [us_ne (by omega), us_ne (by omega), us_ne (by omega), us_ne (by omega), us_ne (by omega), us_at]
  · rw [us_ne (by omega), us_ne (by omega), us_ne (by omega), us_ne (by omega), us_at]
  · rw [us_ne (by omega), us_ne (by omega), us_ne (by omega), us_at]
  · rw [us_ne (by omega), us_ne (by omega), us_at]
  · rw [us_ne (by omega), us_at]
theorem wyA_ok (K : HOKr h) (h24 : h 1 < 24) {a c m q : Int} (a0 : 0 ≤ a) (a1 : a < h 0) (c0 : 0 ≤ c) (c1 : c < h 0) (m0 : 1 ≤ m) (m1 : m ≤ 60) (q01 : q = 0 ∨ q = 1) (hj : jns h a c q) : HOKr (wyA h a c m q) := by
  obtain ⟨k1, k2, k3, k4, k5, k6, k8, k9, k10, k11⟩ := K
  obtain ⟨e1, z0, z1, z2, z3, z4, z5⟩ := wyA_at (h := h) (a := a) (c := c) (m := m) (q := q) k3
  have ei : ∀ i, i ≠ 1 → (i < 28 + 6 * h 1 ∨ 28 + 6 * h 1 + 5 < i) → wyA h a c m q i = h i := fun i x y => wyA_i x y
  unfold HOKr
  rw [e1, ei 0 (by omega) (by omega), ei 2 (by omega) (by omega), ei 4 (by omega) (by omega), ei 5 (by omega) (by omega), ei 6 (by omega) (by omega)]
  refine ⟨k1, k2, by omega, by omega, k5, k6, k8, fun r r1 r2 => ?_, fun w w1 w2 => ?_, fun p p1 p2 => ?_⟩
  · rw [ei (12 + r) (by omega) (by omega)]; exact k9 r r1 r2
  · by_cases e : w = h 1
    · subst e
      rw [z0, z1, z2, z3, z4, z5, ei (12 + a) (by omega) (by omega), ei (12 + c) (by omega) (by omega)]
      refine ⟨⟨a0, a1⟩, ⟨c0, c1⟩, ⟨m0, m1⟩, ?_, Or.inl ⟨rfl, rfl⟩⟩
      rcases q01 with q | q
      · exact Or.inl ⟨q, hj.1 q⟩
      · exact Or.inr ⟨q, (hj.2 (by omega)).1, (hj.2 (by omega)).2.symm⟩
    · obtain ⟨x1, x2, x3, x4, x5⟩ := k10 w w1 (by omega)
      rw [ei (28 + 6 * w + 0) (by omega) (by omega), ei (28 + 6 * w + 1) (by omega) (by omega), ei (28 + 6 * w + 2) (by omega) (by omega), ei (28 + 6 * w + 3) (by omega) (by omega), ei (28 + 6 * w + 4) (by omega) (by omega), ei (28 + 6 * w + 5) (by omega) (by omega), ei (12 + h (28 + 6 * w + 0)) (by omega) (by omega), ei (12 + h (28 + 6 * w + 1)) (by omega) (by omega)]
      exact ⟨x1, x2, x3, x4, x5⟩
  · rw [ei (172 + 5 * p + 1) (by omega) (by omega)]; exact k11 p p1 p2
theorem drA_i {w a c i : Int} (h4 : i ≠ 28 + 6 * w + 4) (h5 : i ≠ 28 + 6 * w + 5) : drA h w a c i = h i := by
  unfold drA; rw [us_ne h5, us_ne h4]
theorem drA_at {w a c : Int} : drA h w a c (28 + 6 * w + 4) = a ∧ drA h w a c (28 + 6 * w + 5) = c := by
  refine ⟨?_, us_at⟩; unfold drA; rw [us_ne (by omega), us_at]
theorem drA_ok (K : HOKr h) {w a c : Int} (w0 : 0 ≤ w) (w1 : w < h 1) (a0 : 0 ≤ a) (ac : a ≤ c) (c1 : c ≤ 1439) : HOKr (drA h w a c) := by
  obtain ⟨k1, k2, k3, k4, k5, k6, k8, k9, k10, k11⟩ := K
  obtain ⟨z4, z5⟩ := drA_at (h := h) (w := w) (a := a) (c := c)
  have ei : ∀ i, i ≠ 28 + 6 * w + 4 → i ≠ 28 + 6 * w + 5 → drA h w a c i = h i := fun i x y => drA_i x y
  unfold HOKr
  rw [ei 0 (by omega) (by omega), ei 1 (by omega) (by omega), ei 2 (by omega) (by omega), ei 4 (by omega) (by omega), ei 5 (by omega) (by omega), ei 6 (by omega) (by omega)]
  refine ⟨k1, k2, k3, k4, k5, k6, k8, fun r r1 r2 => ?_, fun v v1 v2 => ?_, fun p p1 p2 => ?_⟩
  · rw [ei (12 + r) (by omega) (by omega)]; exact k9 r r1 r2
  · obtain ⟨x1, x2, x3, x4, x5⟩ := k10 v v1 v2
    rw [ei (28 + 6 * v + 0) (by omega) (by omega), ei (28 + 6 * v + 1) (by omega) (by omega), ei (28 + 6 * v + 2) (by omega) (by omega), ei (28 + 6 * v + 3) (by omega) (by omega), ei (12 + h (28 + 6 * v + 0)) (by omega) (by omega), ei (12 + h (28 + 6 * v + 1)) (by omega) (by omega)]
    refine ⟨x1, x2, x3, x4, ?_⟩
    by_cases e : v = w
    · rw [e, z4, z5]; exact Or.inr ⟨a0, ac, c1⟩
    · rw [ei (28 + 6 * v + 4) (by omega) (by omega), ei (28 + 6 * v + 5) (by omega) (by omega)]; exact x5
  · rw [ei (172 + 5 * p + 1) (by omega) (by omega)]; exact k11 p p1 p2
theorem hoA_i {a c e i : Int} (h4 : i ≠ 4) (h5 : i ≠ 5) (h6 : i ≠ 6) : hoA h a c e i = h i := by
  unfold hoA; rw [us_ne h6, us_ne h5, us_ne h4]
theorem hoA_at {a c e : Int} : hoA h a c e 4 = a ∧ hoA h a c e 5 = c ∧ hoA h a c e 6 = e := by
  refine ⟨?_, ?_, us_at⟩ <;> unfold hoA
  · rw [us_ne (by omega), us_ne (by omega), us_at]
  · rw [us_ne (by omega), us_at]
theorem hoA_ok (K : HOKr h) {a c e : Int} (a0 : 1 ≤ a) (a1 : a ≤ 60) (c0 : 1 ≤ c) (c1 : c ≤ 9) (e0 : 1 ≤ e) (e1 : e ≤ 120) : HOKr (hoA h a c e) := by
  obtain ⟨k1, k2, k3, k4, k5, k6, k8, k9, k10, k11⟩ := K
  obtain ⟨z4, z5, z6⟩ := hoA_at (h := h) (a := a) (c := c) (e := e)
  have ei : ∀ i, i ≠ 4 → i ≠ 5 → i ≠ 6 → hoA h a c e i = h i := fun i x y z => hoA_i x y z
  unfold HOKr
  rw [ei 0 (by omega) (by omega) (by omega), ei 1 (by omega) (by omega) (by omega), ei 2 (by omega) (by omega) (by omega), z4, z5, z6]
  refine ⟨k1, k2, k3, k4, k5, k6, Or.inr ⟨a0, a1, c0, c1, e0, e1⟩, fun r r1 r2 => ?_, fun v v1 v2 => ?_, fun p p1 p2 => ?_⟩
  · rw [ei (12 + r) (by omega) (by omega) (by omega)]; exact k9 r r1 r2
  · obtain ⟨x1, x2, x3, x4, x5⟩ := k10 v v1 v2
    rw [ei (28 + 6 * v + 0) (by omega) (by omega) (by omega), ei (28 + 6 * v + 1) (by omega) (by omega) (by omega), ei (28 + 6 * v + 2) (by omega) (by omega) (by omega), ei (28 + 6 * v + 3) (by omega) (by omega) (by omega), ei (28 + 6 * v + 4) (by omega) (by omega) (by omega), ei (28 + 6 * v + 5) (by omega) (by omega) (by omega), ei (12 + h (28 + 6 * v + 0)) (by omega) (by omega) (by omega), ei (12 + h (28 + 6 * v + 1)) (by omega) (by omega) (by omega)]
    exact ⟨x1, x2, x3, x4, x5⟩
  · rw [ei (172 + 5 * p + 1) (by omega) (by omega) (by omega)]; exact k11 p p1 p2
theorem peA_i {v i : Int} (h1 : i ≠ 2) (h2 : i ≠ 172 + 5 * h 2 + 1) : peA h v i = h i := by
  unfold peA; rw [us_ne h1, us_ne h2]
theorem peA_ok (K : HOKr h) (h8 : h 2 < 8) {v : Int} (v0 : 0 ≤ v) (v1 : v < h 0) : HOKr (peA h v) := by
  obtain ⟨k1, k2, k3, k4, k5, k6, k8, k9, k10, k11⟩ := K
  have e2 : peA h v 2 = h 2 + 1 := us_at
  have en : peA h v (172 + 5 * h 2 + 1) = v := by unfold peA; rw [us_ne (by omega), us_at]
  have ei : ∀ i, i ≠ 2 → i ≠ 172 + 5 * h 2 + 1 → peA h v i = h i := fun i x y => peA_i x y
  unfold HOKr
  rw [e2, ei 0 (by omega) (by omega), ei 1 (by omega) (by omega), ei 4 (by omega) (by omega), ei 5 (by omega) (by omega), ei 6 (by omega) (by omega)]
  refine ⟨k1, k2, k3, k4, by omega, by omega, k8, fun r r1 r2 => ?_, fun w w1 w2 => ?_, fun p p1 p2 => ?_⟩
  · rw [ei (12 + r) (by omega) (by omega)]; exact k9 r r1 r2
  · obtain ⟨x1, x2, x3, x4, x5⟩ := k10 w w1 w2
    rw [ei (28 + 6 * w + 0) (by omega) (by omega), ei (28 + 6 * w + 1) (by omega) (by omega), ei (28 + 6 * w + 2) (by omega) (by omega), ei (28 + 6 * w + 3) (by omega) (by omega), ei (28 + 6 * w + 4) (by omega) (by omega), ei (28 + 6 * w + 5) (by omega) (by omega), ei (12 + h (28 + 6 * w + 0)) (by omega) (by omega), ei (12 + h (28 + 6 * w + 1)) (by omega) (by omega)]
    exact ⟨x1, x2, x3, x4, x5⟩
  · by_cases e : p = h 2
    · rw [e, en]; exact ⟨v0, v1⟩
    · rw [ei (172 + 5 * p + 1) (by omega) (by omega)]; exact k11 p p1 (by omega)
/-- what the clauses keep -/
theorem pRoom_ok (K : HOKr h) (h16 : h 0 < 16) (hf : f ≤ L) (e : (pRoom b L f h).1 = 0) : HOKr (pRoom b L f h).2.2 ∧ (pRoom b L f h).2.1 ≤ L ∧ run pB b L (pRoom b L f h).2.1 = (pRoom b L f h).2.1 := by
  unfold pRoom at e ⊢
  by_cases z : nF b L f 0 40 = 0
  · rw [if_pos z] at e ⊢
    obtain ⟨-, -, v0, v1⟩ := nF_ok z
    exact ⟨rmA_ok K h16 v0 v1, nx2 hf, nx_tok hf⟩
  · rw [if_neg z] at e; exact absurd e z
theorem pWay_ok {q : Int} (K : HOKr h) (h24 : h 1 < 24) (hq : q = 0 ∨ q = 1) (hf : f ≤ L) (e : (pWay b L f h q).1 = 0) : HOKr (pWay b L f h q).2.2 ∧ (pWay b L f h q).2.1 ≤ L ∧ run pB b L (pWay b L f h q).2.1 = (pWay b L f h q).2.1 := by
  unfold pWay at e ⊢
  by_cases z : nF b L f 0 (h 0 - 1) = 0
  · rw [if_pos z] at e ⊢
    by_cases z2 : nF b L (nx b L f) 0 (h 0 - 1) = 0
    · rw [if_pos z2] at e ⊢
      by_cases z3 : jns h (nv b L f) (nv b L (nx b L f)) q
      · rw [cI_t z3] at e ⊢
        by_cases z4 : nF b L (nx b L (nx b L f)) 1 60 = 0
        · rw [if_pos z4] at e ⊢
          obtain ⟨-, -, a0, a1⟩ := nF_ok z
          obtain ⟨-, -, c0, c1⟩ := nF_ok z2
          obtain ⟨-, -, m0, m1⟩ := nF_ok z4
          exact ⟨wyA_ok K h24 a0 (by omega) c0 (by omega) m0 m1 hq z3, nx2 (nx2 (nx2 hf)), nx_tok (nx2 (nx2 hf))⟩
        · rw [if_neg z4] at e; exact absurd e z4
      · rw [cI_f z3] at e; exact absurd e (by show ¬ (1 + 8 * ((nx b L f : Nat) : Int) + 1 = 0); omega)
    · rw [if_neg z2] at e; exact absurd e z2
  · rw [if_neg z] at e; exact absurd e z
theorem pDoor_ok (K : HOKr h) (hf : f ≤ L) (e : (pDoor b L f h).1 = 0) : HOKr (pDoor b L f h).2.2 ∧ (pDoor b L f h).2.1 ≤ L ∧ run pB b L (pDoor b L f h).2.1 = (pDoor b L f h).2.1 := by
  unfold pDoor at e ⊢
  by_cases z : nF b L f 0 (h 1 - 1) = 0
  · rw [if_pos z] at e ⊢
    by_cases z2 : nF b L (nx b L f) 0 1439 = 0
    · rw [if_pos z2] at e ⊢
      by_cases z4 : nF b L (nx b L (nx b L f)) (nv b L (nx b L f)) 1439 = 0
      · rw [if_pos z4] at e ⊢
        obtain ⟨-, -, a0, a1⟩ := nF_ok z
        obtain ⟨-, -, c0, c1⟩ := nF_ok z2
        obtain ⟨-, -, m0, m1⟩ := nF_ok z4
        exact ⟨drA_ok K a0 (by omega) c0 m0 m1, nx2 (nx2 (nx2 hf)), nx_tok (nx2 (nx2 hf))⟩
      · rw [if_neg z4] at e; exact absurd e z4
    · rw [if_neg z2] at e; exact absurd e z2
  · rw [if_neg z] at e; exact absurd e z
theorem pHoist_ok (K : HOKr h) (hf : f ≤ L) (e : (pHoist b L f h).1 = 0) : HOKr (pHoist b L f h).2.2 ∧ (pHoist b L f h).2.1 ≤ L ∧ run pB b L (pHoist b L f h).2.1 = (pHoist b L f h).2.1 := by
  unfold pHoist at e ⊢
  by_cases z : nF b L f 1 60 = 0
  · rw [if_pos z] at e ⊢
    by_cases z2 : nF b L (nx b L f) 1 9 = 0
    · rw [if_pos z2] at e ⊢
      by_cases z4 : nF b L (nx b L (nx b L f)) 1 120 = 0
      · rw [if_pos z4] at e ⊢
        obtain ⟨-, -, a0, a1⟩ := nF_ok z
        obtain ⟨-, -, c0, c1⟩ := nF_ok z2
        obtain ⟨-, -, m0, m1⟩ := nF_ok z4
        exact ⟨hoA_ok K a0 a1 c0 c1 m0 m1, nx2 (nx2 (nx2 hf)), nx_tok (nx2 (nx2 hf))⟩
      · rw [if_neg z4] at e; exact absurd e z4
    · rw [if_neg z2] at e; exact absurd e z2
  · rw [if_neg z] at e; exact absurd e z
theorem pPerson_ok (K : HOKr h) (h8 : h 2 < 8) (hf : f ≤ L) (e : (pPerson b L f h).1 = 0) : HOKr (pPerson b L f h).2.2 ∧ (pPerson b L f h).2.1 ≤ L ∧ run pB b L (pPerson b L f h).2.1 = (pPerson b L f h).2.1 := by
  unfold pPerson at e ⊢
  by_cases z : nF b L f 0 (h 0 - 1) = 0
  · rw [if_pos z] at e ⊢
    obtain ⟨-, -, v0, v1⟩ := nF_ok z
    exact ⟨peA_ok K h8 v0 (by omega), nx2 hf, nx_tok hf⟩
  · rw [if_neg z] at e; exact absurd e z
end HSP
/-! the class's reader -/
section HRC
variable {G : Gx} {n : Nat} {M : Mem} {b : Nat → Int} {L f : Nat} {h : Int → Int}
abbrev rdF : List (Nat × Nat) := (2, 7) :: tkF
/-- nothing changes but the draft and what the tape notes -/
def EqR (M M' : Mem) : Prop := ∀ o k i, o ≠ 7 → (o, k) ∉ rdF → M' o k i = M o k i
theorem EqR.rf : EqR M M := fun _ _ _ _ _ => rfl
theorem EqR.trans {M1 M2 : Mem} (a : EqR M M1) (c : EqR M1 M2) : EqR M M2 := fun o k i x y => (c o k i x y).trans (a o k i x y)
theorem EqR.of {l : List (Nat × Nat)} {M' : Mem} (e : EqX l M M') (hs : ∀ c ∈ l, c ∈ rdF) : EqR M M' := fun o k i _ y => e o k i (fun z => y (hs _ z))
theorem EqR.mset {k i : Nat} {x : Int} : EqR M (mset M 7 k i x) := fun o _ _ a _ => mset_ne (fun z => a z.1)
def HRd (F : Nat → Nat → Int) (h : Int → Int) : Prop := HR F h ∧ (h 0 = 0 → F 3 0 = 0)
theorem HRd.top {F : Nat → Nat → Int} (H : HRd F h) (K : HOKr h) : 0 ≤ F 3 0 ∧ F 3 0 < 16 ∧ (0 < h 0 → isTop h (F 3 0)) := by
  by_cases z : h 0 = 0
  · rw [H.2 z]; exact ⟨by omega, by omega, fun q => by omega⟩
  · have := H.1.2.2.2.2.2.2.2.2.2 (by have := K.1; omega)
    exact ⟨this.1, by have := this.2.1; have := K.2.1; omega, fun _ => this⟩
theorem HRd_eq {M' : Mem} {l : List (Nat × Nat)} (H : HRd (M 7) h) (e : EqX l M M') (hn : ∀ c ∈ l, c.1 ≠ 7) : HRd (M' 7) h := by
  rw [e.obj hn]; exact H
theorem c2_readRoom {Q : Int → Mem → Prop} (T : Tk b L M f) (H : HRd (M 7) h) (K : HOKr h) (h16 : h 0 < 16) (ht : (pRoom b L f h).1 = 0 → ∀ M', EqR M M' → Tk b L M' (pRoom b L f h).2.1 → HRd (M' 7) (pRoom b L f h).2.2 → Q 1 M') (hf : (pRoom b L f h).1 ≠ 0 → ∀ M', EqR M M' → M' 2 7 0 = (pRoom b L f h).1 → Q 0 M') : OkI G (n + 3) mX2_readRoom [vO 14] M Q := by
  obtain ⟨k1, k2, -⟩ := id K
  have e0 : M 7 0 0 = h 0 := H.1.1
  obtain ⟨t0, t1, t2⟩ := H.top K
  unfold pRoom at ht hf
  refine eX2_readRoom (fun Kx => bX2_readRoom_0 (c9_isNumber T (fun z => ⟨fun w => absurd w (by decide), fun _ => ?_⟩) (fun z M1 e1 g => ⟨fun _ => ?_, fun w => absurd rfl w⟩)))
  · rw [if_pos z] at ht
    rw [e0]
    obtain ⟨hk, -, v0, v1⟩ := nF_ok z
    refine ⟨fun _ => c9_take T hk (fun M2 e2 T2 => ⟨⟨k1, h16⟩, fun M3 m3 M4 m4 => ?_⟩), fun w => absurd h16 w⟩
    have a7 : ∀ k i, M2 7 k i = M 7 k i := fun k i => by rw [e2.obj (o := 7) (by decide)]
    have a30 : M3 7 0 0 = h 0 := by rw [m3, mset_ne (by simp), a7]; exact e0
    rw [a30, wrs (x := h 0 + 1) (by omega) (by omega)] at m4
    have b0 : M4 7 0 0 = h 0 + 1 := by rw [m4, mset_self]
    have b3 : M4 7 3 0 = M 7 3 0 := by rw [m4, mset_ne (by simp), m3, mset_ne (by simp), a7]
    have b7 : ∀ i, M4 7 7 i = if i = (h 0).toNat then nv b L f else M 7 7 i := fun i => by rw [m4, mset_ne (by simp), m3, mset_fn, a7]
    have bo : ∀ k i, k ≠ 0 → k ≠ 7 → M4 7 k i = M 7 k i := fun k i x y => by rw [m4, mset_ne (fun z => x z.2.1), m3, mset_ne (fun z => y z.2.1), a7]
    have hE : EqR M M4 := by rw [m4, m3]; exact ((EqR.of e2 (by decide)).trans EqR.mset).trans EqR.mset
    have hT : Tk b L M4 (nx b L f) := by rw [m4, m3]; exact (T2.mset (by decide)).mset (by decide)
    rw [b0, b3, show h 0 + 1 - 1 = h 0 by omega, wrs (x := h 0) (by omega) (by omega), b7, b7, if_pos rfl]
    obtain ⟨c0, c1, c2, c4, c5, c6, d1, d2, d3, d4⟩ := id H.1
    have r0 : rmA h (nv b L f) 0 = h 0 + 1 := us_at
    have ri : ∀ i, i ≠ 0 → i ≠ 12 + h 0 → rmA h (nv b L f) i = h i := fun i a c => by unfold rmA; rw [us_ne a, us_ne c]
    have rn : rmA h (nv b L f) (12 + h 0) = nv b L f := by unfold rmA; rw [us_ne (by omega), us_at]
    -- the new house, but for its top
    have mk : ∀ M' : Mem, (∀ k i, k ≠ 3 → M' 7 k i = M4 7 k i) → isTop (rmA h (nv b L f)) (M' 7 3 0) → HRd (M' 7) (rmA h (nv b L f)) := by
      intro M' e' tp
      refine ⟨⟨?_, ?_, ?_, ?_, ?_, ?_, fun r r1 r2 => ?_, fun w w1 w2 => ?_, fun p p1 p2 => ?_, fun _ => tp⟩, fun z => by rw [r0] at z; omega⟩
      · rw [e' 0 0 (by decide), b0, r0]
      · rw [e' 1 0 (by decide), bo 1 0 (by decide) (by decide), ri 1 (by omega) (by omega)]; exact c1
      · rw [e' 2 0 (by decide), bo 2 0 (by decide) (by decide), ri 2 (by omega) (by omega)]; exact c2
      · rw [e' 4 0 (by decide), bo 4 0 (by decide) (by decide), ri 4 (by omega) (by omega)]; exact c4
      · rw [e' 5 0 (by decide), bo 5 0 (by decide) (by decide), ri 5 (by omega) (by omega)]; exact c5
      · rw [e' 6 0 (by decide), bo 6 0 (by decide) (by decide), ri 6 (by omega) (by omega)]; exact c6
      · rw [r0] at r2
        rw [e' 7 _ (by decide), b7]
        by_cases q : r = h 0
        · rw [q, if_pos rfl, rn]
        · rw [if_neg (by omega), ri (12 + r) (by omega) (by omega)]; exact d1 r r1 (by omega)
      · rw [ri 1 (by omega) (by omega)] at w2
        have := K.2.2.2.1
        rw [e' 8 _ (by decide), e' 9 _ (by decide), e' 10 _ (by decide), e' 11 _ (by decide), e' 12 _ (by decide), e' 13 _ (by decide), bo 8 _ (by decide) (by decide), bo 9 _ (by decide) (by decide), bo 10 _ (by decide) (by decide), bo 11 _ (by decide) (by decide), bo 12 _ (by decide) (by decide), bo 13 _ (by decide) (by decide), ri (28 + 6 * w + 0) (by omega) (by omega), ri (28 + 6 * w + 1) (by omega) (by omega), ri (28 + 6 * w + 2) (by omega) (by omega), ri (28 + 6 * w + 3) (by omega) (by omega), ri (28 + 6 * w + 4) (by omega) (by omega), ri (28 + 6 * w + 5) (by omega) (by omega)]
        exact d2 w w1 w2
      · rw [ri 2 (by omega) (by omega)] at p2
        rw [e' 14 _ (by decide), bo 14 _ (by decide) (by decide), ri (172 + 5 * p + 1) (by omega) (by omega)]; exact d3 p p1 p2
    refine ⟨⟨k1, h16⟩, ⟨t0, t1⟩, fun w => ?_, fun w M5 m5 => ?_⟩
    · refine ht rfl M4 hE hT (mk M4 (fun _ _ _ => rfl) ?_)
      rw [b3]
      refine ⟨t0, by rw [r0]; by_cases q : h 0 = 0; rw [H.2 q]; omega; have := (t2 (by omega)).2.1; omega, fun r r1 r2 => ?_, fun r r1 r2 => ?_⟩
      · rw [r0] at r2
        by_cases q : h 0 = 0
        · have er : r = 0 := by omega
          rw [H.2 q, er]; omega
        · have tp := t2 (by omega)
          have hne : ¬ (M 7 3 0).toNat = (h 0).toNat := by have := tp.2.1; omega
          rw [if_neg hne, d1 _ t0 tp.2.1] at w
          rw [ri (12 + M 7 3 0) (by omega) (by have := tp.2.1; omega)]
          by_cases e : r = h 0
          · rw [e, rn]; exact w
          · rw [ri (12 + r) (by omega) (by omega)]; exact tp.2.2.1 r r1 (by omega)
      · by_cases q : h 0 = 0
        · rw [H.2 q] at r2; omega
        · have tp := t2 (by omega)
          have := tp.2.1
          rw [ri (12 + M 7 3 0) (by omega) (by omega), ri (12 + r) (by omega) (by omega)]
          exact tp.2.2.2 r r1 r2
    · refine ht rfl M5 (by rw [m5]; exact hE.trans EqR.mset) (by rw [m5]; exact hT.mset (by decide)) (mk M5 (fun k i x => by rw [m5, mset_ne (fun z => x z.2.1)]) ?_)
      have g3 : M5 7 3 0 = h 0 := by rw [m5, mset_self]
      rw [g3]
      have hq : h 0 ≠ 0 := by
        intro q
        rw [H.2 q, q, if_pos rfl] at w
        exact w (Int.le_refl _)
      have tp := t2 (by omega)
      have hne : ¬ (M 7 3 0).toNat = (h 0).toNat := by have := tp.2.1; omega
      rw [if_neg hne, d1 _ t0 tp.2.1] at w
      refine ⟨k1, by rw [r0]; omega, fun r r1 r2 => ?_, fun r r1 r2 => ?_⟩
      · rw [r0] at r2
        rw [rn]
        by_cases e : r = h 0
        · rw [e, rn]; exact Int.le_refl _
        · rw [ri (12 + r) (by omega) (by omega)]
          have := tp.2.2.1 r r1 (by omega); omega
      · rw [rn, ri (12 + r) (by omega) (by omega)]
        have := tp.2.2.1 r r1 r2; omega
  · rw [if_neg z] at hf
    exact hf z M1 (EqR.of e1 (by decide)) g
end HRC
