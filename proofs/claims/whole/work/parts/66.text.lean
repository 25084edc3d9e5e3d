/-! ===== texts: pieces, numbers, words: the mathematics ===== -/
section TXT
variable {p : Int → Bool} {b : Nat → Int} {L : Nat}
def runF (p : Int → Bool) (b : Nat → Int) : Nat → Nat → Nat
  | 0, i => i
  | f + 1, i => if p (b i) = true then runF p b f (i + 1) else i
/-- the end of the run of such bytes from i on -/
def run (p : Int → Bool) (b : Nat → Int) (L i : Nat) : Nat := runF p b (L - i) i
theorem run_end {i : Nat} (h : L ≤ i) : run p b L i = i := by
  unfold run; rw [show L - i = 0 by omega]; rfl
theorem run_off {i : Nat} (h : ¬ p (b i) = true) : run p b L i = i := by
  unfold run
  cases L - i with
  | zero => rfl
  | succ k => show (if p (b i) = true then _ else i) = i; rw [if_neg h]
theorem run_on {i : Nat} (hi : i < L) (h : p (b i) = true) : run p b L i = run p b L (i + 1) := by
  unfold run
  rw [show L - i = (L - (i + 1)) + 1 by omega]
  show (if p (b i) = true then _ else i) = _
  rw [if_pos h]
theorem run_all : ∀ (k i : Nat), L - i ≤ k → (i ≤ run p b L i ∧ (i ≤ L → run p b L i ≤ L) ∧ (run p b L i < L → ¬ p (b (run p b L i)) = true) ∧ ∀ j, i ≤ j → j < run p b L i → p (b j) = true) := by
  intro k
  induction k with
  | zero =>
    intro i hi
    rw [run_end (by omega)]
    exact ⟨by omega, fun h => h, fun h => by omega, fun j a c => by omega⟩
  | succ k ih =>
    intro i hi
    by_cases h : i < L ∧ p (b i) = true
    · rw [run_on h.1 h.2]
      obtain ⟨a, c, d, e⟩ := ih (i + 1) (by omega)
      refine ⟨by omega, fun _ => c (by omega), d, fun j j1 j2 => ?_⟩
      by_cases q : j = i
      · rw [q]; exact h.2
      · exact e j (by omega) j2
    · by_cases q : i < L
      · have h2 : ¬ p (b i) = true := fun z => h ⟨q, z⟩
        rw [run_off h2]
        exact ⟨by omega, fun h => h, fun _ => h2, fun j a c => by omega⟩
      · rw [run_end (by omega)]
        exact ⟨by omega, fun h => h, fun h => by omega, fun j a c => by omega⟩
theorem run_ge {i : Nat} : i ≤ run p b L i := (run_all (L - i) i (Nat.le_refl _)).1
theorem run_le {i : Nat} (h : i ≤ L) : run p b L i ≤ L := (run_all (L - i) i (Nat.le_refl _)).2.1 h
theorem run_stop {i : Nat} (h : run p b L i < L) : ¬ p (b (run p b L i)) = true := (run_all (L - i) i (Nat.le_refl _)).2.2.1 h
theorem run_in {i j : Nat} (h1 : i ≤ j) (h2 : j < run p b L i) : p (b j) = true := (run_all (L - i) i (Nat.le_refl _)).2.2.2 j h1 h2
theorem run_run {i : Nat} (hi : i ≤ L) : run p b L (run p b L i) = run p b L i := by
  by_cases h : run p b L i < L
  · exact run_off (run_stop h)
  · exact run_end (by omega)
def pB (c : Int) : Bool := decide (c = 32)
def pL (c : Int) : Bool := decide (97 ≤ c ∧ c ≤ 122)
def pD (c : Int) : Bool := decide (48 ≤ c ∧ c ≤ 57)
theorem pB_iff {c : Int} : pB c = true ↔ c = 32 := by unfold pB; simp
theorem pL_iff {c : Int} : pL c = true ↔ 97 ≤ c ∧ c ≤ 122 := by unfold pL; simp
theorem pD_iff {c : Int} : pD c = true ↔ 48 ≤ c ∧ c ≤ 57 := by unfold pD; simp
/-- the piece at f: its kind, its end, the next one's start -/
def kd (b : Nat → Int) (L f : Nat) : Int := if L ≤ f then 0 else if pL (b f) = true then 1 else if pD (b f) = true then 2 else 3
def bh (b : Nat → Int) (L f : Nat) : Nat := if L ≤ f then f else if pL (b f) = true then run pL b L f else if pD (b f) = true then run pD b L f else if (b f = 60 ∨ b f = 62) ∧ f + 1 < L ∧ b (f + 1) = 61 then f + 2 else f + 1
def nx (b : Nat → Int) (L f : Nat) : Nat := run pB b L (bh b L f)
theorem kd_0 {f : Nat} : kd b L f = 0 ↔ L ≤ f := by
  unfold kd
  constructor
  · intro h; apply Classical.byContradiction; intro z; rw [if_neg z] at h
    split at h
    · omega
    · split at h <;> omega
  · intro h; rw [if_pos h]
theorem kd_1 {f : Nat} : kd b L f = 1 ↔ f < L ∧ pL (b f) = true := by
  unfold kd
  constructor
  · intro h
    split at h
    · omega
    · split at h
      · rename_i a c; exact ⟨by omega, c⟩
      · split at h <;> omega
  · intro h; rw [if_neg (by omega), if_pos h.2]
theorem pLD {c : Int} (h : pL c = true) : ¬ pD c = true := by
  rw [pL_iff] at h; rw [pD_iff]; omega
theorem kd_2 {f : Nat} : kd b L f = 2 ↔ f < L ∧ pD (b f) = true := by
  unfold kd
  constructor
  · intro h
    split at h
    · omega
    · split at h
      · omega
      · split at h
        · rename_i a c d; exact ⟨by omega, d⟩
        · omega
  · intro h
    rw [if_neg (by omega), if_neg (fun z => pLD z h.2), if_pos h.2]
theorem kd_3 {f : Nat} : kd b L f = 3 ↔ f < L ∧ ¬ pL (b f) = true ∧ ¬ pD (b f) = true := by
  unfold kd
  constructor
  · intro h
    split at h
    · omega
    · split at h
      · omega
      · split at h
        · omega
        · rename_i a c d; exact ⟨by omega, c, d⟩
  · intro h; rw [if_neg (by omega), if_neg h.2.1, if_neg h.2.2]
theorem bh_rng {f : Nat} (h : f ≤ L) : f ≤ bh b L f ∧ bh b L f ≤ L ∧ (f < L → f < bh b L f) := by
  unfold bh
  by_cases h0 : L ≤ f
  · rw [if_pos h0]; exact ⟨by omega, by omega, by omega⟩
  · rw [if_neg h0]
    by_cases h1 : pL (b f) = true
    · rw [if_pos h1, run_on (by omega) h1]
      have := run_ge (p := pL) (b := b) (L := L) (i := f + 1)
      have := run_le (p := pL) (b := b) (L := L) (i := f + 1) (by omega)
      omega
    · rw [if_neg h1]
      by_cases h2 : pD (b f) = true
      · rw [if_pos h2, run_on (by omega) h2]
        have := run_ge (p := pD) (b := b) (L := L) (i := f + 1)
        have := run_le (p := pD) (b := b) (L := L) (i := f + 1) (by omega)
        omega
      · rw [if_neg h2]
        split <;> omega
theorem nx_rng {f : Nat} (h : f ≤ L) : f ≤ nx b L f ∧ nx b L f ≤ L ∧ (f < L → f < nx b L f) := by
  obtain ⟨a, c, d⟩ := bh_rng (b := b) h
  have h1 := run_ge (p := pB) (b := b) (L := L) (i := bh b L f)
  have h2 := run_le (p := pB) (b := b) (L := L) (i := bh b L f) c
  unfold nx
  exact ⟨by omega, h2, fun z => by have := d z; omega⟩
theorem nx_tok {f : Nat} (h : f ≤ L) : run pB b L (nx b L f) = nx b L f := run_run (bh_rng h).2.1
/-- the number that begins at f, of so many digits -/
def nvF (b : Nat → Int) (f : Nat) : Nat → Int
  | 0 => 0
  | k + 1 => nvF b f k * 10 + b (f + k) - 48
def dg (b : Nat → Int) (L f : Nat) : Nat := run pD b L f - f
def nv (b : Nat → Int) (L f : Nat) : Int := nvF b f (if dg b L f ≤ 5 then dg b L f else 5)
theorem nvF_rng {f : Nat} : ∀ k : Nat, (∀ j, f ≤ j → j < f + k → pD (b j) = true) → k ≤ 5 → 0 ≤ nvF b f k ∧ nvF b f k ≤ 99999 ∧ (k ≤ 4 → nvF b f k ≤ 9999) ∧ (k ≤ 3 → nvF b f k ≤ 999) ∧ (k ≤ 2 → nvF b f k ≤ 99) ∧ (k ≤ 1 → nvF b f k ≤ 9) ∧ (k ≤ 0 → nvF b f k ≤ 0)
  | 0, _, _ => by unfold nvF; omega
  | k + 1, h, hk => by
    have ih := nvF_rng k (fun j a c => h j a (by omega)) (by omega)
    have hd := pD_iff.mp (h (f + k) (by omega) (by omega))
    unfold nvF
    omega
theorem nv_rng {f : Nat} : 0 ≤ nv b L f ∧ nv b L f ≤ 99999 := by
  unfold nv
  have h : ∀ j, f ≤ j → j < f + (if dg b L f ≤ 5 then dg b L f else 5) → pD (b j) = true := fun j a c => by
    refine run_in (L := L) (i := f) a ?_
    unfold dg at c
    split at c <;> omega
  have := nvF_rng (if dg b L f ≤ 5 then dg b L f else 5) h (by split <;> omega)
  exact ⟨this.1, this.2.1⟩
/-- a number at f from lo to hi: 0, or the fault -/
def nF (b : Nat → Int) (L f : Nat) (lo hi : Int) : Int := if kd b L f = 2 then (if dg b L f ≤ 5 ∧ lo ≤ nv b L f ∧ nv b L f ≤ hi then 0 else 1 + 8 * (f : Int) + 1) else 1 + 8 * (f : Int) + 0
theorem nF_pos {f : Nat} {lo hi : Int} (h : nF b L f lo hi ≠ 0) : 1 ≤ nF b L f lo hi := by
  unfold nF at h ⊢
  split
  · split <;> omega
  · omega
theorem nF_ok {f : Nat} {lo hi : Int} (h : nF b L f lo hi = 0) : kd b L f = 2 ∧ dg b L f ≤ 5 ∧ lo ≤ nv b L f ∧ nv b L f ≤ hi := by
  unfold nF at h
  split at h
  · split at h
    · rename_i a c; exact ⟨a, c⟩
    · omega
  · omega
/-- the words -/
def wSt : List (List Int) := [[114, 111, 111, 109], [102, 108, 105, 103, 104, 116], [112, 97, 115, 115, 97, 103, 101], [100, 111, 111, 114], [104, 111, 105, 115, 116], [112, 101, 114, 115, 111, 110], [105, 102], [116, 97, 107, 101], [114, 105, 100, 101], [119, 97, 105, 116], [111, 114], [97, 110, 100], [110, 111, 116], [110, 111, 119], [104, 101, 105, 103, 104, 116], [104, 101, 114, 101], [114, 111, 100, 101], [104, 111, 109, 101], [116, 111, 112]]
def wI (j : Nat) : List Int := wSt.getD j []
def wdAt (b : Nat → Int) (L f : Nat) (w : List Int) : Prop := kd b L f = 1 ∧ run pL b L f = f + w.length ∧ ∀ k, k < w.length → b (f + k) = w.getD k 0
def wq (b : Nat → Int) (L f j : Nat) : Prop := wdAt b L f (wI j)
theorem wdAt_one {f : Nat} {w w' : List Int} (h : wdAt b L f w) (h' : wdAt b L f w') : w = w' := by
  have e : w.length = w'.length := by have := h.2.1; have := h'.2.1; omega
  apply List.ext_getElem e
  intro k k1 k2
  have a := h.2.2 k k1
  have c := h'.2.2 k k2
  rw [List.getD_eq_getElem?_getD, List.getElem?_eq_getElem k1] at a
  rw [List.getD_eq_getElem?_getD, List.getElem?_eq_getElem k2] at c
  exact a.symm.trans c
theorem wq_one {f i j : Nat} (hi : wI i ≠ wI j) (h : wq b L f i) : ¬ wq b L f j := fun z => hi (wdAt_one h z)
/-- the word's number, as the reference makes it -/
def wv (b : Nat → Int) (f : Nat) : Nat → Int
  | 0 => 0
  | k + 1 => wv b f k * 256 + b (f + k)
theorem wv_pos {f : Nat} : ∀ k : Nat, (∀ j, j < k → 1 ≤ b (f + j) ∧ b (f + j) ≤ 255) → 0 ≤ wv b f k ∧ (0 < k → 1 ≤ wv b f k)
  | 0, _ => ⟨Int.le_refl _, fun h => by omega⟩
  | k + 1, h => by
    have ih := wv_pos k (fun j hj => h j (by omega))
    have := h k (by omega)
    unfold wv
    exact ⟨by omega, fun _ => by omega⟩
theorem wv_inj {c : Nat → Int} {f g : Nat} : ∀ (k m : Nat), (∀ j, j < k → 1 ≤ b (f + j) ∧ b (f + j) ≤ 255) → (∀ j, j < m → 1 ≤ c (g + j) ∧ c (g + j) ≤ 255) → wv b f k = wv c g m → k = m ∧ ∀ j, j < k → b (f + j) = c (g + j)
  | 0, 0, _, _, _ => ⟨rfl, fun j hj => by omega⟩
  | 0, m + 1, _, h2, e => by
    have := (wv_pos (m + 1) h2).2 (by omega)
    rw [← e] at this
    exact absurd this (by show ¬ (1 : Int) ≤ 0; omega)
  | k + 1, 0, h1, _, e => by
    have := (wv_pos (k + 1) h1).2 (by omega)
    rw [e] at this
    exact absurd this (by show ¬ (1 : Int) ≤ 0; omega)
  | k + 1, m + 1, h1, h2, e => by
    have q1 := h1 k (by omega)
    have q2 := h2 m (by omega)
    unfold wv at e
    have e1 : wv b f k = wv c g m := by omega
    have e2 : b (f + k) = c (g + m) := by omega
    obtain ⟨r1, r2⟩ := wv_inj k m (fun j hj => h1 j (by omega)) (fun j hj => h2 j (by omega)) e1
    subst r1
    refine ⟨rfl, fun j hj => ?_⟩
    by_cases q : j = k
    · rw [q]; exact e2
    · exact r2 j (by omega)
def wN (w : List Int) : Int := wv (fun k => w.getD k 0) 0 w.length
/-- a word's number tells the word -/
theorem wv_word {f : Nat} {w : List Int} (hw : ∀ k, k < w.length → 97 ≤ w.getD k 0 ∧ w.getD k 0 ≤ 122) (hl : 0 < w.length) (hL : ∀ j, f ≤ j → j < run pL b L f → pL (b j) = true) : wdAt b L f w ↔ (0 < run pL b L f - f ∧ wv b f (run pL b L f - f) = wN w) := by
  have hge := run_ge (p := pL) (b := b) (L := L) (i := f)
  constructor
  · rintro ⟨h1, h2, h3⟩
    have e : run pL b L f - f = w.length := by omega
    refine ⟨by omega, ?_⟩
    rw [e]
    unfold wN
    have : ∀ k, k ≤ w.length → wv b f k = wv (fun k => w.getD k 0) 0 k := by
      intro k
      induction k with
      | zero => intro _; rfl
      | succ k ih =>
        intro hk
        unfold wv
        rw [ih (by omega), h3 k (by omega)]
        simp
    exact this _ (Nat.le_refl _)
  · rintro ⟨h1, h2⟩
    have hb : ∀ j, j < run pL b L f - f → 1 ≤ b (f + j) ∧ b (f + j) ≤ 255 := fun j hj => by
      have := pL_iff.mp (hL (f + j) (by omega) (by omega)); omega
    have hc : ∀ j, j < w.length → 1 ≤ (fun k => w.getD k 0) (0 + j) ∧ (fun k => w.getD k 0) (0 + j) ≤ 255 := fun j hj => by
      have := hw j hj
      simp only [Nat.zero_add]; omega
    obtain ⟨e1, e2⟩ := wv_inj _ _ hb hc h2
    have hf : f < L := by
      apply Classical.byContradiction
      intro z
      rw [run_end (by omega)] at h1; omega
    refine ⟨kd_1.mpr ⟨hf, hL f (Nat.le_refl _) (by omega)⟩, by omega, fun k hk => ?_⟩
    have := e2 k (by omega)
    simpa using this
end TXT
