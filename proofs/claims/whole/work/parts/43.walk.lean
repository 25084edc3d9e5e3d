/-! ===== trips: the mathematics ===== -/
section WK
variable {s : Int → Int} {g th : Int}
/-- from room r, at minute m, one still comes to g by th, without the hoist -/
def Cn (s : Int → Int) (g th : Int) : Nat → Int → Int → Prop
  | 0 => fun r m => r = g ∧ m ≤ th
  | k + 1 => fun r m => Cn s g th k r m ∨ ∃ w, 0 ≤ w ∧ w < s 1 ∧ 0 ≤ endW s w r ∧ opW s w m ≤ 1439 ∧ Cn s g th k (endW s w r) (opW s w m + s (28 + 6 * w + 2))
def Can (s : Int → Int) (g th r m : Int) : Prop := ∃ k, Cn s g th k r m
theorem opW_ge2 {w m : Int} (h5 : opW s w m ≤ 1439) : m ≤ opW s w m := by
  unfold opW at *
  split at h5
  · rename_i z; rw [if_pos z]; exact Int.le_refl _
  · rename_i z
    rw [if_neg z]
    split at h5
    · rename_i y; rw [if_pos y]; split <;> omega
    · omega
theorem Cn_le (K : HOK s) : ∀ (k : Nat) (r m : Int), Cn s g th k r m → m ≤ th
  | 0, _, _, h => h.2
  | k + 1, r, m, h => by
    rcases h with h | ⟨w, w1, w2, w3, w4, w5⟩
    · exact Cn_le K k r m h
    · have := Cn_le K k _ _ w5
      have := opW_ge2 w4
      have := (K.way w1 w2).2.2.1
      omega
theorem Cn_mono (K : HOK s) : ∀ (k : Nat) (r m m0 : Int), m0 ≤ m → Cn s g th k r m → Cn s g th k r m0
  | 0, _, _, _, hm, h => ⟨h.1, Int.le_trans hm h.2⟩
  | k + 1, r, m, m0, hm, h => by
    rcases h with h | ⟨w, w1, w2, w3, w4, w5⟩
    · exact Or.inl (Cn_mono K k r m m0 hm h)
    · have := opW_mono (s := s) (w := w) hm w4
      exact Or.inr ⟨w, w1, w2, w3, by omega, Cn_mono K k _ _ _ (by omega) w5⟩
theorem Can_le (K : HOK s) {r m : Int} (h : Can s g th r m) : m ≤ th := by obtain ⟨k, hk⟩ := h; exact Cn_le K k r m hk
theorem Can_mono (K : HOK s) {r m m0 : Int} (hm : m0 ≤ m) (h : Can s g th r m) : Can s g th r m0 := by obtain ⟨k, hk⟩ := h; exact ⟨k, Cn_mono K k r m m0 hm hk⟩
theorem Can_by {r m w : Int} (w1 : 0 ≤ w) (w2 : w < s 1) (w3 : 0 ≤ endW s w r) (w4 : opW s w m ≤ 1439) (h : Can s g th (endW s w r) (opW s w m + s (28 + 6 * w + 2))) : Can s g th r m := by
  obtain ⟨k, hk⟩ := h
  exact ⟨k + 1, Or.inr ⟨w, w1, w2, w3, w4, hk⟩⟩
theorem Can_next : ∀ {r m : Int}, Can s g th r m → r = g ∨ ∃ w, 0 ≤ w ∧ w < s 1 ∧ 0 ≤ endW s w r ∧ opW s w m ≤ 1439 ∧ Can s g th (endW s w r) (opW s w m + s (28 + 6 * w + 2)) := by
  intro r m h
  obtain ⟨k, hk⟩ := h
  induction k with
  | zero => exact Or.inl hk.1
  | succ k ih =>
    rcases hk with hk | ⟨w, w1, w2, w3, w4, w5⟩
    · exact ih hk
    · exact Or.inr ⟨w, w1, w2, w3, w4, k, w5⟩
/-! with the table of the soonest -/
theorem Rn_u {r m : Int} : ∀ (k : Nat) (x u y : Int), Rn s (src1 r 1 m) k x u y → u = 1
  | 0, x, u, y, h => h.2.1
  | k + 1, x, u, y, h => by
    rcases h with h | ⟨r0, u0, m0, h1, h2, h3⟩
    · exact Rn_u k x u y h
    · have := Rn_u k r0 u0 m0 h1
      rcases h2 with ⟨a, -⟩ | ⟨a, -⟩
      · omega
      · omega
theorem Rch_trans {S : Src} {e m1 : Int} (h1 : Rch s S e 1 m1) : ∀ (k : Nat) (x u y : Int), Rn s (src1 e 1 m1) k x u y → Rch s S x u y
  | 0, x, u, y, h => by obtain ⟨rfl, rfl, rfl⟩ := h; exact h1
  | k + 1, x, u, y, h => by
    rcases h with h | ⟨r0, u0, m0, a, b, c⟩
    · exact Rch_trans h1 k x u y h
    · exact Rch_step (Rch_trans h1 k r0 u0 m0 a) b c
theorem Cn_Rch (K : HOK s) (h9 : th ≤ 1439) : ∀ (k : Nat) (r m : Int), Cn s g th k r m → ∃ y, y ≤ th ∧ Rch s (src1 r 1 m) g 1 y
  | 0, r, m, h => ⟨m, h.2, by rw [← h.1]; exact Rch_src ⟨rfl, rfl, rfl⟩⟩
  | k + 1, r, m, h => by
    rcases h with h | ⟨w, w1, w2, w3, w4, w5⟩
    · exact Cn_Rch K h9 k r m h
    · obtain ⟨y, y1, j, y2⟩ := Cn_Rch K h9 k _ _ w5
      have hle := Cn_le K k _ _ w5
      exact ⟨y, y1, Rch_trans (Rch_step (Rch_src ⟨rfl, rfl, rfl⟩) (Or.inl ⟨rfl, w3, w, w1, w2, rfl, w4, rfl⟩) (by omega)) j _ _ _ y2⟩
theorem Rn_Can {r m : Int} : ∀ (k : Nat) (x u y : Int), Rn s (src1 r 1 m) k x u y → Can s g th x y → Can s g th r m
  | 0, x, u, y, h, hc => by obtain ⟨rfl, rfl, rfl⟩ := h; exact hc
  | k + 1, x, u, y, h, hc => by
    rcases h with h | ⟨r0, u0, m0, a, b, c⟩
    · exact Rn_Can k x u y h hc
    · have hu := Rn_u k _ _ _ a
      rcases b with ⟨-, b2, w, w1, w2, w3, w4, w5⟩ | ⟨b1, -⟩
      · subst w3 w5
        exact Rn_Can k r0 u0 m0 a (Can_by w1 w2 b2 w4 hc)
      · omega
theorem Can_iff (K : HOK s) (h9 : th ≤ 1439) {r m : Int} : Can s g th r m ↔ ∃ y, y ≤ th ∧ Rch s (src1 r 1 m) g 1 y :=
  ⟨fun ⟨k, hk⟩ => Cn_Rch K h9 k r m hk, fun ⟨y, y1, k, hk⟩ => Rn_Can k _ _ _ hk ⟨0, rfl, y1⟩⟩
theorem so_reach {D : Tb} {r m : Int} (hT : Tab s (src1 r 1 m) D) (hg : 0 ≤ g ∧ g < s 0) (h : so D g ≤ 1439) : Rch s (src1 r 1 m) g 1 (so D g) := by
  have v0 : VN s g 0 := ⟨hg.1, hg.2, Or.inl rfl⟩
  have v1 : VN s g 1 := ⟨hg.1, hg.2, Or.inr rfl⟩
  have n0 : 1439 < D g 0 := by
    apply Classical.byContradiction
    intro z
    obtain ⟨k, hk⟩ := hT.1 g 0 v0 (by omega)
    exact absurd (Rn_u k _ _ _ hk) (by decide)
  have e : so D g = D g 1 := by
    unfold so at *
    split at h
    · split at h
      · rename_i a b; rw [if_pos a, if_pos b]
      · omega
    · omega
  rw [e] at h ⊢
  exact hT.1 g 1 v1 h
theorem so_least {D : Tb} {r m y : Int} (hT : Tab s (src1 r 1 m) D) (hg : 0 ≤ g ∧ g < s 0) (h9 : y ≤ 1439) (h : Rch s (src1 r 1 m) g 1 y) : so D g ≤ y := by
  have := hT.2 g 1 ⟨hg.1, hg.2, Or.inr rfl⟩ y h
  unfold so
  by_cases z : D g 1 ≤ D g 0
  · rw [if_pos z, if_pos (by omega)]; exact this
  · rw [if_neg z, if_pos (by omega)]; omega
/-- no sooner than th -/
def LB (s : Int → Int) (g th r m : Int) : Prop := ∀ y, Rch s (src1 r 1 m) g 1 y → th ≤ y
theorem so_can (K : HOK s) (h9 : th ≤ 1439) {D : Tb} {r m : Int} (hT : Tab s (src1 r 1 m) D) (hg : 0 ≤ g ∧ g < s 0) (hl : LB s g th r m) : so D g = th ↔ Can s g th r m := by
  rw [Can_iff K h9]
  constructor
  · intro e
    exact ⟨th, Int.le_refl _, by rw [← e]; exact so_reach hT hg (by omega)⟩
  · rintro ⟨y, y1, y2⟩
    have a := so_least hT hg (by omega) y2
    have b := hl _ (so_reach hT hg (by omega))
    omega
theorem LB_step {r m w : Int} (hl : LB s g th r m) (w1 : 0 ≤ w) (w2 : w < s 1) (w3 : 0 ≤ endW s w r) (w4 : opW s w m ≤ 1439) (h : opW s w m + s (28 + 6 * w + 2) ≤ 1439) : LB s g th (endW s w r) (opW s w m + s (28 + 6 * w + 2)) :=
  fun y ⟨k, hk⟩ => hl y (Rch_trans (Rch_step (Rch_src ⟨rfl, rfl, rfl⟩) (Or.inl ⟨rfl, w3, w, w1, w2, rfl, w4, rfl⟩) h) k _ _ _ hk)
/-! the class's table of the latest -/
def bkL (s : Int → Int) (w L : Int) : Int := if s (28 + 6 * w + 4) = -1 then L - s (28 + 6 * w + 2) else if s (28 + 6 * w + 4) ≤ L - s (28 + 6 * w + 2) then (if s (28 + 6 * w + 5) < L - s (28 + 6 * w + 2) then s (28 + 6 * w + 5) else L - s (28 + 6 * w + 2)) else -1
theorem bk_iff (K : HOK s) {w m L : Int} (w1 : 0 ≤ w) (w2 : w < s 1) (h0 : 0 ≤ m) (hL : L ≤ 1439) : (opW s w m ≤ 1439 ∧ opW s w m + s (28 + 6 * w + 2) ≤ L) ↔ m ≤ bkL s w L := by
  obtain ⟨-, -, c, -, d⟩ := K.way w1 w2
  unfold opW bkL
  generalize s (28 + 6 * w + 4) = a at *
  generalize s (28 + 6 * w + 5) = b at *
  generalize s (28 + 6 * w + 2) = t at *
  rcases d with ⟨d1, d2⟩ | ⟨d1, d2, d3⟩
  · rw [if_pos (show a < 0 by omega), if_pos d1]
    exact ⟨fun z => by omega, fun z => ⟨by omega, by omega⟩⟩
  · rw [if_neg (show ¬ a < 0 by omega), if_neg (show ¬ a = -1 by omega)]
    by_cases e1 : m ≤ a
    · rw [if_pos e1]
      rw [if_pos d2]
      by_cases e2 : a ≤ L - t
      · rw [if_pos e2]
        constructor
        · intro z; split <;> omega
        · intro z; exact ⟨by omega, by omega⟩
      · rw [if_neg e2]
        exact ⟨fun z => by omega, fun z => by omega⟩
    · rw [if_neg e1]
      by_cases e2 : a ≤ L - t
      · rw [if_pos e2]
        by_cases e3 : m ≤ b
        · rw [if_pos e3]
          constructor
          · intro z; split <;> omega
          · intro z; split at z <;> exact ⟨by omega, by omega⟩
        · rw [if_neg e3]
          constructor
          · intro z; omega
          · intro z; split at z <;> omega
      · rw [if_neg e2]
        constructor
        · intro z
          split at z <;> omega
        · intro z; omega
def Rm (s : Int → Int) (r : Int) : Prop := 0 ≤ r ∧ r < s 0
def LSd (s : Int → Int) (g th : Int) (L : Int → Int) : Prop := ∀ r, Rm s r → -1 ≤ L r ∧ L r ≤ th ∧ (0 ≤ L r → Can s g th r (L r))
def LFn (s : Int → Int) (g th : Int) (L : Int → Int) (r : Int) : Prop := ∀ m, 0 ≤ m → Can s g th r m → m ≤ L r
def LAll (s : Int → Int) (g th : Int) (L : Int → Int) : Prop := ∀ r, Rm s r → LFn s g th L r
def LRl (s : Int → Int) (L L' : Int → Int) : Prop := ∀ w r, 0 ≤ w → w < s 1 → Rm s r → 0 ≤ endW s w r → ¬ L (endW s w r) = -1 → bkL s w (L (endW s w r)) ≤ L' r
def NFl (s : Int → Int) (g th : Int) (L : Int → Int) : Nat → Prop := fun k => Rm s (k : Int) ∧ ¬ LFn s g th L (k : Int)
theorem growL (K : HOK s) (h9 : th ≤ 1439) {L L' : Int → Int} (hs : LSd s g th L) (hg : th ≤ L g) (hle : ∀ r, Rm s r → L r ≤ L' r) (hr : LRl s L L') (hn : ¬ LAll s g th L) : nfc (NFl s g th L') 16 < nfc (NFl s g th L) 16 := by
  have hB : ∃ t : Nat, ∃ r m, Rm s r ∧ 0 ≤ m ∧ Can s g th r m ∧ L r < m ∧ (t : Int) = th - m := by
    apply Classical.byContradiction
    intro z
    refine hn (fun r hv m h0 hm => ?_)
    apply Classical.byContradiction
    intro z2
    have := Can_le K hm
    exact z ⟨(th - m).toNat, r, m, hv, h0, hm, by omega, by omega⟩
  obtain ⟨t, ⟨r, m, hv, h0, h1, h2, ht⟩, hmin⟩ := pk_least _ hB
  have hD' : m ≤ L' r := by
    rcases Can_next h1 with e | ⟨w, w1, w2, w3, w4, w5⟩
    · have := Can_le K h1; subst e; omega
    · have hge := opW_ge2 w4
      have hmin2 := (K.way w1 w2).2.2.1
      have hle5 := Can_le K w5
      have hrm : Rm s (endW s w r) := by
        rcases endW_in K (r := r) w1 w2 with c | c
        · omega
        · exact c
      have hd : opW s w m + s (28 + 6 * w + 2) ≤ L (endW s w r) := by
        apply Classical.byContradiction
        intro z
        exact hmin (th - (opW s w m + s (28 + 6 * w + 2))).toNat (by omega) ⟨endW s w r, opW s w m + s (28 + 6 * w + 2), hrm, by omega, w5, by omega, by omega⟩
      have := (hs _ hrm).2.1
      have := (bk_iff K w1 w2 h0 (show L (endW s w r) ≤ 1439 by omega)).mp ⟨w4, hd⟩
      have := hr w r w1 w2 hv w3 (by omega)
      omega
  have hfin : LFn s g th L' r := by
    intro m' hm0 hm
    by_cases c : m < m'
    · by_cases c2 : L r < m'
      · have := Can_le K hm
        exact absurd ⟨r, m', hv, hm0, hm, c2, by omega⟩ (hmin (th - m').toNat (by omega))
      · have := hle r hv; omega
    · omega
  have er : ((r.toNat : Nat) : Int) = r := Int.toNat_of_nonneg hv.1
  have q1 : ∀ k, NFl s g th L' k → NFl s g th L k := fun k hk => ⟨hk.1, fun z => hk.2 (fun m a hm => by have := hle _ hk.1; have := z m a hm; omega)⟩
  have q2 : NFl s g th L r.toNat := by unfold NFl; rw [er]; exact ⟨hv, fun z => by have := z _ h0 h1; omega⟩
  have q3 : ¬ NFl s g th L' r.toNat := by unfold NFl; rw [er]; exact fun z => z.2 hfin
  exact nfc_lt q1 q2 q3 16 (by have := K.2.1; have := hv.2; have := hv.1; omega)
theorem LAll_iff (K : HOK s) {L : Int → Int} (hs : LSd s g th L) (ha : LAll s g th L) {r m : Int} (hv : Rm s r) (h0 : 0 ≤ m) : m ≤ L r ↔ Can s g th r m :=
  ⟨fun h => Can_mono K h ((hs r hv).2.2 (by omega)), fun h => ha r hv m h0 h⟩
/-! the walk -/
def cnd (s : Int → Int) (g th r m w : Int) : Prop := 0 ≤ endW s w r ∧ opW s w m ≤ 1439 ∧ Can s g th (endW s w r) (opW s w m + s (28 + 6 * w + 2))
theorem isFst_ex {c : Int → Prop} {b d : Int} : ∃ x, isFst c b d x := by
  by_cases h : ∃ t : Nat, (t : Int) < b ∧ c (t : Int)
  · obtain ⟨t, ⟨t1, t2⟩, hm⟩ := pk_least _ h
    exact ⟨(t : Int), Or.inl ⟨by omega, t1, t2, fun j j1 j2 jc => hm j.toNat (by omega) ⟨by omega, by rw [Int.toNat_of_nonneg j1]; exact jc⟩⟩⟩
  · exact ⟨d, Or.inr ⟨rfl, fun j j1 j2 jc => h ⟨j.toNat, by omega, by rw [Int.toNat_of_nonneg j1]; exact jc⟩⟩⟩
noncomputable def fw (s : Int → Int) (g th r m : Int) : Int := Classical.choose (isFst_ex (c := cnd s g th r m) (b := s 1) (d := -1))
theorem fw_is {r m : Int} : isFst (cnd s g th r m) (s 1) (-1) (fw s g th r m) := Classical.choose_spec _
theorem fw_ok {r m : Int} (h : Can s g th r m) (hr : r ≠ g) : (0 ≤ fw s g th r m ∧ fw s g th r m < s 1) ∧ cnd s g th r m (fw s g th r m) := by
  rcases Can_next h with e | ⟨w, w1, w2, w3, w4, w5⟩
  · exact absurd e hr
  · rcases fw_is (s := s) (g := g) (th := th) (r := r) (m := m) with ⟨a, b, c, -⟩ | ⟨-, b⟩
    · exact ⟨⟨a, b⟩, c⟩
    · exact absurd ⟨w3, w4, w5⟩ (b w w1 w2)
noncomputable def sq (s : Int → Int) (g th r0 m0 : Int) : Nat → Int × Int
  | 0 => (r0, m0)
  | k + 1 => (endW s (fw s g th (sq s g th r0 m0 k).1 (sq s g th r0 m0 k).2) (sq s g th r0 m0 k).1, opW s (fw s g th (sq s g th r0 m0 k).1 (sq s g th r0 m0 k).2) (sq s g th r0 m0 k).2 + s (28 + 6 * (fw s g th (sq s g th r0 m0 k).1 (sq s g th r0 m0 k).2) + 2))
/-- a walk of N ways -/
def isN (s : Int → Int) (g th r0 m0 : Int) (N : Nat) : Prop := (sq s g th r0 m0 N).1 = g ∧ ∀ k, k < N → (sq s g th r0 m0 k).1 ≠ g
theorem sq_ok (K : HOK s) {r0 m0 : Int} (hr : Rm s r0) (h0 : 0 ≤ m0) (hc : Can s g th r0 m0) : ∀ k : Nat, (∀ j, j < k → (sq s g th r0 m0 j).1 ≠ g) → Rm s (sq s g th r0 m0 k).1 ∧ m0 + (k : Int) ≤ (sq s g th r0 m0 k).2 ∧ Can s g th (sq s g th r0 m0 k).1 (sq s g th r0 m0 k).2
  | 0, _ => ⟨hr, by show m0 + 0 ≤ m0; omega, hc⟩
  | k + 1, h => by
    obtain ⟨a, b, c⟩ := sq_ok K hr h0 hc k (fun j hj => h j (by omega))
    obtain ⟨⟨d1, d2⟩, e1, e2, e3⟩ := fw_ok c (h k (by omega))
    have hge := opW_ge2 e2
    have hmn := (K.way d1 d2).2.2.1
    unfold sq
    refine ⟨?_, by omega, e3⟩
    rcases endW_in K (r := (sq s g th r0 m0 k).1) d1 d2 with z | z
    · omega
    · exact z
theorem sq_N (K : HOK s) (h9 : th ≤ 1439) {r0 m0 : Int} (hr : Rm s r0) (h0 : 0 ≤ m0) (hc : Can s g th r0 m0) : ∃ N : Nat, N ≤ 1439 ∧ isN s g th r0 m0 N := by
  have hE : ∃ t : Nat, (sq s g th r0 m0 t).1 = g := by
    apply Classical.byContradiction
    intro z
    obtain ⟨-, b, c⟩ := sq_ok K hr h0 hc 1441 (fun j _ e => z ⟨j, e⟩)
    have := Can_le K c
    omega
  obtain ⟨N, h1, h2⟩ := pk_least _ hE
  refine ⟨N, ?_, h1, fun k hk e => h2 k hk e⟩
  obtain ⟨-, b, c⟩ := sq_ok K hr h0 hc N (fun j hj e => h2 j hj e)
  have := Can_le K c
  omega
theorem isN_one {r0 m0 : Int} {N N' : Nat} (h : isN s g th r0 m0 N) (h' : isN s g th r0 m0 N') : N = N' := by
  rcases Nat.lt_trichotomy N N' with q | q | q
  · exact absurd h.1 (h'.2 N q)
  · exact q
  · exact absurd h'.1 (h.2 N' q)
end WK
