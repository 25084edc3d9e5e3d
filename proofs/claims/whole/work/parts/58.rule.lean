/-! ===== rules: the mathematics; the words ===== -/
section RUP
variable {s : Int → Int}
theorem setF_nat (f : Int → Bool) : ∀ k : Nat, k ≤ 16 → ∃ m : Nat, m < 2 ^ k ∧ setF f k = (m : Int)
  | 0, _ => ⟨0, by decide, rfl⟩
  | k + 1, hk => by
    obtain ⟨m, m1, m2⟩ := setF_nat f k (by omega)
    have h16 : 2 ^ k ≤ 2 ^ 16 := Nat.pow_le_pow_right (by decide) (by omega)
    have hlt : 2 ^ k < 2 ^ (k + 1) := Nat.pow_lt_pow_right (by decide) (Nat.lt_succ_self k)
    unfold setF
    split
    · rw [m2, bShl_nat (by omega), bOr_nat (by omega) (by omega)]
      exact ⟨_, Nat.or_lt_two_pow (Nat.lt_trans m1 hlt) hlt, rfl⟩
    · exact ⟨m, Nat.lt_trans m1 hlt, m2⟩
/-- what a word says of one who is in a room -/
noncomputable def wd (s : Int → Int) (p x : Int) : Int :=
  if x = 0 then s 3 else if x = 1 then p else if x = 2 then s (172 + 5 * p + 0) else if x = 3 then s (12 + s (172 + 5 * p + 0)) else
  if x = 4 then ((pc (setF (fun q => decide (s (172 + 5 * q + 0) = s (172 + 5 * p + 0))) (s 2).toNat).toNat : Nat) : Int) else
  if x = 5 then (if 0 < s (172 + 5 * p + 2) then 1 else 0) else if x = 6 then (if s (172 + 5 * p + 1) = s (172 + 5 * p + 0) then 1 else 0) else (if topF s = s (172 + 5 * p + 0) then 1 else 0)
/-- the reference's sign for the class's step -/
def rc (c : Int) : Int := if 100 ≤ c then 16 * (c - 100) else if c < 10 then 1 + 16 * c else if c = 19 then 12 else if c = 20 then 13 else if c = 21 then 11 else c - 8
def isPush (c : Int) : Prop := 100 ≤ c ∨ c < 10
/-- a step that can be done over so many -/
def okc (d c : Int) : Prop := ((0 ≤ c ∧ c ≤ 7) ∨ (10 ≤ c ∧ c ≤ 21) ∨ (100 ≤ c ∧ c ≤ 100099)) ∧ (isPush c → d ≤ 63) ∧ (c = 21 → 1 ≤ d) ∧ (10 ≤ c → c ≤ 20 → 2 ≤ d) ∧ 0 ≤ d ∧ d ≤ 64
def nxd (d c : Int) : Int := if c = 21 then d else if 10 ≤ c ∧ c < 100 then d - 1 else d + 1
def dpt (code : Nat → Int) (a : Nat) : Nat → Int
  | 0 => 0
  | j + 1 => nxd (dpt code a j) (code (a + j))
def jn (c a b : Int) : Int :=
  if c = 10 then wl (a + b) else if c = 11 then wl (a - b) else if c = 12 then wl (a * b) else if c = 13 then (if b = 0 then 0 else wl (Int.tdiv a b)) else
  if c = 14 then (if a < b then 1 else 0) else if c = 15 then (if a ≤ b then 1 else 0) else if c = 16 then (if a = b then 1 else 0) else if c = 17 then (if b ≤ a then 1 else 0) else if c = 18 then (if b < a then 1 else 0) else if c = 19 then lAnd a b else lOr a b
def up1d (E : Int → Int) (k v : Int) : Int → Int := fun i => if i = k then v else E i
def est (w : Int → Int) (code : Nat → Int) (a : Nat) : Nat → Int → Int
  | 0 => fun _ => 0
  | j + 1 => if code (a + j) = 21 then up1d (est w code a j) (dpt code a j - 1) (wl (1 - est w code a j (dpt code a j - 1))) else
    if 10 ≤ code (a + j) ∧ code (a + j) < 100 then up1d (est w code a j) (dpt code a j - 2) (jn (code (a + j)) (est w code a j (dpt code a j - 2)) (est w code a j (dpt code a j - 1))) else
    up1d (est w code a j) (dpt code a j) (if 100 ≤ code (a + j) then code (a + j) - 100 else w (code (a + j)))
/-- a test's steps stand rightly in a row -/
def WFs (code : Nat → Int) (a b : Nat) : Prop := a < b ∧ b ≤ 400 ∧ (∀ j, a + j < b → okc (dpt code a j) (code (a + j))) ∧ dpt code a (b - a) = 1
/-- a rule: 0 how many clauses, 1 deeds, 2 ways, 3 and 4 where the tests begin and end, 5 steps -/
def RuOK (ρ : Nat → Nat → Int) : Prop := 0 ≤ ρ 0 0 ∧ ρ 0 0 ≤ 12 ∧ ∀ c : Nat, (c : Int) < ρ 0 0 → (0 ≤ ρ 1 c ∧ ρ 1 c ≤ 2) ∧ 0 ≤ ρ 3 c ∧ (ρ 3 c = ρ 4 c ∨ WFs (ρ 5) (ρ 3 c).toNat (ρ 4 c).toNat) ∧ 0 ≤ ρ 4 c ∧ ρ 4 c ≤ 400
def tval (ρ : Nat → Nat → Int) (w : Int → Int) (c : Nat) : Int := est w (ρ 5) (ρ 3 c).toNat ((ρ 4 c).toNat - (ρ 3 c).toNat) 0
def tst (ρ : Nat → Nat → Int) (w : Int → Int) (c : Nat) : Prop := ρ 3 c = ρ 4 c ∨ tval ρ w c ≠ 0
def RuC (ρ f : Nat → Nat → Int) : Prop := ∀ k, k ≤ 5 → f k = ρ k
def RuM (ρ : Nat → Nat → Int) (M : Mem) (k : Nat) : Prop := M 0 6 k = ρ 0 0 ∧ ∀ c : Nat, (c : Int) < ρ 0 0 → M 0 5 (48 * k + 4 * c) = ρ 1 c ∧ (ρ 1 c = 0 → M 0 5 (48 * k + 4 * c + 1) = ρ 2 c) ∧ (ρ 3 c = ρ 4 c → M 0 5 (48 * k + 4 * c + 2) = -1) ∧ (ρ 3 c ≠ ρ 4 c → M 0 5 (48 * k + 4 * c + 2) = ρ 3 c ∧ M 0 5 (48 * k + 4 * c + 3) = ρ 4 c ∧ ∀ i : Nat, (ρ 3 c).toNat ≤ i → i < (ρ 4 c).toNat → M 0 3 (400 * k + i) = rc (ρ 5 i))
end RUP
section RUW
variable {G : Gx} {n : Nat} {M : Mem} {s : Int → Int} {d : Nat}
theorem wd_4 {p : Int} : wd s p 4 = ((pc (setF (fun q => decide (s (172 + 5 * q + 0) = s (172 + 5 * p + 0))) (s 2).toNat).toNat : Nat) : Int) := rfl
theorem c0_word {Q : Int → Mem → Prop} {p x t : Int} (hd : oc d = 0) (H : HR (M 4) s) (K : HOK s) (D : DR (M d) s) (ht : isTop s t) (h1 : 0 ≤ p) (h2 : p < s 2) (hr : 0 ≤ s (172 + 5 * p + 0) ∧ s (172 + 5 * p + 0) < s 0) (hx : 0 ≤ x ∧ x ≤ 7) (h : Q (wd s p x) M) : OkJ G (n + 1) mX0_word [vO d, vI x, vO 4, vI p] M Q := by
  have k8 := K.2.2.2.2.2.1
  have k5 := K.2.2.2.2.1
  have k16 := K.2.1
  obtain ⟨g2, g3, -⟩ := D.per h1 h2
  have g0 : M d 0 0 = s 3 := D.1
  have g14 : M 4 14 p.toNat = s (172 + 5 * p + 1) := H.2.2.2.2.2.2.2.2.1 p h1 h2
  have g7 : M 4 7 (s (172 + 5 * p + 0)).toNat = s (12 + s (172 + 5 * p + 0)) := H.2.2.2.2.2.2.1 _ hr.1 hr.2
  have gt : M 4 3 0 = topF s := (topF_is (H.2.2.2.2.2.2.2.2.2 (by omega))).symm
  have hp : 0 ≤ p ∧ p < 8 := ⟨h1, by omega⟩
  refine eX0_word (fun Kx => bX0_word_0 rfl hd (c1_isPerson rfl H k8 (fun _ _ => ⟨fun z => absurd z (by decide), fun _ => ⟨hp, ?_⟩⟩) (fun z => absurd ⟨h1, h2⟩ z)))
  rw [g2]
  refine c1_isRoom rfl H k16 (fun _ _ => ⟨fun _ => ⟨hp, ?_⟩, fun z => absurd z (by decide)⟩) (fun z => absurd hr z)
  rw [g2, g0, g3, g14, g7, gt]
  refine ⟨fun z => ?_, fun z => ?_, fun z => ?_, fun z => ?_, fun z => ?_, fun z => ?_, fun z => ?_, fun z => ?_⟩
  · have e : x = 7 := by omega
    rw [e] at h
    have e7 : wd s p 7 = if topF s = s (172 + 5 * p + 0) then 1 else 0 := rfl
    rw [e7] at h
    exact ⟨fun y => by rw [if_neg y] at h; exact h, fun y => by rw [if_pos y] at h; exact h⟩
  · rw [z] at h; exact h
  · rw [z] at h; exact h
  · rw [z] at h; exact h
  · rw [z] at h; exact ⟨⟨hr.1, by omega⟩, h⟩
  · rw [z, wd_4] at h
    obtain ⟨m, m1, m2⟩ := setF_nat (fun q => decide (s (172 + 5 * q + 0) = s (172 + 5 * p + 0))) (s 2).toNat (by omega)
    have hm : m < 65536 := Nat.lt_of_lt_of_le m1 (Nat.pow_le_pow_right (n := 2) (by decide) (show (s 2).toNat ≤ 16 by omega))
    refine c0_peopleIn hd rfl H k5 k8 (fun q q1 q2 => (D.per q1 q2).1) ?_
    rw [m2] at h ⊢
    rw [Int.toNat_natCast] at h
    exact c6_bitCount hm h
  · rw [z] at h; exact ⟨hp, h⟩
  · rw [z] at h
    have e6 : wd s p 6 = if s (172 + 5 * p + 1) = s (172 + 5 * p + 0) then 1 else 0 := rfl
    rw [e6] at h
    exact ⟨hp, fun y => by rw [if_neg y] at h; exact h, fun y => by rw [if_pos y] at h; exact h⟩
theorem c12_words {Q : Mem → Prop} {p : Int} (hs : sd M = s) (K : HOK s) (h1 : 0 ≤ p) (h2 : p < s 2) (hr : 0 ≤ s (172 + 5 * p + 0) ∧ s (172 + 5 * p + 0) < s 0) (h : ∀ M', EqX [(0, 25)] M M' → (∀ x : Nat, x < 8 → M' 0 25 x = wd s p (x : Int)) → Q M') : OkV G (n + 2) mX12_words [vO 0, vI p] M Q := by
  have k8 := K.2.2.2.2.2.1
  have k5 := K.2.2.2.2.1
  have k16 := K.2.1
  have hp8 : p < 8 := by omega
  refine eX12_words (fun Kx => bX12_words_0 (c12_personOf h1 hp8 (by decide) (by decide) ?_))
  rw [hs]
  intro M2 e2 M3 e3 M4 e4
  have hE4 : EqX [(0, 25)] M M4 := by rw [e4, e3, e2]; exact ((EqX.mset (by decide)).trans (EqX.mset (by decide))).trans (EqX.mset (by decide))
  rw [wrs (x := 12 + s (172 + 5 * p + 0)) (by omega) (by omega)]
  have s4 : M4 0 26 (12 + s (172 + 5 * p + 0)).toNat = s (12 + s (172 + 5 * p + 0)) := by rw [← hs]; exact sd_eq hE4 (by decide) _
  rw [s4]
  refine ⟨⟨by omega, by omega⟩, fun M5 e5 => ?_⟩
  have hE5 : EqX [(0, 25)] M M5 := by rw [e5]; exact hE4.trans (EqX.mset (by decide))
  have es5 : sd M5 = s := (DR4 hE5 (by decide)).trans hs
  refine c12_inRoom (by rw [es5]; exact k5) (by rw [es5]; exact k8) ?_
  rw [es5]
  obtain ⟨m, m1, m2⟩ := setF_nat (fun q => decide (s (172 + 5 * q + 0) = s (172 + 5 * p + 0))) (s 2).toNat (by omega)
  have hm : m < 65536 := Nat.lt_of_lt_of_le m1 (Nat.pow_le_pow_right (n := 2) (by decide) (show (s 2).toNat ≤ 16 by omega))
  rw [m2]
  refine c12_bits hm (fun M8 e8 => ?_)
  have hE8 : EqX [(0, 25)] M M8 := by rw [e8]; exact hE5.trans (EqX.mset (by decide))
  have es8 : sd M8 = s := (DR4 hE8 (by decide)).trans hs
  have e30 : M 0 26 3 = s 3 := by rw [← hs]; rfl
  have w4 : wd s p 4 = ((pc m : Nat) : Int) := by rw [wd_4, m2, Int.toNat_natCast]
  -- the last three words
  have last : ∀ z5 : Int, z5 = wd s p 5 → CW G Kx mX12_words (n + 2) 85 [some (vO 0), some (vI p), some (vI (s (172 + 5 * p + 0)))] [vL z5, vI 5, vA 0 25] M8 (qV Q) := by
    intro z5 hz5
    refine bX12_words_85 ⟨⟨by decide, by decide⟩, fun M9 e9 => ?_⟩
    have hE9 : EqX [(0, 25)] M M9 := by rw [e9]; exact hE8.trans (EqX.mset (by decide))
    have es9 : sd M9 = s := (DR4 hE9 (by decide)).trans hs
    refine c12_personOf h1 hp8 (by decide) (by decide) ?_
    rw [es9]
    have l2 : ∀ z6 : Int, z6 = wd s p 6 → CW G Kx mX12_words (n + 2) 107 [some (vO 0), none, some (vI (s (172 + 5 * p + 0)))] [vL z6, vI 6, vA 0 25] M9 (qV Q) := by
      intro z6 hz6
      refine bX12_words_107 ⟨⟨by decide, by decide⟩, fun Ma ea => ?_⟩
      have hEa : EqX [(0, 25)] M Ma := by rw [ea]; exact hE9.trans (EqX.mset (by decide))
      have esa : sd Ma = s := (DR4 hEa (by decide)).trans hs
      refine c12_topRoom (by rw [esa]; exact k16) (by rw [esa]; omega) (fun t htop => ?_)
      rw [esa] at htop
      rw [← topF_is htop]
      have l3 : ∀ (z7 : Int) (Mb : Mem), z7 = wd s p 7 → Mb = mset Ma 0 25 7 z7 → Q Mb := by
        intro z7 Mb hz7 eb
        refine h Mb (by rw [eb]; exact hEa.trans (EqX.mset (by decide))) (fun x hx => ?_)
        have cases8 : x = 0 ∨ x = 1 ∨ x = 2 ∨ x = 3 ∨ x = 4 ∨ x = 5 ∨ x = 6 ∨ x = 7 := by omega
        have t5 : (5 : Int).toNat = 5 := rfl
        have t6 : (6 : Int).toNat = 6 := rfl
        rw [t5] at e9
        rw [t6] at ea
        rcases cases8 with q | q | q | q | q | q | q | q <;> subst q
        · rw [eb, mset_ne (by simp), ea, mset_ne (by simp), e9, mset_ne (by simp), e8, mset_ne (by simp), e5, mset_ne (by simp), e4, mset_ne (by simp), e3, mset_ne (by simp), e2, mset_self, e30]; rfl
        · rw [eb, mset_ne (by simp), ea, mset_ne (by simp), e9, mset_ne (by simp), e8, mset_ne (by simp), e5, mset_ne (by simp), e4, mset_ne (by simp), e3, mset_self]; rfl
        · rw [eb, mset_ne (by simp), ea, mset_ne (by simp), e9, mset_ne (by simp), e8, mset_ne (by simp), e5, mset_ne (by simp), e4, mset_self]; rfl
        · rw [eb, mset_ne (by simp), ea, mset_ne (by simp), e9, mset_ne (by simp), e8, mset_ne (by simp), e5, mset_self]; rfl
        · rw [eb, mset_ne (by simp), ea, mset_ne (by simp), e9, mset_ne (by simp), e8, mset_self]; exact w4.symm
        · rw [eb, mset_ne (by simp), ea, mset_ne (by simp), e9, mset_self]; exact hz5
        · rw [eb, mset_ne (by simp), ea, mset_self]; exact hz6
        · rw [eb, mset_self]; exact hz7
      have e7 : wd s p 7 = if topF s = s (172 + 5 * p + 0) then 1 else 0 := rfl
      exact ⟨fun y M3 em => l3 0 M3 (by rw [e7, if_neg y]) em, fun y M4 em => l3 1 M4 (by rw [e7, if_pos y]) em⟩
    have e6 : wd s p 6 = if s (172 + 5 * p + 1) = s (172 + 5 * p + 0) then 1 else 0 := rfl
    exact ⟨fun y => l2 0 (by rw [e6, if_neg y]), fun y => l2 1 (by rw [e6, if_pos y])⟩
  have e5w : wd s p 5 = if 0 < s (172 + 5 * p + 2) then 1 else 0 := rfl
  refine c12_ridden h1 hp8 (fun y => ⟨fun z => absurd z (by decide), fun _ => last 1 ?_⟩) (fun y => ⟨fun _ => last 0 ?_, fun z => absurd rfl z⟩)
  · rw [es8] at y; rw [e5w, if_pos y]
  · rw [es8] at y; rw [e5w, if_neg y]
end RUW
