/-! ===== Arrays.fill ===== -/
def mfill (M : Mem) (o k N : Nat) (v : Int) : Mem := fun a b i => if a = o ∧ b = k ∧ i < N then v else M a b i
theorem mfill_0 {M : Mem} {o k : Nat} {v : Int} : mfill M o k 0 v = M := by
  funext a b i; unfold mfill; rw [if_neg (by omega)]
theorem mfill_s {M : Mem} {o k j : Nat} {v : Int} : mset (mfill M o k j v) o k j v = mfill M o k (j + 1) v := by
  funext a b i
  unfold mset mfill
  by_cases h : a = o ∧ b = k ∧ i = j
  · rw [if_pos h, if_pos ⟨h.1, h.2.1, by omega⟩]
  · rw [if_neg h]
    by_cases g : a = o ∧ b = k ∧ i < j
    · rw [if_pos g, if_pos ⟨g.1, g.2.1, by omega⟩]
    · rw [if_neg g, if_neg (fun z => by
        by_cases e : i = j
        · exact h ⟨z.1, z.2.1, e⟩
        · exact g ⟨z.1, z.2.1, by omega⟩)]
theorem mfill_eqX {M : Mem} {o k N : Nat} {v : Int} : EqX [(o, k)] M (mfill M o k N v) := by
  intro a b i h
  unfold mfill
  rw [if_neg (fun z => h (by rw [z.1, z.2.1]; exact List.mem_singleton.mpr rfl))]
section CF
variable {G : Gx} {n : Nat} {M : Mem} {Q : Mem → Prop}
theorem l_fill {K : Kx} {o k N : Nat} {v : Int} (hk : fK (oc o) k = 1) (hN : aL (oc o) k = N) (hz : N ≤ 100000) (h : Q (mfill M o k N v)) : ∀ (f j : Nat), j ≤ N → N - j ≤ f → CW G K mJ7_fill_53178 n 5 [some (vA o k), some (vI v), some (vI (j : Int)), some (vI (N : Int))] [] (mfill M o k j v) (qV Q) := by
  intro f
  induction f with
  | zero =>
    intro j h1 h2
    have e : j = N := by omega
    refine bJ7_fill_53178_5 (NA := (N : Int)) hk (by rw [hN]) ⟨by omega, by omega⟩ ⟨fun _ => by rw [e]; exact h, fun a => absurd (by omega) a⟩
  | succ f ih =>
    intro j h1 h2
    refine bJ7_fill_53178_5 (NA := (N : Int)) hk (by rw [hN]) ⟨by omega, by omega⟩ ⟨fun a => ?_, fun a => ⟨⟨by omega, by omega⟩, fun M1 e => ?_⟩⟩
    · have e : j = N := by omega
      rw [e]; exact h
    · rw [Int.toNat_natCast, mfill_s] at e
      subst e
      rw [wrs (by omega) (by omega)]
      exact ih (j + 1) (by omega) (by omega)
theorem c_fill {o k N : Nat} {v : Int} (hk : fK (oc o) k = 1) (hN : aL (oc o) k = N) (hz : N ≤ 100000) (h : Q (mfill M o k N v)) : OkV G n mJ7_fill_53178 [vA o k, vI v] M Q := by
  refine eJ7_fill_53178 (fun K => bJ7_fill_53178_0 (NA := (N : Int)) hk (by rw [hN]) ⟨by omega, by omega⟩ ?_)
  have := l_fill (G := G) (n := n) (K := K) hk hN hz h N 0 (Nat.zero_le _) (by omega)
  rw [mfill_0] at this
  exact this
end CF
/-! ===== Reach: the class ===== -/
def tbC (M : Mem) (o : Nat) : Tb := fun r u => M o 0 (16 * u + r).toNat
/-- numbers of a table: minutes of the day, or far beyond -/
def TO (D : Tb) : Prop := ∀ r u : Int, 0 ≤ r → r < 16 → (u = 0 ∨ u = 1) → 0 ≤ D r u ∧ D r u ≤ 1000000
def Sg (s : Int → Int) (S : Src) (D D' : Tb) : Prop := TO D' ∧ Snd s S D' ∧ ∀ r u, VN s r u → D' r u ≤ D r u
def GA (s : Int → Int) (D0 D' : Tb) (w st u : Int) : Prop := D0 st u ≤ 1439 → 0 ≤ endW s w st → opW s w (D0 st u) ≤ 1439 → opW s w (D0 st u) + s (28 + 6 * w + 2) ≤ 1439 → D' (endW s w st) u ≤ opW s w (D0 st u) + s (28 + 6 * w + 2)
def UA (s : Int → Int) (D0 D' : Tb) (r : Int) : Prop := D0 r 0 ≤ 1439 → 0 < s 4 → ∀ t, isTop s t → hoM s (D0 r 0) ≤ 1439 → hoM s (D0 r 0) + s 4 ≤ 1439 → D' t 1 ≤ hoM s (D0 r 0) + s 4
section CR
variable {G : Gx} {n : Nat} {M : Mem} {Q : Int → Mem → Prop} {s : Int → Int} {S : Src} {o o1 : Nat}
theorem HR_far {M' : Mem} {k : Nat} (h1 : oc o1 = 1) (ho : oc o = 5) (he : EqX [(o, k)] M M') : M' o1 = M o1 := by
  funext a b
  refine he o1 a b (fun z => ?_)
  have : o1 = o := by simpa using (List.mem_singleton.mp z ▸ rfl : (o1, a).1 = o)
  rw [this, ho] at h1
  cases h1
theorem c5_get {r u : Int} (ho : oc o = 5) (h1 : 0 ≤ r) (h2 : r < 16) (h3 : u = 0 ∨ u = 1) (h : Q (tbC M o r u) M) : OkI G n mX5_get [vO o, vI r, vI u] M Q := by
  refine eX5_get (fun K => bX5_get_0 ho ?_)
  have e : wr (wr (u * 16) + r) = 16 * u + r := by unfold wr; omega
  rw [e]
  exact ⟨fun a => absurd a (by omega), fun a => ⟨fun b => absurd b (by omega), fun b => ⟨⟨by omega, by omega⟩, h⟩⟩⟩
theorem c5_put {r u m : Int} (ho : oc o = 5) (h1 : 0 ≤ r) (h2 : r < 16) (h3 : u = 0 ∨ u = 1) (hn : (1439 < m ∨ tbC M o r u ≤ m) → Q 0 M) (hy : m ≤ 1439 → m < tbC M o r u → Q 1 (mset M o 0 (16 * u + r).toNat m)) : OkI G n mX5_put [vO o, vI r, vI u, vI m] M Q := by
  refine eX5_put (fun K => bX5_put_0 ho ?_)
  have e : wr (wr (u * 16) + r) = 16 * u + r := by unfold wr; omega
  rw [e]
  refine ⟨fun a => hn (Or.inl a), fun a => ⟨fun b => absurd b (by omega), fun b => ⟨fun c => absurd c (by omega), fun c => ⟨⟨by omega, by omega⟩, fun d => ⟨⟨by omega, by omega⟩, fun M1 e1 => ?_⟩, fun d => ?_⟩⟩⟩⟩
  · subst e1; exact hy (by omega) d
  · exact hn (Or.inr (by unfold tbC; omega))
theorem tbC_set {r u r' u' m : Int} (h1 : 0 ≤ r) (h2 : r < 16) (h3 : u = 0 ∨ u = 1) (h1' : 0 ≤ r') (h2' : r' < 16) (h3' : u' = 0 ∨ u' = 1) : tbC (mset M o 0 (16 * u + r).toNat m) o r' u' = if r' = r ∧ u' = u then m else tbC M o r' u' := by
  unfold tbC
  by_cases h : r' = r ∧ u' = u
  · rw [if_pos h, h.1, h.2, mset_self]
  · rw [if_neg h, mset_ne (fun z => h (by omega))]
/-- one try to better a table -/
theorem put_Sg (K : HOK s) {r u m : Int} (hv : VN s r u) (hT : TO (tbC M o)) (hs : Snd s S (tbC M o)) (hm0 : 0 ≤ m) (hm : m ≤ 1439) (hlt : m < tbC M o r u) (hr : Rch s S r u m) : Sg s S (tbC M o) (tbC (mset M o 0 (16 * u + r).toNat m) o) := by
  have k1 := K.2.1
  obtain ⟨v1, v2, v3⟩ := hv
  refine ⟨fun a b h1 h2 h3 => ?_, fun a b hv' hle => ?_, fun a b hv' => ?_⟩
  · rw [tbC_set v1 (by omega) v3 h1 h2 h3]
    split
    · omega
    · exact hT a b h1 h2 h3
  · obtain ⟨w1, w2, w3⟩ := hv'
    rw [tbC_set v1 (by omega) v3 w1 (by omega) w3] at hle ⊢
    by_cases e : a = r ∧ b = u
    · rw [if_pos e, e.1, e.2]; exact hr
    · rw [if_neg e] at hle ⊢; exact hs a b ⟨w1, w2, w3⟩ hle
  · obtain ⟨w1, w2, w3⟩ := hv'
    rw [tbC_set v1 (by omega) v3 w1 (by omega) w3]
    by_cases e : a = r ∧ b = u
    · rw [if_pos e, e.1, e.2]; omega
    · rw [if_neg e]; exact Int.le_refl _
theorem Sg.rf {D : Tb} (hT : TO D) (hs : Snd s S D) : Sg s S D D := ⟨hT, hs, fun _ _ _ => Int.le_refl _⟩
theorem Sg.trans {D D1 D2 : Tb} (h : Sg s S D D1) (h' : Sg s S D1 D2) : Sg s S D D2 := ⟨h'.1, h'.2.1, fun r u hv => Int.le_trans (h'.2.2 r u hv) (h.2.2 r u hv)⟩
theorem c5_goAlong {w st u : Int} {D0 : Tb} (ho : oc o = 5) (h1 : oc o1 = 1) (H : HR (M o1) s) (K : HOK s) (hT : TO (tbC M o)) (hs : Snd s S (tbC M o)) (hw1 : 0 ≤ w) (hw2 : w < s 1) (hv : VN s st u) (hD : ∀ r u, VN s r u → tbC M o r u ≤ D0 r u)
    (h : ∀ (c : Int) (M' : Mem), (c = 0 ∨ c = 1) → EqX [(o, 0)] M M' → (c = 0 → M' = M) → Sg s S (tbC M o) (tbC M' o) → GA s D0 (tbC M' o) w st u → Q c M') : OkI G (n + 2) mX5_goAlong [vO o, vO o1, vI w, vI st, vI u] M Q := by
  have k1 := K.2.1
  have k3 := K.2.2.2.1
  have hd0 := hD st u hv
  have hst := hT st u hv.1 (by have := hv.2.1; omega) hv.2.2
  have nope : (¬ (tbC M o st u ≤ 1439 ∧ 0 ≤ endW s w st ∧ opW s w (tbC M o st u) ≤ 1439 ∧ opW s w (tbC M o st u) + s (28 + 6 * w + 2) ≤ 1439)) → Q 0 M := by
    intro z
    refine h 0 M (Or.inl rfl) EqX.rf (fun _ => rfl) (Sg.rf hT hs) (fun a b c d => ?_)
    have := opW_mono (s := s) (w := w) hd0 c
    exact absurd ⟨by omega, b, by omega, by omega⟩ z
  obtain ⟨-, -, wm, -, wd⟩ := K.way hw1 hw2
  refine eX5_goAlong (fun Kx => bX5_goAlong_0 ho h1 (c5_get ho hv.1 (by have := hv.2.1; omega) hv.2.2 ⟨fun a => ?_, fun a => nope (fun z => a z.1)⟩))
  refine c1_leadsTo h1 H k3 (fun _ _ => ?_) (fun z => absurd ⟨hw1, hw2⟩ z)
  have hend := endW_in K (r := st) hw1 hw2
  refine ⟨fun b => ?_, fun b => ?_⟩
  · refine c1_openFrom h1 H k3 (fun _ _ => ?_) (fun z => absurd ⟨hw1, hw2⟩ z)
    refine bX5_goAlong_44 ho h1 ⟨fun c => ?_, fun c => ⟨⟨hw1, by omega⟩, ?_⟩⟩
    · rcases opC_W wd hst.1 a with ⟨-, g⟩ | ⟨g, g2, -⟩
      · exact nope (fun z => by have := z.2.2.1; omega)
      · omega
    · rcases opC_W wd hst.1 a with ⟨g, -⟩ | ⟨g, g2, g3⟩
      · exact absurd g c
      · rw [g, (H.way hw1 hw2).2.2.1, wrs (by omega) (by omega)]
        have hend' : 0 ≤ endW s w st ∧ endW s w st < s 0 := by omega
        refine c5_put ho hend'.1 (by omega) hv.2.2 (fun d => ⟨fun _ => ?_, fun z => absurd rfl z⟩) (fun d e => ⟨fun z => absurd z (by decide), fun _ => ?_⟩)
        · rcases d with d | d
          · exact nope (fun z => by have := z.2.2.2; omega)
          · refine h 0 M (Or.inl rfl) EqX.rf (fun _ => rfl) (Sg.rf hT hs) (fun a' b' c' d' => ?_)
            have := opW_mono (s := s) (w := w) hd0 c'
            omega
        · have hr : Rch s S (endW s w st) u (opW s w (tbC M o st u) + s (28 + 6 * w + 2)) :=
            Rch_step (hs st u hv a) (Or.inl ⟨rfl, hend'.1, w, hw1, hw2, rfl, g3, rfl⟩) d
          refine h 1 _ (Or.inr rfl) (EqX.mset (List.mem_singleton.mpr rfl)) (fun z => absurd z (by decide)) (put_Sg K ⟨hend'.1, hend'.2, hv.2.2⟩ hT hs (by omega) d e hr) (fun a' b' c' d' => ?_)
          rw [tbC_set hend'.1 (by omega) hv.2.2 hend'.1 (by omega) hv.2.2, if_pos ⟨rfl, rfl⟩]
          have := opW_mono (s := s) (w := w) hd0 c'
          omega
  · refine bX5_goAlong_44 ho h1 ⟨fun _ => ?_, fun c => absurd rfl c⟩
    exact nope (fun z => by have := z.2.1; omega)
end CR
