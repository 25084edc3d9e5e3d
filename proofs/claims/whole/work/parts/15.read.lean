section C1A
variable {G : Gx} {n : Nat} {M : Mem} {Q : Int → Mem → Prop} {s : Int → Int} {o : Nat}
theorem c1_isRoom {x : Int} (ho : oc o = 1) (H : HR (M o) s) (hs : s 0 ≤ 16) (ht : 0 ≤ x → x < s 0 → Q 1 M) (hf : ¬ (0 ≤ x ∧ x < s 0) → Q 0 M) : OkI G n mX1_isRoom [vO o, vI x] M Q := by
  have e := H.1
  refine eX1_isRoom (fun K => bX1_isRoom_0 ho ?_)
  rw [e]
  exact ⟨fun a => hf (by omega), fun a => ⟨fun b => hf (by omega), fun b => ⟨fun c => hf (by omega), fun c => ht (by omega) (by omega)⟩⟩⟩
theorem c1_isWay {x : Int} (ho : oc o = 1) (H : HR (M o) s) (hs : s 1 ≤ 24) (ht : 0 ≤ x → x < s 1 → Q 1 M) (hf : ¬ (0 ≤ x ∧ x < s 1) → Q 0 M) : OkI G n mX1_isWay [vO o, vI x] M Q := by
  have e := H.2.1
  refine eX1_isWay (fun K => bX1_isWay_0 ho ?_)
  rw [e]
  exact ⟨fun a => hf (by omega), fun a => ⟨fun b => hf (by omega), fun b => ⟨fun c => hf (by omega), fun c => ht (by omega) (by omega)⟩⟩⟩
theorem c1_isPerson {x : Int} (ho : oc o = 1) (H : HR (M o) s) (hs : s 2 ≤ 8) (ht : 0 ≤ x → x < s 2 → Q 1 M) (hf : ¬ (0 ≤ x ∧ x < s 2) → Q 0 M) : OkI G n mX1_isPerson [vO o, vI x] M Q := by
  have e := H.2.2.1
  refine eX1_isPerson (fun K => bX1_isPerson_0 ho ?_)
  rw [e]
  exact ⟨fun a => hf (by omega), fun a => ⟨fun b => hf (by omega), fun b => ⟨fun c => hf (by omega), fun c => ht (by omega) (by omega)⟩⟩⟩
theorem HR.way {f : Nat → Nat → Int} (H : HR f s) {w : Int} (h1 : 0 ≤ w) (h2 : w < s 1) : f 8 w.toNat = s (28 + 6 * w + 0) ∧ f 9 w.toNat = s (28 + 6 * w + 1) ∧ f 10 w.toNat = s (28 + 6 * w + 2) ∧ f 11 w.toNat = s (28 + 6 * w + 3) ∧ f 12 w.toNat = s (28 + 6 * w + 4) ∧ f 13 w.toNat = s (28 + 6 * w + 5) := H.2.2.2.2.2.2.2.1 w h1 h2
theorem c1_leadsTo {w r : Int} (ho : oc o = 1) (H : HR (M o) s) (hs : s 1 ≤ 24) (ht : 0 ≤ w → w < s 1 → Q (endW s w r) M) (hf : ¬ (0 ≤ w ∧ w < s 1) → Q (-1) M) : OkI G (n + 1) mX1_leadsTo [vO o, vI w, vI r] M Q := by
  refine eX1_leadsTo (fun K => bX1_leadsTo_0 ho (c1_isWay ho H hs (fun a b => ?_) (fun a => ?_)))
  · have h := ht a b
    obtain ⟨w0, w1, w2, w3, w4, w5⟩ := H.way a b
    rw [w0, w1, w3]
    unfold endW at h
    refine ⟨fun _ => ⟨⟨by omega, by omega⟩, fun c => ⟨⟨by omega, by omega⟩, fun d => ?_, fun d => ⟨⟨by omega, by omega⟩, fun e => ?_, fun e => ⟨⟨by omega, by omega⟩, ?_⟩⟩⟩, fun c => ⟨⟨by omega, by omega⟩, ?_⟩⟩, fun z => absurd z (by decide)⟩
    · rw [if_neg c, if_neg (fun z => d z.1)] at h; exact h
    · rw [if_neg c, if_neg (fun z => e z.2)] at h; exact h
    · rw [if_neg c, if_pos ⟨d, e⟩] at h; exact h
    · rw [if_pos c] at h; exact h
  · exact ⟨fun z => absurd rfl z, fun _ => hf a⟩
/-- the first minute in which a way is open, as the class has it -/
def opC (s : Int → Int) (w m : Int) : Int := if s (28 + 6 * w + 4) = -1 then m else if (if m < s (28 + 6 * w + 4) then s (28 + 6 * w + 4) else m) ≤ s (28 + 6 * w + 5) then (if m < s (28 + 6 * w + 4) then s (28 + 6 * w + 4) else m) else -1
theorem c1_openFrom {w m : Int} (ho : oc o = 1) (H : HR (M o) s) (hs : s 1 ≤ 24) (ht : 0 ≤ w → w < s 1 → Q (opC s w m) M) (hf : ¬ (0 ≤ w ∧ w < s 1) → Q (-1) M) : OkI G (n + 1) mX1_openFrom [vO o, vI w, vI m] M Q := by
  refine eX1_openFrom (fun K => bX1_openFrom_0 ho (c1_isWay ho H hs (fun a b => ?_) (fun a => ?_)))
  · have h := ht a b
    obtain ⟨w0, w1, w2, w3, w4, w5⟩ := H.way a b
    rw [w4, w5]
    unfold opC at h
    refine ⟨fun _ => ⟨⟨by omega, by omega⟩, fun c => ⟨⟨by omega, by omega⟩, ⟨by omega, by omega⟩, fun d => ?_, fun d => ?_⟩, fun c => ?_⟩, fun z => absurd z (by decide)⟩
    · rw [if_neg c, if_pos d] at h; exact h
    · rw [if_neg c, if_neg d] at h; exact h
    · rw [if_pos c] at h; exact h
  · exact ⟨fun z => absurd rfl z, fun _ => hf a⟩
/-- the two ways to say from when on a way can be gone -/
theorem opC_W {w m : Int} (hd : (s (28 + 6 * w + 4) = -1 ∧ s (28 + 6 * w + 5) = -1) ∨ (0 ≤ s (28 + 6 * w + 4) ∧ s (28 + 6 * w + 4) ≤ s (28 + 6 * w + 5) ∧ s (28 + 6 * w + 5) ≤ 1439)) (h0 : 0 ≤ m) (h1 : m ≤ 1439) : (opC s w m = -1 ∧ opW s w m = 99999) ∨ (opC s w m = opW s w m ∧ m ≤ opW s w m ∧ opW s w m ≤ 1439) := by
  unfold opC opW
  rcases hd with ⟨a, b⟩ | ⟨a, b, c⟩
  · rw [if_pos a, if_pos (show s (28 + 6 * w + 4) < 0 by omega)]
    exact Or.inr ⟨rfl, by omega, by omega⟩
  · rw [if_neg (show ¬ s (28 + 6 * w + 4) = -1 by omega), if_neg (show ¬ s (28 + 6 * w + 4) < 0 by omega)]
    by_cases d : m ≤ s (28 + 6 * w + 4)
    · have e : (if m < s (28 + 6 * w + 4) then s (28 + 6 * w + 4) else m) = s (28 + 6 * w + 4) := by split <;> omega
      rw [if_pos d, e, if_pos b, if_pos b]
      exact Or.inr ⟨rfl, d, by omega⟩
    · rw [if_neg d, if_neg (show ¬ m < s (28 + 6 * w + 4) by omega)]
      by_cases g : m ≤ s (28 + 6 * w + 5)
      · rw [if_pos g, if_pos g]; exact Or.inr ⟨rfl, by omega, by omega⟩
      · rw [if_neg g, if_neg g]; exact Or.inl ⟨rfl, rfl⟩
/-- the minute of the hoist -/
def hoM (s : Int → Int) (m : Int) : Int := Int.tdiv (m + s 6 - 1) (s 6) * s 6
theorem hoM_le {m : Int} (h0 : 0 ≤ m) (h6 : 1 ≤ s 6) : m ≤ hoM s m ∧ hoM s m ≤ m + s 6 - 1 := by
  unfold hoM
  have e : Int.tdiv (m + s 6 - 1) (s 6) = (m + s 6 - 1) / s 6 := Int.tdiv_eq_ediv_of_nonneg (by omega)
  rw [e]
  have h1 := Int.ediv_mul_le (m + s 6 - 1) (show s 6 ≠ 0 by omega)
  have h2 := Int.lt_ediv_add_one_mul_self (m + s 6 - 1) (show 0 < s 6 by omega)
  have h3 : ((m + s 6 - 1) / s 6 + 1) * s 6 = (m + s 6 - 1) / s 6 * s 6 + s 6 := by rw [Int.add_mul, Int.one_mul]
  omega
theorem c1_hoistLeaves {m : Int} (ho : oc o = 1) (H : HR (M o) s) (hs : s 6 = 0 ∨ (1 ≤ s 6 ∧ s 6 ≤ 120)) (hm : m ≤ 2000000) (hn : ¬ (1 ≤ s 6 ∧ 0 ≤ m ∧ hoM s m ≤ 1439) → Q (-1) M) (ht : 1 ≤ s 6 → 0 ≤ m → hoM s m ≤ 1439 → Q (hoM s m) M) : OkI G n mX1_hoistLeaves [vO o, vI m] M Q := by
  have e := H.2.2.2.2.2.1
  refine eX1_hoistLeaves (fun K => bX1_hoistLeaves_0 ho ?_)
  rw [e]
  refine ⟨fun a => hn (by omega), fun a => ⟨fun b => ?_, fun b => hn (by omega)⟩⟩
  have h6 : 1 ≤ s 6 ∧ s 6 ≤ 120 := by omega
  obtain ⟨g1, g2⟩ := hoM_le b h6.1
  have e1 : wr (wr (m + s 6) - 1) = m + s 6 - 1 := by unfold wr; omega
  have e2 : Int.tdiv (m + s 6 - 1) (s 6) = (m + s 6 - 1) / s 6 := Int.tdiv_eq_ediv_of_nonneg (by omega)
  have e3 : 0 ≤ (m + s 6 - 1) / s 6 := Int.ediv_nonneg (by omega) (by omega)
  have e4 : (m + s 6 - 1) / s 6 ≤ m + s 6 - 1 := Int.ediv_le_self _ (by omega)
  have e5 : wr (Int.tdiv (wr (wr (m + s 6) - 1)) (s 6)) = Int.tdiv (m + s 6 - 1) (s 6) := by rw [e1, e2]; exact wrs (by omega) (by omega)
  have e6 : wr (wr (Int.tdiv (wr (wr (m + s 6) - 1)) (s 6)) * s 6) = hoM s m := by rw [e5]; exact wrs (by unfold hoM at g1; omega) (by unfold hoM at g2; omega)
  rw [e6]
  exact ⟨by omega, fun c => ht h6.1 b c, fun c => hn (fun z => c z.2.2)⟩
theorem l0_peopleIn {K : Kx} {d : Nat} {r : Int} (hd : oc d = 0) (ho : oc o = 1) (H : HR (M o) s) (h2 : s 2 ≤ 8) (hat : ∀ p : Int, 0 ≤ p → p < s 2 → M d 2 p.toNat = s (172 + 5 * p + 0)) (h : Q (setF (fun p => decide (s (172 + 5 * p + 0) = r)) (s 2).toNat) M) : ∀ (f k : Nat), (k : Int) ≤ s 2 → (s 2).toNat - k ≤ f → CW G K mX0_peopleIn n 5 [some (vO d), some (vO o), some (vI r), some (vI (setF (fun p => decide (s (172 + 5 * p + 0) = r)) k)), some (vI (k : Int))] [] M (qI Q) := by
  have e2 := H.2.2.1
  intro f
  induction f with
  | zero =>
    intro k h3 h4
    have e : k = (s 2).toNat := by omega
    refine bX0_peopleIn_5 ho hd ?_
    rw [e2]
    exact ⟨fun a => by rw [e]; exact h, fun a => absurd (show s 2 ≤ (k : Int) by omega) a⟩
  | succ f ih =>
    intro k h3 h4
    refine bX0_peopleIn_5 ho hd ?_
    rw [e2]
    refine ⟨fun a => ?_, fun a => ⟨fun b => absurd b (by omega), fun b => ⟨⟨by omega, by omega⟩, ?_⟩⟩⟩
    · have e : k = (s 2).toNat := by omega
      rw [e]; exact h
    · have ih' := ih (k + 1) (by omega) (by omega)
      rw [hat k (by omega) (by omega), wrs (x := (k : Int) + 1) (by omega) (by omega)]
      unfold setF at ih'
      refine ⟨fun c => ?_, fun c => ?_⟩
      · rw [if_neg (by simpa using c)] at ih'; exact ih'
      · rw [if_pos (by simpa using c)] at ih'; exact ih'
theorem c0_peopleIn {d : Nat} {r : Int} (hd : oc d = 0) (ho : oc o = 1) (H : HR (M o) s) (h0 : 0 ≤ s 2) (h2 : s 2 ≤ 8) (hat : ∀ p : Int, 0 ≤ p → p < s 2 → M d 2 p.toNat = s (172 + 5 * p + 0)) (h : Q (setF (fun p => decide (s (172 + 5 * p + 0) = r)) (s 2).toNat) M) : OkI G n mX0_peopleIn [vO d, vO o, vI r] M Q :=
  eX0_peopleIn (fun K => bX0_peopleIn_0 (l0_peopleIn hd ho H h2 hat h (s 2).toNat 0 (by omega) (by omega)))
/-! the calls that only read -/
theorem both_room {x y : Int} {Q2 : Int → Int → Prop} (H : HR (M 4) (sd M)) (K : HOK (sd M)) (D : DR (M 5) (sd M)) (h : ∀ r, Q2 r r) : OkI G (n + 2) mX11_room [vO 1, vI x, vI y] M (fun r1 M1 => OkI G (n + 2) mX12_room [vO 0, vI x, vI y] M1 (fun r2 M2 => M2 = M ∧ Q2 r1 r2)) := by
  obtain ⟨k0, k1, k2, k3, k4, k5, -⟩ := K
  have two : ∀ (P : Int → Mem → Prop), (¬ (0 ≤ x ∧ x < sd M 0 ∧ 0 ≤ y ∧ y ≤ 2) → P (-1) M) → (0 ≤ x → x < sd M 0 → y = 0 → P (sd M (12 + x)) M) → (0 ≤ x → x < sd M 0 → y = 1 → P (setF (fun p => decide (sd M (172 + 5 * p + 0) = x)) (sd M 2).toNat) M) → (0 ≤ x → x < sd M 0 → y = 2 → ∀ t, isTop (sd M) t → P (if t = x then 1 else 0) M) → OkI G (n + 2) mX12_room [vO 0, vI x, vI y] M P := by
    intro P p1 p2 p3 p4
    refine eX12_room (fun K => bX12_room_0 (c12_isRoom (fun a b => ?_) (fun a => ?_)))
    · refine ⟨fun z => absurd z (by decide), fun _ => c12_in (fun c d => ?_) (fun c => ?_)⟩
      · refine ⟨fun _ => ⟨fun e => ⟨fun g => ?_, fun g => ?_⟩, fun e => ?_⟩, fun z => absurd z (by decide)⟩
        · refine c12_topRoom k1 (by omega) (fun t ht => ?_)
          have := p4 a b (by omega) t ht
          refine ⟨fun g2 => ?_, fun g2 => ?_⟩
          · rw [if_neg g2] at this; exact this
          · rw [if_pos g2] at this; exact this
        · exact c12_inRoom k4 k5 (p3 a b g)
        · rw [wrs (x := 12 + x) (by omega) (by omega)]
          exact ⟨⟨by omega, by omega⟩, p2 a b e⟩
      · exact ⟨fun z => absurd rfl z, fun _ => p1 (by omega)⟩
    · exact ⟨fun _ => p1 (by omega), fun z => absurd rfl z⟩
  refine eX11_room (fun K => bX11_room_0 (c1_isRoom rfl H k1 (fun a b => ?_) (fun a => ?_)))
  · refine ⟨fun _ => ⟨fun c => ?_, fun c => ⟨⟨by omega, by omega⟩, ?_⟩, fun c => ?_, fun c => ⟨fun d => ?_, fun d => ?_⟩⟩, fun z => absurd z (by decide)⟩
    · exact two _ (fun _ => ⟨rfl, h _⟩) (fun _ _ z => absurd z (by omega)) (fun _ _ z => absurd z (by omega)) (fun _ _ z => absurd z (by omega))
    · rw [H.2.2.2.2.2.2.1 x a b]
      exact two _ (fun z => absurd (by omega) z) (fun _ _ _ => ⟨rfl, h _⟩) (fun _ _ z => absurd z (by omega)) (fun _ _ z => absurd z (by omega))
    · refine c0_peopleIn rfl rfl H k4 k5 (fun p p1 p2 => (D.2.2 p p1 p2).1) ?_
      exact two _ (fun z => absurd (by omega) z) (fun _ _ z => absurd z (by omega)) (fun _ _ _ => ⟨rfl, h _⟩) (fun _ _ z => absurd z (by omega))
    · refine two _ (fun z => absurd (by omega) z) (fun _ _ z => absurd z (by omega)) (fun _ _ z => absurd z (by omega)) (fun _ _ _ t ht => ⟨rfl, ?_⟩)
      have e : t = M 4 3 0 := isTop_one ht (H.2.2.2.2.2.2.2.2.2 (by omega))
      rw [if_neg (by rw [e]; exact d)]; exact h _
    · refine two _ (fun z => absurd (by omega) z) (fun _ _ z => absurd z (by omega)) (fun _ _ z => absurd z (by omega)) (fun _ _ _ t ht => ⟨rfl, ?_⟩)
      have e : t = M 4 3 0 := isTop_one ht (H.2.2.2.2.2.2.2.2.2 (by omega))
      rw [if_pos (by rw [e]; exact d)]; exact h _
  · refine ⟨fun z => absurd rfl z, fun _ => ?_⟩
    exact two _ (fun _ => ⟨rfl, h _⟩) (fun _ _ z => absurd z (by omega)) (fun _ _ z => absurd z (by omega)) (fun _ _ z => absurd z (by omega))
end C1A
