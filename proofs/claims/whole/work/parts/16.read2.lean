section C1B
variable {G : Gx} {n : Nat} {M : Mem} {Q : Int → Mem → Prop}
theorem both_way {x y : Int} {Q2 : Int → Int → Prop} (H : HR (M 4) (sd M)) (K : HOK (sd M)) (h : ∀ r, Q2 r r) : OkI G (n + 2) mX11_way [vO 1, vI x, vI y] M (fun r1 M1 => OkI G (n + 2) mX12_way [vO 0, vI x, vI y] M1 (fun r2 M2 => M2 = M ∧ Q2 r1 r2)) := by
  obtain ⟨k0, k1, k2, k3, k4, k5, -⟩ := K
  have two : ∀ (P : Int → Mem → Prop), (¬ (0 ≤ x ∧ x < sd M 1 ∧ 0 ≤ y ∧ y ≤ 5) → P (-2) M) → (0 ≤ x → x < sd M 1 → 0 ≤ y → y ≤ 5 → P (sd M (28 + 6 * x + y)) M) → OkI G (n + 2) mX12_way [vO 0, vI x, vI y] M P := by
    intro P p1 p2
    refine eX12_way (fun K => bX12_way_0 (c12_isWay (fun a b => ?_) (fun a => ?_)))
    · refine ⟨fun z => absurd z (by decide), fun _ => c12_in (fun c d => ?_) (fun c => ?_)⟩
      · exact ⟨fun z => absurd z (by decide), fun _ => c12_wayOf a (by omega) c (by omega) (p2 a b c d)⟩
      · exact ⟨fun _ => p1 (by omega), fun z => absurd rfl z⟩
    · exact ⟨fun _ => p1 (by omega), fun z => absurd rfl z⟩
  refine eX11_way (fun K => bX11_way_0 (c1_isWay rfl H k3 (fun a b => ?_) (fun a => ?_)))
  · obtain ⟨w0, w1, w2, w3, w4, w5⟩ := H.way a b
    rw [w0, w1, w2, w3, w4, w5]
    refine ⟨fun _ => ⟨fun c => ?_, fun c => ⟨⟨by omega, by omega⟩, ?_⟩, fun c => ⟨⟨by omega, by omega⟩, ?_⟩, fun c => ⟨⟨by omega, by omega⟩, ?_⟩, fun c => ⟨⟨by omega, by omega⟩, ?_⟩, fun c => ⟨⟨by omega, by omega⟩, ?_⟩, fun c => ⟨⟨by omega, by omega⟩, ?_⟩⟩, fun z => absurd z (by decide)⟩
    · exact two _ (fun _ => ⟨rfl, h _⟩) (fun _ _ z1 z2 => absurd z1 (by omega))
    all_goals exact two _ (fun z => absurd (by omega) z) (fun _ _ _ _ => ⟨rfl, by rw [c]; exact h _⟩)
  · refine ⟨fun z => absurd rfl z, fun _ => ?_⟩
    exact two _ (fun _ => ⟨rfl, h _⟩) (fun z1 z2 _ _ => absurd ⟨z1, z2⟩ a)
theorem both_person {x y : Int} {Q2 : Int → Int → Prop} (H : HR (M 4) (sd M)) (K : HOK (sd M)) (D : DR (M 5) (sd M)) (h : ∀ r, Q2 r r) : OkI G (n + 3) mX11_person [vO 1, vI x, vI y] M (fun r1 M1 => OkI G (n + 3) mX12_person [vO 0, vI x, vI y] M1 (fun r2 M2 => M2 = M ∧ Q2 r1 r2)) := by
  obtain ⟨k0, k1, k2, k3, k4, k5, -⟩ := K
  have two : ∀ (P : Int → Mem → Prop), (¬ (0 ≤ x ∧ x < sd M 2 ∧ 0 ≤ y ∧ y ≤ 4) → P (-2) M) → (0 ≤ x → x < sd M 2 → 0 ≤ y → y ≤ 4 → y ≠ 2 → P (sd M (172 + 5 * x + y)) M) → (0 ≤ x → x < sd M 2 → y = 2 → P (if 0 < sd M (172 + 5 * x + 2) then 1 else 0) M) → OkI G (n + 3) mX12_person [vO 0, vI x, vI y] M P := by
    intro P p1 p2 p3
    refine eX12_person (fun K => bX12_person_0 (c12_isPerson (fun a b => ?_) (fun a => ?_)))
    · refine ⟨fun z => absurd z (by decide), fun _ => c12_in (fun c d => ?_) (fun c => ?_)⟩
      · refine ⟨fun _ => ⟨fun e => c12_personOf a (by omega) c (by omega) (p2 a b c d e), fun e => ?_⟩, fun z => absurd z (by decide)⟩
        have p3' := p3 a b e
        refine c12_ridden a (by omega) (fun g => ?_) (fun g => ?_)
        · rw [if_pos g] at p3'; exact ⟨fun z => absurd z (by decide), fun _ => p3'⟩
        · rw [if_neg g] at p3'; exact ⟨fun _ => p3', fun z => absurd rfl z⟩
      · exact ⟨fun z => absurd rfl z, fun _ => p1 (by omega)⟩
    · exact ⟨fun _ => p1 (by omega), fun z => absurd rfl z⟩
  refine eX11_person (fun K => bX11_person_0 (c1_isPerson rfl H k5 (fun a b => ?_) (fun a => ?_)))
  · obtain ⟨d0, d1, d2, d3⟩ := D.2.2 x a b
    rw [d0, d1, d2, d3, H.2.2.2.2.2.2.2.2.1 x a b]
    refine ⟨fun _ => ⟨fun c => ?_, fun c => ⟨⟨by omega, by omega⟩, ?_⟩, fun c => ⟨⟨by omega, by omega⟩, ?_⟩, fun c => ⟨⟨by omega, by omega⟩, ?_⟩, fun c => ⟨⟨by omega, by omega⟩, ?_⟩, fun c => ⟨⟨by omega, by omega⟩, ?_⟩⟩, fun z => absurd z (by decide)⟩
    · exact two _ (fun _ => ⟨rfl, h _⟩) (fun _ _ z1 z2 _ => absurd z1 (by omega)) (fun _ _ z => absurd z (by omega))
    · exact two _ (fun z => absurd (by omega) z) (fun _ _ _ _ _ => ⟨rfl, by rw [c]; exact h _⟩) (fun _ _ z => absurd z (by omega))
    · exact two _ (fun z => absurd (by omega) z) (fun _ _ _ _ _ => ⟨rfl, by rw [c]; exact h _⟩) (fun _ _ z => absurd z (by omega))
    · exact two _ (fun z => absurd (by omega) z) (fun _ _ _ _ z => absurd c z) (fun _ _ _ => ⟨rfl, h _⟩)
    · exact two _ (fun z => absurd (by omega) z) (fun _ _ _ _ _ => ⟨rfl, by rw [c]; exact h _⟩) (fun _ _ z => absurd z (by omega))
    · exact two _ (fun z => absurd (by omega) z) (fun _ _ _ _ _ => ⟨rfl, by rw [c]; exact h _⟩) (fun _ _ z => absurd z (by omega))
  · refine ⟨fun z => absurd rfl z, fun _ => ?_⟩
    exact two _ (fun _ => ⟨rfl, h _⟩) (fun z1 z2 _ _ _ => absurd ⟨z1, z2⟩ a) (fun z1 z2 _ => absurd ⟨z1, z2⟩ a)
/-- the lists' object: the counts and the number that is drawn from -/
def LC0 (f : Nat → Nat → Int) (s : Int → Int) : Prop := f 0 0 = s 11 ∧ f 1 0 = s 7 ∧ f 2 0 = s 8 ∧ f 3 0 = s 9 ∧ f 4 0 = s 10
theorem both_count {x : Int} {Q2 : Int → Int → Prop} (H : HR (M 4) (sd M)) (D : DR (M 5) (sd M)) (L : LC0 (M 6) (sd M)) (hT : M 2 1 0 = M 0 1 0) (hRu : M 1 3 0 = M 0 2 0) (h : ∀ r, Q2 r r) : OkI G n mX11_count [vO 1, vI x] M (fun r1 M1 => OkI G n mX12_count [vO 0, vI x] M1 (fun r2 M2 => M2 = M ∧ Q2 r1 r2)) := by
  refine eX11_count (fun K => bX11_count_0 ?_)
  have two : ∀ (P : Int → Mem → Prop), ((x < 0 ∨ 13 < x) → P (-1) M) → (x = 0 → P (sd M 0) M) → (x = 1 → P (sd M 1) M) → (x = 2 → P (sd M 2) M) → (x = 3 → P (M 0 2 0) M) → (x = 4 → P (sd M 3) M) → (x = 5 → P (sd M 7) M) → (x = 6 → P (sd M 8) M) → (x = 7 → P (sd M 9) M) → (x = 8 → P (sd M 10) M) → (x = 9 → P (sd M 11) M) → (x = 10 → P (M 0 1 0) M) → (x = 11 → P (sd M 4) M) → (x = 12 → P (sd M 5) M) → (x = 13 → P (sd M 6) M) → OkI G n mX12_count [vO 0, vI x] M P := by
    intro P p0 p1 p2 p3 p4 p5 p6 p7 p8 p9 p10 p11 p12 p13 p14
    refine eX12_count (fun K => bX12_count_0 ⟨p0, fun e => ?_, fun e => ?_, fun e => ?_, p4, p5, fun e => ?_, fun e => ?_, fun e => ?_, fun e => ?_, p10, p11, fun e => ?_, fun e => ?_, fun e => ?_⟩)
    · subst e; exact ⟨by decide, p1 rfl⟩
    · subst e; exact ⟨by decide, p2 rfl⟩
    · subst e; exact ⟨by decide, p3 rfl⟩
    · subst e; exact ⟨by decide, p6 rfl⟩
    · subst e; exact ⟨by decide, p7 rfl⟩
    · subst e; exact ⟨by decide, p8 rfl⟩
    · subst e; exact ⟨by decide, p9 rfl⟩
    · subst e; exact ⟨by decide, p12 rfl⟩
    · subst e; exact ⟨by decide, p13 rfl⟩
    · subst e; exact ⟨by decide, p14 rfl⟩
  have go : ∀ v : Int, ((x < 0 ∨ 13 < x) → v = -1) → (x = 0 → v = sd M 0) → (x = 1 → v = sd M 1) → (x = 2 → v = sd M 2) → (x = 3 → v = M 0 2 0) → (x = 4 → v = sd M 3) → (x = 5 → v = sd M 7) → (x = 6 → v = sd M 8) → (x = 7 → v = sd M 9) → (x = 8 → v = sd M 10) → (x = 9 → v = sd M 11) → (x = 10 → v = M 0 1 0) → (x = 11 → v = sd M 4) → (x = 12 → v = sd M 5) → (x = 13 → v = sd M 6) → OkI G n mX12_count [vO 0, vI x] M (fun r2 M2 => M2 = M ∧ Q2 v r2) := by
    intro v q0 q1 q2 q3 q4 q5 q6 q7 q8 q9 q10 q11 q12 q13 q14
    exact two _ (fun e => ⟨rfl, q0 e ▸ h _⟩) (fun e => ⟨rfl, q1 e ▸ h _⟩) (fun e => ⟨rfl, q2 e ▸ h _⟩) (fun e => ⟨rfl, q3 e ▸ h _⟩) (fun e => ⟨rfl, q4 e ▸ h _⟩) (fun e => ⟨rfl, q5 e ▸ h _⟩) (fun e => ⟨rfl, q6 e ▸ h _⟩) (fun e => ⟨rfl, q7 e ▸ h _⟩) (fun e => ⟨rfl, q8 e ▸ h _⟩) (fun e => ⟨rfl, q9 e ▸ h _⟩) (fun e => ⟨rfl, q10 e ▸ h _⟩) (fun e => ⟨rfl, q11 e ▸ h _⟩) (fun e => ⟨rfl, q12 e ▸ h _⟩) (fun e => ⟨rfl, q13 e ▸ h _⟩) (fun e => ⟨rfl, q14 e ▸ h _⟩)
  obtain ⟨g1, g2, g3, g4, g5, g6, -⟩ := H
  obtain ⟨l0, l1, l2, l3, l4⟩ := L
  have d0 := D.1
  refine ⟨fun e => ?_, fun e => ?_, fun e => ?_, fun e => ?_, fun e => ?_, fun e => ?_, fun e => ?_, fun e => ?_, fun e => ?_, fun e => ?_, fun e => ?_, fun e => ?_, fun e => ?_, fun e => ?_, fun e => ?_⟩
  all_goals
    refine go _ ?_ ?_ ?_ ?_ ?_ ?_ ?_ ?_ ?_ ?_ ?_ ?_ ?_ ?_ ?_
    all_goals (intro z; first | omega | (exfalso; omega))
theorem both_seed {x : Int} {P : Int → Int → Mem → Prop} (L : LC0 (M 6) (sd M)) (h : ∀ r, (¬ 0 ≤ x → P r r M) ∧ (0 ≤ x → P r r (mset (mset M 6 0 0 x) 0 26 11 x))) : OkI G n mX11_seed [vO 1, vI x] M (fun r1 M1 => OkI G n mX12_seed [vO 0, vI x] M1 (fun r2 M2 => P r1 r2 M2)) := by
  refine eX11_seed (fun K => bX11_seed_0 ⟨fun a M1 e => ?_, fun a => ?_⟩)
  · subst e
    refine eX12_seed (fun K => bX12_seed_0 ⟨fun b M2 e2 => ?_, fun b => absurd a b⟩)
    subst e2
    have e3 : mset M 6 0 0 x 0 26 11 = M 6 0 0 := by rw [mset_ne (by simp)]; exact L.1.symm
    rw [e3]
    exact (h _).2 a
  · exact eX12_seed (fun K => bX12_seed_0 ⟨fun b => absurd b a, fun b => (h _).1 a⟩)
end C1B
