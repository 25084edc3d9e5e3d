/-! ===== the reference takes an image ===== -/
section MIM
variable {G : Gx} {n : Nat} {M M' : Mem}
theorem c12_image {Q : Int → Mem → Prop} {x : Int} (hf : ¬ (0 ≤ x ∧ x ≤ 3) → Q (-1) M) (ht : ∀ k : Nat, x = (k : Int) → k < 4 → ∀ M', EqX [(0, 45), (0, 46)] M M' → (∀ i, M' 0 46 i = if i = k then 1 else M 0 46 i) → (∀ i, (i < 328 * k ∨ 328 * k + 328 ≤ i) → M' 0 45 i = M 0 45 i) → (∀ i, i < 328 → M' 0 45 (328 * k + i) = M 0 26 i) → Q (M 0 26 3) M') : OkI G (n + 1) mX12_image [vO 0, vI x] M Q := by
  refine eX12_image (fun Kx => bX12_image_0 (c12_in ?_ ?_))
  · intro z z2
    refine ⟨fun _ => ?_, fun w => absurd w (by decide)⟩
    obtain ⟨k, rfl⟩ : ∃ k : Nat, x = (k : Int) := ⟨x.toNat, by omega⟩
    have hk : k < 4 := by omega
    rw [Int.toNat_natCast]
    refine ⟨⟨by omega, by omega⟩, fun M2 m2 => ?_⟩
    have loop : ∀ (j : Nat) (Mc : Mem), j ≤ 328 → ((EqX [(0, 45), (0, 46)] M Mc) ∧ (∀ i, Mc 0 46 i = if i = k then 1 else M 0 46 i) ∧ (∀ i, (i < 328 * k ∨ 328 * k + 328 ≤ i) → Mc 0 45 i = M 0 45 i) ∧ ∀ i, i < j → Mc 0 45 (328 * k + i) = M 0 26 i) → CW G Kx mX12_image (n + 1) 23 [some (vO 0), some (vI (k : Int)), some (vI (j : Int))] [] Mc (qI Q) := by
      refine up_ind (fun Mc i => ?_) (fun j Mc hj i ih => ?_)
      · refine bX12_image_23 ⟨fun _ => ?_, fun z => absurd (by decide) z⟩
        rw [i.1 0 26 3 (by decide)]
        exact ht k rfl hk Mc i.1 i.2.1 i.2.2.1 i.2.2.2
      · refine bX12_image_23 ⟨fun z => absurd z (by omega), fun _ => ?_⟩
        have e1 : wr (wr (328 * (k : Int)) + (j : Int)) = ((328 * k + j : Nat) : Int) := by
          rw [wrs (x := 328 * (k : Int)) (by omega) (by omega), wrs (by omega) (by omega)]; omega
        rw [e1, Int.toNat_natCast, Int.toNat_natCast]
        refine ⟨⟨by omega, by omega⟩, ⟨by omega, by omega⟩, fun M3 m3 => ?_⟩
        rw [wr_nat (j := j) (by omega)]
        have e26 : Mc 0 26 j = M 0 26 j := i.1 0 26 j (by decide)
        rw [e26] at m3
        have g45 : ∀ q, M3 0 45 q = if q = 328 * k + j then M 0 26 j else Mc 0 45 q := fun q => by rw [m3, mset_fn]
        refine ih M3 ⟨by rw [m3]; exact i.1.trans (EqX.mset (by decide)), fun q => by rw [m3, mset_ne (by simp)]; exact i.2.1 q, fun q hq => by rw [g45, if_neg (by omega)]; exact i.2.2.1 q hq, fun q hq => ?_⟩
        rw [g45]
        by_cases w : q = j
        · rw [if_pos (by omega), w]
        · rw [if_neg (by omega)]; exact i.2.2.2 q (by omega)
    exact loop 0 M2 (by decide) ⟨by rw [m2]; exact EqX.mset (by decide), fun i => by rw [m2, mset_fn], fun i _ => by rw [m2, mset_ne (by simp)], fun i hi => absurd hi (Nat.not_lt_zero i)⟩
  · intro z
    exact ⟨fun w => absurd rfl w, fun _ => hf z⟩
end MIM
