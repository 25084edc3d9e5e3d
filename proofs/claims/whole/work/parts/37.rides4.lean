section RDB
variable {G : Gx} {n : Nat} {M : Mem}
theorem both_rides {x : Int} {P : Int → Int → Mem → Prop} (H : HR (M 4) (sd M)) (K : HOK (sd M)) (L : LR (M 6) (sd M)) (LO : LOK (sd M)) (h : ∀ r M2, EqX [(1, 15), (0, 41)] M M2 → P r r M2) : OkI G (n + 2) mX11_rides [vO 1, vI x] M (fun r1 M1 => OkI G (n + 2) mX12_rides [vO 0, vI x] M1 (fun r2 M2 => P r1 r2 M2)) := by
  have h9 := LO.2.2.1
  have hh := K.hoist
  have e46 : M 4 6 0 = sd M 6 := H.2.2.2.2.2.1
  have e3 : M 6 3 0 = sd M 9 := L.2.2.2.1
  have no : ¬ (sd M 4 ≠ 0 ∧ 0 ≤ x ∧ x ≤ 20 ∧ (x < 20 → x < sd M 9)) → OkI G (n + 2) mX12_rides [vO 0, vI x] M (fun r2 M2 => P (-1) r2 M2) := fun z => c12_rides K LO (fun _ => h _ M EqX.rf) (fun a b c d => absurd ⟨a, b, c, d⟩ z)
  refine eX11_rides (fun Kx => bX11_rides_0 ?_)
  rw [e46, e3]
  have main : 1 ≤ sd M 6 → 0 ≤ x → x ≤ 20 → (x < 20 → x < sd M 9) → CW G Kx mX11_rides (n + 2) 49 [some (vO 1), some (vI x), some (vO 6), none, none] [] M (qI (fun r1 M1 => OkI G (n + 2) mX12_rides [vO 0, vI x] M1 (fun r2 M2 => P r1 r2 M2))) := by
    intro h6 b c d
    have h5 : 1 ≤ sd M 5 := by omega
    have h6' : sd M 6 ≤ 120 := by omega
    have h4 : sd M 4 ≠ 0 := by omega
    refine bX11_rides_49 (c11_seat H K L LO h6 (fun M1 i1 i2 => ?_))
    have es : sd M1 = sd M := DR4 i1 (by decide)
    have e6 : M1 6 = M 6 := i1.obj (by decide)
    have two : ∀ v : Int, (x < 20 → v = cvt ((prS (sd M) (sd M 9).toNat).1 x)) → (x = 20 → isMx (sd M) (prS (sd M) (sd M 9).toNat).1 v (sd M 9)) → OkI G (n + 2) mX12_rides [vO 0, vI x] M1 (fun r2 M2 => P v r2 M2) := by
      intro v v1 v2
      refine c12_rides (by rw [es]; exact K) (by rw [es]; exact LO) (fun z => absurd (by rw [es]; exact ⟨h4, b, c, d⟩) z) (fun _ _ _ _ M2 j => ?_)
      have hh := h v M2 ((i1.sub (by decide)).trans (j.sub (by decide)))
      rw [es]
      refine ⟨fun w => by rw [← v1 w]; exact hh, fun w v' hv' => by rw [isMx_one hv' (v2 w)]; exact hh⟩
    have hPI := prS_PI LO h6 h6' h5 (sd M 9).toNat (Nat.le_refl _)
    generalize (prS (sd M) (sd M 9).toNat) = pk at *
    obtain ⟨A, L0, c0, μ⟩ := pk
    dsimp only at *
    have hall : ∀ j : Int, 0 ≤ j → j < sd M 9 → ¬ A j = -1 := by
      intro j j1 j2 j3
      have e1 := hPI.1
      rw [Int.toNat_of_nonneg h9.1] at e1
      have := cb_set (f := fun i => decide (¬ A i = -1)) (f' := fun i => decide (¬ A i = -1) || decide (i = j)) (j := j) (by simp [j3]) (by simp) (fun i hi => by simp [hi]) j1 (sd M 9).toNat (by omega)
      have r := cb_rng (f := fun i => decide (¬ A i = -1) || decide (i = j)) (sd M 9).toNat
      omega
    refine ⟨fun y => ?_, fun y => ⟨⟨b, by omega⟩, ?_⟩⟩
    · have loop : ∀ (k : Nat) (v : Int), k ≤ (sd M 9).toNat → isMx (sd M) A v (k : Int) → CW G Kx mX11_rides (n + 2) 72 [some (vO 1), none, some (vO 6), some (vI v), some (vI (k : Int))] [] M1 (qI (fun r1 M1 => OkI G (n + 2) mX12_rides [vO 0, vI x] M1 (fun r2 M2 => P r1 r2 M2))) := by
        refine up_ind (fun v i => ?_) (fun k v hk i ih => ?_)
        · refine bX11_rides_72 ?_
          rw [e6, e3]
          rw [Int.toNat_of_nonneg h9.1] at i
          exact ⟨fun _ => two v (fun w => absurd w (by omega)) (fun _ => i), fun z => absurd (by omega) z⟩
        · have hk' : (k : Int) < sd M 9 := by omega
          have kb : (0 : Int) ≤ k ∧ (k : Int) < 20 := ⟨by omega, by omega⟩
          have hmn := LO.rid kb.1 hk'
          have hAk := hall (k : Int) kb.1 hk'
          have hA1 := (hPI.2.2.2.2.1 (k : Int) kb.1 hk').1
          obtain ⟨v1, v2, v3⟩ := i
          refine bX11_rides_72 ?_
          rw [e6, e3, i2 (k : Int) kb.1 hk', L.rid kb.1 hk', wr_n hk' (by omega)]
          have up : ∀ v', (¬ A (k : Int) ≤ 1439 → v' = v) → (A (k : Int) ≤ 1439 → v' = if v < A (k : Int) - sd M (288 + (k : Int)) then A (k : Int) - sd M (288 + (k : Int)) else v) → isMx (sd M) A v' ((k + 1 : Nat) : Int) := by
            intro v' w1 w2
            have hge : v ≤ v' := by
              by_cases q : A (k : Int) ≤ 1439
              · rw [w2 q]; split <;> omega
              · rw [w1 q]; exact Int.le_refl _
            refine ⟨fun j j1 j2 j3 j4 => ?_, by omega, ?_⟩
            · by_cases e : j = (k : Int)
              · rw [e] at j4 ⊢; rw [w2 j4]; split <;> omega
              · have := v1 j j1 (by omega) j3 j4; omega
            · have old : v = -2 ∨ ∃ j, 0 ≤ j ∧ j < ((k + 1 : Nat) : Int) ∧ ¬ A j = -1 ∧ A j ≤ 1439 ∧ v = A j - sd M (288 + j) := by
                rcases v3 with q | ⟨j, j1, j2, j3⟩
                · exact Or.inl q
                · exact Or.inr ⟨j, j1, by omega, j3⟩
              by_cases q : A (k : Int) ≤ 1439
              · by_cases q2 : v < A (k : Int) - sd M (288 + (k : Int))
                · exact Or.inr ⟨(k : Int), kb.1, by omega, hAk, q, by rw [w2 q, if_pos q2]⟩
                · rw [w2 q, if_neg q2]; exact old
              · rw [w1 q]; exact old
          have ec : cvt (A (k : Int)) = if A (k : Int) ≤ 1439 then A (k : Int) else -2 := rfl
          refine ⟨fun z => absurd z (by omega), fun _ => ⟨fun z => absurd z (by omega), fun _ => ⟨kb, fun z => ?_, fun z => ⟨kb, kb, ?_⟩⟩⟩⟩
          · have q : ¬ A (k : Int) ≤ 1439 := fun q => by rw [ec, if_pos q] at z; omega
            exact ih v (up v (fun _ => rfl) (fun w => absurd w q))
          · have q : A (k : Int) ≤ 1439 := by
              apply Classical.byContradiction
              intro q; rw [ec, if_neg q] at z; exact z rfl
            rw [ec, if_pos q, wrs (x := A (k : Int) - sd M (288 + (k : Int))) (by omega) (by omega)]
            exact ih _ (up _ (fun w => absurd q w) (fun _ => rfl))
      exact loop 0 (-2) (by omega) ⟨fun j j1 j2 => by omega, Int.le_refl _, Or.inl rfl⟩
    · rw [i2 x b (d (by omega))]
      exact two _ (fun _ => rfl) (fun w => absurd w (by omega))
  refine ⟨fun a => no (fun z => by have := z.1; omega), fun a => ⟨fun b => no (by omega), fun b => ⟨fun c => ⟨fun d => main (by omega) (by omega) c (fun z => absurd z (by omega)), fun d => ⟨fun e => main (by omega) (by omega) c (fun _ => e), fun e => no (fun z => e (z.2.2.2 (by omega)))⟩⟩, fun c => no (by omega)⟩⟩⟩
end RDB
