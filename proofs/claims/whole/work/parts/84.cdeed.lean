/-! ===== the class reads a rule ===== -/
section CRD
variable {G : Gx} {n : Nat} {M M' : Mem} {b : Nat → Int} {L f m l o c : Nat} {u : Nat → Int} {ρ : Nat → Nat → Int}
abbrev raF (o : Nat) : List (Nat × Nat) := (o, 2) :: (o, 3) :: (o - 6, 0) :: (o - 6, 1) :: (o - 6, 2) :: (o - 6, 3) :: (o - 6, 4) :: (o - 6, 5) :: (o - 6, 6) :: rdF
theorem ra_tk (e : EqX tkF M M') : EqX (raF o) M M' := e.sub (fun c hc => by
  refine List.mem_cons_of_mem _ (List.mem_cons_of_mem _ (List.mem_cons_of_mem _ (List.mem_cons_of_mem _ (List.mem_cons_of_mem _ (List.mem_cons_of_mem _ (List.mem_cons_of_mem _ (List.mem_cons_of_mem _ (List.mem_cons_of_mem _ (List.mem_cons_of_mem _ hc)))))))))
)
theorem ra_f7 (e : EqX [(2, 7)] M M') : EqX (raF o) M M' := e.sub (fun c hc => by rw [List.mem_singleton.mp hc]; simp)
theorem ra_w (e : EqV o M M') : EqX (raF o) M M' := e.sub (fun c hc => by
  rcases List.mem_cons.mp hc with q | q
  · rw [q]; simp
  rcases List.mem_cons.mp q with q | q
  · rw [q]; simp
  rcases List.mem_cons.mp q with q | q
  · rw [q]; simp
  rcases List.mem_cons.mp q with q | q
  · rw [q]; simp
  refine List.mem_cons_of_mem _ (List.mem_cons_of_mem _ (List.mem_cons_of_mem _ (List.mem_cons_of_mem _ (List.mem_cons_of_mem _ (List.mem_cons_of_mem _ (List.mem_cons_of_mem _ (List.mem_cons_of_mem _ (List.mem_cons_of_mem _ q)))))))))
theorem tk_off {x : Nat} (e : EqX tkF M M') (hx : x ≠ 2) : M' x = M x := e.obj (fun c hc => by
  have k2 : ∀ c ∈ tkF, c.1 = 2 := by decide
  rw [k2 c hc]; exact fun z => hx z.symm)
theorem f7_off {x : Nat} (e : EqX [(2, 7)] M M') (hx : x ≠ 2) : M' x = M x := e.obj (fun c hc => by
  rw [List.mem_singleton.mp hc]; exact fun z => hx z.symm)
theorem c7_readDeed {Q : Int → Mem → Prop} (ho : oc o = 7) (hr : oc (o - 6) = 6) (T : Tk b L M f) (hc : M (o - 6) 0 0 = (c : Int)) (hc12 : c ≤ 12)
    (ht : (rD b L f c).1 = 0 → c < 12 → ∀ M', EqX (raF o) M M' → M' o = M o → Tk b L M' (rD b L f c).2.2.2 → (∀ k, 3 ≤ k → M' (o - 6) k = M (o - 6) k) → (∀ i, M' (o - 6) 0 i = if i = 0 then ((c + 1 : Nat) : Int) else M (o - 6) 0 i) → (∀ i, M' (o - 6) 1 i = if i = c then (rD b L f c).2.1 else M (o - 6) 1 i) → (∀ i, M' (o - 6) 2 i = if i = c ∧ (rD b L f c).2.1 = 0 then (rD b L f c).2.2.1 else M (o - 6) 2 i) → Q 1 M')
    (hf : (rD b L f c).1 ≠ 0 → ∀ M', EqX (raF o) M M' → M' 2 7 0 = (rD b L f c).1 → Q 0 M') : OkI G (n + 5) mX7_readDeed [vO o] M Q := by
  obtain ⟨q1, q2, q3⟩ := o2 ho hr
  refine eX7_readDeed (fun Kx => bX7_readDeed_0 ho ?_)
  -- behind the word
  have fin : ∀ d : Int, 0 ≤ d → d ≤ 2 → dw b L f = d → CW G Kx mX7_readDeed (n + 5) 60 [some (vO o), some (vI d), none] [] M (qI Q) := by
    intro d d0 d2 hd
    have hne : ¬ dw b L f = -1 := by omega
    have hk := dw_kd hne
    refine bX7_readDeed_60 ho hr ?_
    rw [hc, Int.toNat_natCast]
    refine ⟨fun z => T.adv (fun M1 e1 T1 => ⟨⟨by omega, by omega⟩, fun M2 m2 => ?_⟩), fun z => c9_refuse T (by decide) (fun M1 e1 g1 => ⟨Or.inl rfl, ?_⟩)⟩
    · have hcne : ¬ c = 12 := by omega
      have eO : M1 o = M o := tk_off e1 q1
      have eR : M1 (o - 6) = M (o - 6) := tk_off e1 q2
      have T2 : Tk b L M2 (nx b L f) := by rw [m2]; exact T1.mset q2
      have E2 : EqX (raF o) M M2 := by rw [m2]; exact (ra_tk e1).trans (EqX.mset (by simp))
      refine ⟨fun y M3 m3 => ?_, fun y => ?_⟩
      · have hD : rD b L f c = (0, d, 0, nx b L f) := by unfold rD; rw [if_neg hne, if_neg hcne, if_neg (by omega), hd]
        rw [hD] at ht
        have g0 : M2 (o - 6) 0 0 = (c : Int) := by rw [m2, mset_ne (by simp), eR]; exact hc
        rw [g0, wr_nat (j := c) (by omega)] at m3
        refine ht rfl (by omega) M3 (by rw [m3]; exact E2.trans (EqX.mset (by simp))) ?_ (by rw [m3]; exact T2.mset q2) ?_ ?_ ?_ ?_
        · funext k i; rw [m3, mset_ne (fun w => q3 w.1), m2, mset_ne (fun w => q3 w.1), eO]
        · intro k hk3; funext i; rw [m3, mset_ne (fun w => by omega), m2, mset_ne (fun w => by omega), eR]
        · intro i; rw [m3, mset_fn, m2, mset_ne (by simp), eR]
        · intro i; rw [m3, mset_ne (by simp), m2, mset_fn, eR]
        · intro i
          rw [m3, mset_ne (by simp), m2, mset_ne (by simp), eR]
          exact (if_neg (fun w => y w.2)).symm
      · have hD : rD b L f c = (nF b L (nx b L f) 0 23, 0, nv b L (nx b L f), nx b L (nx b L f)) := by unfold rD; rw [if_neg hne, if_neg hcne, if_pos (by omega)]
        rw [hD] at ht hf
        refine c9_isNumber T2 (fun x => ⟨fun _ => c9_take T2 (nF_ok x).1 (fun M5 e5 T5 => ⟨⟨by omega, by omega⟩, fun M6 m6 M7 m7 => ?_⟩), fun w => absurd w (by decide)⟩) (fun x M4 e4 g4 => ⟨fun w => absurd rfl w, fun _ => hf x M4 (E2.trans (ra_f7 e4)) g4⟩)
        have eO5 : M5 o = M2 o := tk_off e5 q1
        have eR5 : M5 (o - 6) = M2 (o - 6) := tk_off e5 q2
        have g0 : M6 (o - 6) 0 0 = (c : Int) := by rw [m6, mset_ne (by simp), eR5, m2, mset_ne (by simp), eR]; exact hc
        rw [g0, wr_nat (j := c) (by omega)] at m7
        refine ht x (by omega) M7 (by rw [m7, m6]; exact ((E2.trans (ra_tk e5)).trans (EqX.mset (by simp))).trans (EqX.mset (by simp))) ?_ (by rw [m7, m6]; exact (T5.mset q2).mset q2) ?_ ?_ ?_ ?_
        · funext k i; rw [m7, mset_ne (fun w => q3 w.1), m6, mset_ne (fun w => q3 w.1), eO5, m2, mset_ne (fun w => q3 w.1), eO]
        · intro k hk3; funext i; rw [m7, mset_ne (fun w => by omega), m6, mset_ne (fun w => by omega), eR5, m2, mset_ne (fun w => by omega), eR]
        · intro i; rw [m7, mset_fn, m6, mset_ne (by simp), eR5, m2, mset_ne (by simp), eR]
        · intro i; rw [m7, mset_ne (by simp), m6, mset_ne (by simp), eR5, m2, mset_fn, eR, y]
        · intro i
          rw [m7, mset_ne (by simp), m6, mset_fn, eR5, m2, mset_ne (by simp), eR]
          by_cases w : i = c
          · rw [if_pos w, if_pos ⟨w, rfl⟩]
          · rw [if_neg w, if_neg (fun v => w v.1)]
    · have hD : rD b L f c = (1 + 8 * (f : Int) + 4, 0, 0, 0) := by unfold rD; rw [if_neg hne, if_pos (by omega)]
      rw [hD] at hf
      exact hf (by show ¬ (1 + 8 * (f : Int) + 4 = 0); omega) M1 (ra_f7 e1) g1
  refine c9_isWord (j := 7) (by decide) T (fun w => ⟨fun z => absurd z (by decide), fun _ => bX7_readDeed_33 ho ⟨fun _ => fin 0 (by decide) (by decide) (by unfold dw; rw [cI_t w]), fun z => absurd z (by decide)⟩⟩) (fun w => ⟨fun _ => ?_, fun z => absurd rfl z⟩)
  refine c9_isWord (j := 8) (by decide) T (fun w1 => ⟨fun z => absurd z (by decide), fun _ => bX7_readDeed_33 ho ⟨fun _ => fin 1 (by decide) (by decide) (by unfold dw; rw [cI_f w, cI_t w1]), fun z => absurd z (by decide)⟩⟩) (fun w1 => ⟨fun _ => ?_, fun z => absurd rfl z⟩)
  refine bX7_readDeed_33 ho ⟨fun z => absurd rfl z, fun _ => ?_⟩
  refine c9_isWord (j := 9) (by decide) T (fun w2 => ⟨fun _ => fin 2 (by decide) (by decide) (by unfold dw; rw [cI_f w, cI_f w1, cI_t w2]), fun z => absurd z (by decide)⟩) (fun w2 => ⟨fun z => absurd rfl z, fun _ => c9_refuse T (by decide) (fun M1 e1 g1 => ⟨Or.inl rfl, ?_⟩)⟩)
  have hD : rD b L f c = (1 + 8 * (f : Int) + 0, 0, 0, 0) := by unfold rD dw; rw [cI_f w, cI_f w1, cI_f w2, if_pos rfl]
  rw [hD] at hf
  exact hf (by show ¬ (1 + 8 * (f : Int) + 0 = 0); omega) M1 (ra_f7 e1) g1
end CRD
