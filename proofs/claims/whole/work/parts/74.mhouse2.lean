/-! ===== the reference reads a house: a clause, all ===== -/
section MHA
variable {G : Gx} {n : Nat} {M M' : Mem} {b : Nat → Int} {L f : Nat} {h : Int → Int} {c : Nat}
noncomputable def hlS (b : Nat → Int) (L f : Nat) (h : Int → Int) : HS :=
  cI (wq b L f 0) (cI (h 0 = 16) (tooM f h) (pRoom b L (nx b L f) h))
  (cI (wq b L f 1) (cI (h 1 = 24) (tooM f h) (pWay b L (nx b L f) h 0))
  (cI (wq b L f 2) (cI (h 1 = 24) (tooM f h) (pWay b L (nx b L f) h 1))
  (cI (wq b L f 3) (pDoor b L (nx b L f) h)
  (cI (wq b L f 4) (cI (h 6 ≠ 0) (tooM f h) (pHoist b L (nx b L f) h))
  (cI (h 2 = 8) (tooM f h) (pPerson b L (nx b L f) h))))))
theorem cI_of {α : Type} {p q : Prop} {x y : α} (hq : ¬ q) : cI (p ∨ q) x y = cI p x y := by
  by_cases z : p
  · rw [cI_t (Or.inl z), cI_t z]
  · rw [cI_f (fun w => w.elim z hq), cI_f z]
def isHW (b : Nat → Int) (L f : Nat) : Prop := wq b L f 0 ∨ wq b L f 1 ∨ wq b L f 2 ∨ wq b L f 3 ∨ wq b L f 4 ∨ wq b L f 5
theorem pCl_hl (hc : c ≠ 40) (hw : isHW b L f) : pCl b L f c h = hlS b L f h := by
  unfold pCl hlS
  rw [cI_of hc, cI_of hc, cI_of hc, cI_of hc, cI_of hc, cI_of hc, cI_f (p := False) id]
  by_cases w5 : wq b L f 5
  · rw [cI_t w5]
  · rcases hw with w | w | w | w | w | w
    · rw [cI_t w, cI_t w]
    · have n0 : ¬ wq b L f 0 := wq_one (by decide) w
      rw [cI_f n0, cI_f n0, cI_t w, cI_t w]
    · have n0 : ¬ wq b L f 0 := wq_one (by decide) w
      have n1 : ¬ wq b L f 1 := wq_one (by decide) w
      rw [cI_f n0, cI_f n0, cI_f n1, cI_f n1, cI_t w, cI_t w]
    · have n0 : ¬ wq b L f 0 := wq_one (by decide) w
      have n1 : ¬ wq b L f 1 := wq_one (by decide) w
      have n2 : ¬ wq b L f 2 := wq_one (by decide) w
      rw [cI_f n0, cI_f n0, cI_f n1, cI_f n1, cI_f n2, cI_f n2, cI_t w, cI_t w]
    · have n0 : ¬ wq b L f 0 := wq_one (by decide) w
      have n1 : ¬ wq b L f 1 := wq_one (by decide) w
      have n2 : ¬ wq b L f 2 := wq_one (by decide) w
      have n3 : ¬ wq b L f 3 := wq_one (by decide) w
      rw [cI_f n0, cI_f n0, cI_f n1, cI_f n1, cI_f n2, cI_f n2, cI_f n3, cI_f n3, cI_t w, cI_t w]
    · exact absurd w w5
theorem pCl_40 (hc : c = 40) (hw : isHW b L f) : pCl b L f c h = tooM f h := by
  have z : ∀ p : Prop, (p ∨ c = 40) := fun p => Or.inr hc
  unfold pCl
  rw [cI_t (z _), cI_t (z _), cI_t (z _), cI_t (z _), cI_t (z _), cI_t (z _)]
  rcases hw with w | w | w | w | w | w
  · rw [cI_t w]
  · by_cases n0 : wq b L f 0
    · rw [cI_t n0]
    · rw [cI_f n0, cI_t w]
  · by_cases n0 : wq b L f 0
    · rw [cI_t n0]
    rw [cI_f n0]
    by_cases n1 : wq b L f 1
    · rw [cI_t n1]
    · rw [cI_f n1, cI_t w]
  · by_cases n0 : wq b L f 0
    · rw [cI_t n0]
    rw [cI_f n0]
    by_cases n1 : wq b L f 1
    · rw [cI_t n1]
    rw [cI_f n1]
    by_cases n2 : wq b L f 2
    · rw [cI_t n2]
    · rw [cI_f n2, cI_t w]
  · by_cases n0 : wq b L f 0
    · rw [cI_t n0]
    rw [cI_f n0]
    by_cases n1 : wq b L f 1
    · rw [cI_t n1]
    rw [cI_f n1]
    by_cases n2 : wq b L f 2
    · rw [cI_t n2]
    rw [cI_f n2]
    by_cases n3 : wq b L f 3
    · rw [cI_t n3]
    · rw [cI_f n3, cI_t w]
  · by_cases n0 : wq b L f 0
    · rw [cI_t n0]
    rw [cI_f n0]
    by_cases n1 : wq b L f 1
    · rw [cI_t n1]
    rw [cI_f n1]
    by_cases n2 : wq b L f 2
    · rw [cI_t n2]
    rw [cI_f n2]
    by_cases n3 : wq b L f 3
    · rw [cI_t n3]
    rw [cI_f n3]
    by_cases n4 : wq b L f 4
    · rw [cI_t n4]
    · rw [cI_f n4, cI_t w]
theorem pCl_no (hw : ¬ isHW b L f) : pCl b L f c h = (1 + 8 * (f : Int) + 0, f, h) := by
  unfold isHW at hw
  unfold pCl
  rw [cI_f (fun z => hw (Or.inl z)), cI_f (fun z => hw (Or.inr (Or.inl z))), cI_f (fun z => hw (Or.inr (Or.inr (Or.inl z)))), cI_f (fun z => hw (Or.inr (Or.inr (Or.inr (Or.inl z))))), cI_f (fun z => hw (Or.inr (Or.inr (Or.inr (Or.inr (Or.inl z)))))), cI_f (fun z => hw (Or.inr (Or.inr (Or.inr (Or.inr (Or.inr z))))))]
theorem c12_houseLineHere {Q : Int → Mem → Prop} (T : Te b L M f) (hw : isHW b L f) (R : RdM h M) (K : HOKr h) (h15 : M 0 15 0 = 0)
    (ht : (hlS b L f h).1 = 0 → ∀ M', EqX hdF M M' → M' 0 15 0 = 0 → Tm b L M' (hlS b L f h).2.1 → RdM (hlS b L f h).2.2 M' → Q 1 M')
    (hf : (hlS b L f h).1 ≠ 0 → ∀ M', EqX hdF M M' → M' 0 15 0 = (hlS b L f h).1 → Q 0 M') : OkI G (n + 3) mX12_houseLineHere [vO 0, vI (f : Int)] M Q := by
  refine eX12_houseLineHere (fun Kx => bX12_houseLineHere_0 ?_)
  have z15 : ∀ M1, EqX [(0, 14)] M M1 → M1 0 15 0 = 0 := fun M1 e => by rw [e 0 15 0 (by decide)]; exact h15
  have sb : ∀ {M1 M2}, EqX [(0, 14)] M M1 → EqX hdF M1 M2 → EqX hdF M M2 := fun a d => (a.sub (by decide)).trans d
  refine c12_isWord (j := 0) (by decide) (by decide) T.tm (fun w0 M1 e1 T1 => ⟨fun z => absurd z (by decide), fun _ => ?_⟩) (fun w0 M1 e1 T1 => ⟨fun _ => ?_, fun z => absurd rfl z⟩)
  · have he : hlS b L f h = cI (h 0 = 16) (tooM f h) (pRoom b L (nx b L f) h) := by unfold hlS; rw [cI_t w0]
    rw [he] at ht hf
    exact c12_isRoomHere T1 w0.1 (RdM_14 R e1) K (z15 M1 e1) (fun x M2 e2 g T2 R2 => ⟨Or.inr rfl, ht x M2 (sb e1 e2) g T2 R2⟩) (fun x M2 e2 g => ⟨Or.inl rfl, hf x M2 (sb e1 e2) g⟩)
  refine c12_isWord (j := 1) (by decide) (by decide) T1.tm (fun w1 M2 e2 T2 => ⟨fun _ => ?_, fun z => absurd z (by decide)⟩) (fun w1 M2 e2 T2 => ⟨fun z => absurd rfl z, fun _ => ?_⟩)
  · have he : hlS b L f h = cI (h 1 = 24) (tooM f h) (pWay b L (nx b L f) h 0) := by unfold hlS; rw [cI_f w0, cI_t w1]
    rw [he] at ht hf
    refine c12_isWord (j := 2) (by decide) (by decide) T2.tm (fun w2 M3 e3 T3 => absurd w2 (wq_one (by decide) w1)) (fun w2 M3 e3 T3 => ?_)
    have E3 := (e1.trans e2).trans e3
    exact c12_isWayHere (Or.inl rfl) T3 w1.1 (RdM_14 R E3) K (z15 M3 E3) (fun x M4 e4 g T4 R4 => ⟨Or.inr rfl, ht x M4 (sb E3 e4) g T4 R4⟩) (fun x M4 e4 g => ⟨Or.inl rfl, hf x M4 (sb E3 e4) g⟩)
  have E2 := e1.trans e2
  refine c12_isWord (j := 2) (by decide) (by decide) T2.tm (fun w2 M3 e3 T3 => ⟨fun z => absurd z (by decide), fun _ => ?_⟩) (fun w2 M3 e3 T3 => ⟨fun _ => ?_, fun z => absurd rfl z⟩)
  · have he : hlS b L f h = cI (h 1 = 24) (tooM f h) (pWay b L (nx b L f) h 1) := by unfold hlS; rw [cI_f w0, cI_f w1, cI_t w2]
    rw [he] at ht hf
    refine c12_isWord (j := 2) (by decide) (by decide) T3.tm (fun _ M4 e4 T4 => ?_) (fun z => absurd w2 z)
    have E4 := (E2.trans e3).trans e4
    exact c12_isWayHere (Or.inr rfl) T4 w2.1 (RdM_14 R E4) K (z15 M4 E4) (fun x M5 e5 g T5 R5 => ⟨Or.inr rfl, ht x M5 (sb E4 e5) g T5 R5⟩) (fun x M5 e5 g => ⟨Or.inl rfl, hf x M5 (sb E4 e5) g⟩)
  have E3 := E2.trans e3
  refine c12_isWord (j := 3) (by decide) (by decide) T3.tm (fun w3 M4 e4 T4 => ⟨fun z => absurd z (by decide), fun _ => ?_⟩) (fun w3 M4 e4 T4 => ⟨fun _ => ?_, fun z => absurd rfl z⟩)
  · have he : hlS b L f h = pDoor b L (nx b L f) h := by unfold hlS; rw [cI_f w0, cI_f w1, cI_f w2, cI_t w3]
    rw [he] at ht hf
    have E4 := E3.trans e4
    exact c12_isDoorHere T4 w3.1 (RdM_14 R E4) K (z15 M4 E4) (fun x M5 e5 g T5 R5 => ⟨Or.inr rfl, ht x M5 (sb E4 e5) g T5 R5⟩) (fun x M5 e5 g => ⟨Or.inl rfl, hf x M5 (sb E4 e5) g⟩)
  have E4 := E3.trans e4
  refine c12_isWord (j := 4) (by decide) (by decide) T4.tm (fun w4 M5 e5 T5 => ⟨fun z => absurd z (by decide), fun _ => ?_⟩) (fun w4 M5 e5 T5 => ⟨fun _ => ?_, fun z => absurd rfl z⟩)
  · have he : hlS b L f h = cI (h 6 ≠ 0) (tooM f h) (pHoist b L (nx b L f) h) := by unfold hlS; rw [cI_f w0, cI_f w1, cI_f w2, cI_f w3, cI_t w4]
    rw [he] at ht hf
    have E5 := E4.trans e5
    exact c12_isHoistHere T5 w4.1 (RdM_14 R E5) K (z15 M5 E5) (fun x M6 e6 g T6 R6 => ⟨Or.inr rfl, ht x M6 (sb E5 e6) g T6 R6⟩) (fun x M6 e6 g => ⟨Or.inl rfl, hf x M6 (sb E5 e6) g⟩)
  have E5 := E4.trans e5
  have he : hlS b L f h = cI (h 2 = 8) (tooM f h) (pPerson b L (nx b L f) h) := by unfold hlS; rw [cI_f w0, cI_f w1, cI_f w2, cI_f w3, cI_f w4]
  rw [he] at ht hf
  have w5 : wq b L f 5 := by
    rcases hw with w | w | w | w | w | w
    · exact absurd w w0
    · exact absurd w w1
    · exact absurd w w2
    · exact absurd w w3
    · exact absurd w w4
    · exact w
  exact c12_isPersonHere T5 w5.1 (RdM_14 R E5) K (z15 M5 E5) (fun x M6 e6 g T6 R6 => ⟨Or.inr rfl, ht x M6 (sb E5 e6) g T6 R6⟩) (fun x M6 e6 g => ⟨Or.inl rfl, hf x M6 (sb E5 e6) g⟩)
theorem c12_isHouseWord {Q : Int → Mem → Prop} (T : Tm b L M f) (ht : isHW b L f → ∀ M', EqX [(0, 14)] M M' → Te b L M' f → Q 1 M') (hf : ¬ isHW b L f → ∀ M', EqX [(0, 14)] M M' → Te b L M' f → Q 0 M') : OkI G (n + 2) mX12_isHouseWord [vO 0] M Q := by
  unfold isHW at ht hf
  refine eX12_isHouseWord (fun Kx => bX12_isHouseWord_0 ?_)
  refine c12_isWord (j := 0) (by decide) (by decide) T (fun w0 M1 e1 T1 => ⟨fun _ => ht (Or.inl w0) M1 e1 T1, fun z => absurd z (by decide)⟩) (fun w0 M1 e1 T1 => ⟨fun z => absurd rfl z, fun _ => ?_⟩)
  refine c12_isWord (j := 1) (by decide) (by decide) T1.tm (fun w1 M2 e2 T2 => ⟨fun _ => ht (Or.inr (Or.inl w1)) M2 (e1.trans e2) T2, fun z => absurd z (by decide)⟩) (fun w1 M2 e2 T2 => ⟨fun z => absurd rfl z, fun _ => ?_⟩)
  have E2 := e1.trans e2
  refine c12_isWord (j := 2) (by decide) (by decide) T2.tm (fun w2 M3 e3 T3 => ⟨fun _ => ht (Or.inr (Or.inr (Or.inl w2))) M3 (E2.trans e3) T3, fun z => absurd z (by decide)⟩) (fun w2 M3 e3 T3 => ⟨fun z => absurd rfl z, fun _ => ?_⟩)
  have E3 := E2.trans e3
  refine c12_isWord (j := 3) (by decide) (by decide) T3.tm (fun w3 M4 e4 T4 => ⟨fun _ => ht (Or.inr (Or.inr (Or.inr (Or.inl w3)))) M4 (E3.trans e4) T4, fun z => absurd z (by decide)⟩) (fun w3 M4 e4 T4 => ⟨fun z => absurd rfl z, fun _ => ?_⟩)
  have E4 := E3.trans e4
  refine c12_isWord (j := 4) (by decide) (by decide) T4.tm (fun w4 M5 e5 T5 => ⟨fun _ => ht (Or.inr (Or.inr (Or.inr (Or.inr (Or.inl w4))))) M5 (E4.trans e5) T5, fun z => absurd z (by decide)⟩) (fun w4 M5 e5 T5 => ⟨fun z => absurd rfl z, fun _ => ?_⟩)
  have E5 := E4.trans e5
  refine c12_isWord (j := 5) (by decide) (by decide) T5.tm (fun w5 M6 e6 T6 => ⟨fun z => absurd z (by decide), fun _ => ht (Or.inr (Or.inr (Or.inr (Or.inr (Or.inr w5))))) M6 (E5.trans e6) T6⟩) (fun w5 M6 e6 T6 => ⟨fun _ => hf ?_ M6 (E5.trans e6) T6, fun z => absurd rfl z⟩)
  rintro (w | w | w | w | w | w)
  · exact w0 w
  · exact w1 w
  · exact w2 w
  · exact w3 w
  · exact w4 w
  · exact w5 w
theorem c12_clauseHere_h {Q : Int → Mem → Prop} (T : Tm b L M f) (R : RdM h M) (K : HOKr h) (h15 : M 0 15 0 = 0) (h17 : M 0 17 0 = 6) (hc : M 0 20 0 = (c : Int)) (hc40 : c ≤ 40)
    (ht : (pCl b L f c h).1 = 0 → ∀ M', EqX ((0, 20) :: hdF) M M' → M' 0 15 0 = 0 → M' 0 20 0 = ((c + 1 : Nat) : Int) → Tm b L M' (pCl b L f c h).2.1 → RdM (pCl b L f c h).2.2 M' → Q 1 M')
    (hf : (pCl b L f c h).1 ≠ 0 → ∀ M', EqX ((0, 20) :: hdF) M M' → M' 0 15 0 = (pCl b L f c h).1 → Q 0 M') : OkI G (n + 4) mX12_clauseHere [vO 0] M Q := by
  obtain ⟨fL, L4, -⟩ := T.le
  refine eX12_clauseHere (fun Kx => bX12_clauseHere_0 (c12_see T (fun M1 e1 T1 => ?_)))
  have g17 : M1 0 17 0 = 6 := by rw [e1 0 17 0 (by decide)]; exact h17
  rw [g17, T1.2.1]
  refine ⟨fun z => absurd rfl z, fun _ => bX12_clauseHere_24 ⟨fun z => absurd z (by decide), fun _ => ?_⟩⟩
  refine c12_isHouseWord T1.tm (fun w M2 e2 T2 => ⟨fun z => absurd z (by decide), fun _ => ⟨fun z => absurd z (by decide), fun _ => ?_⟩⟩) (fun w M2 e2 T2 => ⟨fun _ => ?_, fun z => absurd rfl z⟩)
  · have E2 := e1.trans e2
    have g20 : M2 0 20 0 = (c : Int) := by rw [E2 0 20 0 (by decide)]; exact hc
    have g15 : M2 0 15 0 = 0 := by rw [E2 0 15 0 (by decide)]; exact h15
    rw [g20]
    refine bX12_clauseHere_91 ⟨fun z M3 m3 => ?_, fun z => ?_⟩
    · rw [g20, wr_nat (j := c) (by omega)] at m3
      have hne : c ≠ 40 := fun q => z (by omega)
      rw [pCl_hl hne w] at ht hf
      have e3 : EqX [(0, 20)] M2 M3 := by rw [m3]; exact EqX.mset (by decide)
      have E3 : EqX ((0, 20) :: hdF) M M3 := (E2.sub (by decide)).trans (e3.sub (by decide))
      refine ⟨fun u => absurd u (by decide), fun _ => c12_houseLineHere (T2.eq e3 (by decide) (by decide) (by decide)) w (RdM_eq (RdM_14 R E2) e3 (by decide) (by decide) (by decide) (by decide) (by decide) (by decide) (by decide)) K (by rw [e3 0 15 0 (by decide)]; exact g15) (fun x M4 e4 g T4 R4 => ⟨Or.inr rfl, ht x M4 (E3.trans (e4.sub (by decide))) g ?_ T4 R4⟩) (fun x M4 e4 g => ⟨Or.inl rfl, hf x M4 (E3.trans (e4.sub (by decide))) g⟩)⟩
      rw [e4 0 20 0 (by decide), m3, mset_self]
    · have hq : c = 40 := by omega
      rw [pCl_40 hq w] at hf
      exact c12_fails g15 (by decide) (by omega) (fun M4 e4 g => ⟨Or.inl rfl, hf (by show ¬ (1 + 8 * (f : Int) + 4 = 0); omega) M4 ((E2.sub (by decide)).trans (e4.sub (by decide))) g⟩)
  · have E2 := e1.trans e2
    rw [pCl_no w] at hf
    exact c12_fails (by rw [E2 0 15 0 (by decide)]; exact h15) (by decide) (by omega) (fun M4 e4 g => ⟨Or.inl rfl, hf (by show ¬ (1 + 8 * (f : Int) + 0 = 0); omega) M4 ((E2.sub (by decide)).trans (e4.sub (by decide))) g⟩)
theorem bh_sg {d : Int} (hd : ¬ pL d = true ∧ ¬ pD d = true ∧ d ≠ 60 ∧ d ≠ 62) (hf : f < L) (e : b f = d) : bh b L f = f + 1 := by
  have h1 : ¬ pL (b f) = true := by rw [e]; exact hd.1
  have h2 : ¬ pD (b f) = true := by rw [e]; exact hd.2.1
  unfold bh
  rw [if_neg (by omega), if_neg h1, if_neg h2, if_neg (by omega)]
abbrev rsF : List (Nat × Nat) := (0, 1) :: (0, 4) :: (0, 18) :: (0, 20) :: hdF
theorem c12_readsAll_h {Q : Int → Mem → Prop} (T : Tq b L M) (R : RdM (fun _ => 0) M) (h17 : M 0 17 0 = 6)
    (ht : (hAll b L).1 = 0 → ∀ M', EqX rsF M M' → M' 0 1 0 = 0 → RdM (hAll b L).2 M' → Q 1 M')
    (hf : (hAll b L).1 ≠ 0 → ∀ M', EqX rsF M M' → M' 0 1 0 = 0 → M' 0 15 0 = (hAll b L).1 → Q 0 M') : OkI G (n + 5) mX12_readsAll [vO 0] M Q := by
  refine eX12_readsAll (fun Kx => bX12_readsAll_0 ?_)
  rw [h17]
  refine ⟨⟨by decide, by decide⟩, fun M1 m1 M2 m2 M3 m3 M4 m4 M5 m5 => ?_⟩
  have E5 : EqX [(0, 4), (0, 14), (0, 15), (0, 18), (0, 20)] M M5 := by rw [m5, m4, m3, m2, m1]; exact ((((EqX.mset (by decide)).trans (EqX.mset (by decide))).trans (EqX.mset (by decide))).trans (EqX.mset (by decide))).trans (EqX.mset (by decide))
  have T5 : Tm b L M5 (run pB b L 0) := ⟨Tq_cg T (E5.fld (by decide)) (E5.fld (by decide)), 0, by rw [m5, mset_ne (by simp), m4, mset_ne (by simp), m3, mset_self]; rfl, Nat.zero_le _, rfl⟩
  have R5 : RdM (fun _ => 0) M5 := RdM_eq R E5 (by decide) (by decide) (by decide) (by decide) (by decide) (by decide) (by decide)
  have g15 : M5 0 15 0 = 0 := by rw [m5, mset_ne (by simp), m4, mset_self]
  have g17 : M5 0 17 0 = 6 := by rw [E5 0 17 0 (by decide)]; exact h17
  have g20 : M5 0 20 0 = ((0 : Nat) : Int) := by rw [m5, mset_ne (by simp), m4, mset_ne (by simp), m3, mset_ne (by simp), m2, mset_self]; rfl
  -- a fault ends it
  have bad : ∀ Mc, EqX rsF M Mc → Mc 0 15 0 = (hAll b L).1 → (hAll b L).1 ≠ 0 → CW G Kx mX12_readsAll (n + 5) 88 [some (vO 0), some (vI 0)] [] Mc (qI Q) := by
    intro Mc e g z
    refine bX12_readsAll_88 ⟨fun _ Md md => ?_, fun w => absurd rfl w⟩
    have gd : Md 0 15 0 = (hAll b L).1 := by rw [md, mset_ne (by simp)]; exact g
    rw [gd]
    exact ⟨fun w => hf w Md (by rw [md]; exact e.trans (EqX.mset (by decide))) (by rw [md, mset_self]) gd, fun w => absurd w z⟩
  have bad35 : ∀ Mc, EqX rsF M Mc → Mc 0 15 0 = (hAll b L).1 → (hAll b L).1 ≠ 0 → CW G Kx mX12_readsAll (n + 5) 35 [some (vO 0), some (vI 0)] [] Mc (qI Q) := fun Mc e g z => bX12_readsAll_35 ⟨fun _ => bX12_readsAll_66 ⟨fun _ => bad Mc e g z, fun w => absurd rfl w⟩, fun w => absurd rfl w⟩
  have loop : ∀ (k c f : Nat) (h : Int → Int) (Mc : Mem), c + k = 41 → c ≤ 40 → EqX rsF M Mc → Tm b L Mc f → RdM h Mc → HOKr h → Mc 0 15 0 = 0 → Mc 0 17 0 = 6 → Mc 0 20 0 = (c : Int) → hLp b L k c f h = hAll b L → OkI G (n + 4) mX12_clauseHere [vO 0] Mc (fun r_1 M6 => CW G Kx mX12_readsAll (n + 5) 35 [some (vO 0), some (vI r_1)] [] M6 (qI Q)) := by
    intro k
    induction k with
    | zero => intro c f h Mc hk hc; omega
    | succ k ih =>
      intro c f h Mc hk hc E T R K q15 q17 q20 he
      obtain ⟨fL, L4, -⟩ := T.le
      rw [hLp_s] at he
      refine c12_clauseHere_h T R K q15 q17 q20 hc (fun z M6 e6 p15 p20 T6 R6 => ?_) (fun z M6 e6 p15 => ?_)
      · obtain ⟨a1, a2, a3, a4⟩ := pCl_ok K fL z
        rw [if_pos z] at he
        have E6 : EqX rsF M M6 := E.trans (e6.sub (by decide))
        refine bX12_readsAll_35 ⟨fun w => absurd w (by decide), fun _ => c12_see T6 (fun M7 e7 T7 => ?_)⟩
        have E7 : EqX rsF M M7 := E6.trans (e7.sub (by decide))
        have p15' : M7 0 15 0 = 0 := by rw [e7 0 15 0 (by decide)]; exact p15
        by_cases y : L ≤ (pCl b L f c h).2.1
        · rw [if_pos y] at he
          have hb : byA b L (pCl b L f c h).2.1 = -1 := by unfold byA; rw [if_neg (by omega)]
          rw [hb]
          refine ⟨fun _ => bX12_readsAll_66 ⟨fun w => absurd w (by decide), fun _ => c12_see T7.tm (fun M8 e8 T8 => ?_)⟩, fun w => absurd w (by decide)⟩
          rw [hb]
          have E8 : EqX rsF M M8 := E7.trans (e8.sub (by decide))
          refine ⟨fun _ => bX12_readsAll_88 ⟨fun w => absurd w (by decide), fun _ => ?_⟩, fun w => absurd rfl w⟩
          have g17' : M8 0 17 0 = 6 := by rw [e8 0 17 0 (by decide), e7 0 17 0 (by decide), e6 0 17 0 (by decide)]; exact q17
          have R8 : RdM (pCl b L f c h).2.2 M8 := RdM_14 (RdM_14 R6 e7) e8
          have g15' : M8 0 15 0 = 0 := by rw [e8 0 15 0 (by decide)]; exact p15'
          rw [g17', show M8 0 7 0 = (pCl b L f c h).2.2 0 from R8.1, T8.2.1]
          refine ⟨fun w => absurd rfl w, fun _ => ⟨fun w M9 m9 => ?_, fun w => ?_⟩⟩
          · rw [if_neg w] at he
            have g9 : M9 0 15 0 = 0 := by rw [m9, mset_ne (by simp)]; exact g15'
            have e9 : EqX [(0, 1)] M8 M9 := by rw [m9]; exact EqX.mset (by decide)
            rw [g9]
            refine ⟨fun u => absurd rfl u, fun _ => ht (by rw [← he]) M9 (E8.trans (e9.sub (by decide))) (by rw [m9, mset_self]) ?_⟩
            rw [← he]
            exact RdM_eq R8 e9 (by decide) (by decide) (by decide) (by decide) (by decide) (by decide) (by decide)
          · rw [if_pos w] at he
            refine c12_fails g15' (by decide) (by omega) (fun M9 e9 g9 Ma ma => ?_)
            have ga : Ma 0 15 0 = (hAll b L).1 := by rw [ma, mset_ne (by simp), g9, ← he]
            rw [ga]
            have hz : (hAll b L).1 ≠ 0 := by rw [← he]; show ¬ (1 + 8 * (((pCl b L f c h).2.1 : Nat) : Int) + 0 = 0); omega
            exact ⟨fun u => hf u Ma (by rw [ma]; exact (E8.trans (e9.sub (by decide))).trans (EqX.mset (by decide))) (by rw [ma, mset_self]) ga, fun u => absurd u hz⟩
        · rw [if_neg y] at he
          have hlt : (pCl b L f c h).2.1 < L := by omega
          have hb : byA b L (pCl b L f c h).2.1 = b (pCl b L f c h).2.1 := by unfold byA; rw [if_pos hlt]
          rw [hb]
          refine ⟨fun x => ?_, fun x M8 m8 => ?_⟩
          · rw [if_neg x] at he
            have hz : (hAll b L).1 ≠ 0 := by rw [← he]; show ¬ (1 + 8 * (((pCl b L f c h).2.1 : Nat) : Int) + 0 = 0); omega
            refine bX12_readsAll_66 ⟨fun w => absurd w (by decide), fun _ => c12_see T7.tm (fun M8 e8 T8 => ?_)⟩
            rw [hb]
            have hnn : 0 ≤ b (pCl b L f c h).2.1 := (T7.1.2.2 _ (by omega)).1
            refine ⟨fun w => absurd w (by omega), fun _ => ?_⟩
            rw [T8.2.1]
            refine c12_fails (by rw [e8 0 15 0 (by decide)]; exact p15') (by decide) (by omega) (fun M9 e9 g9 => bad M9 ((E7.trans (e8.sub (by decide))).trans (e9.sub (by decide))) (by rw [g9, ← he]) hz)
          · rw [if_pos x] at he
            rw [T7.2.1, wr_nat (j := (pCl b L f c h).2.1) (by omega)] at m8
            have e8 : EqX [(0, 14)] M7 M8 := by rw [m8]; exact EqX.mset (by decide)
            have T8 : Tm b L M8 (nx b L (pCl b L f c h).2.1) := ⟨Tq_cg T7.1 (e8.fld (by decide)) (e8.fld (by decide)), (pCl b L f c h).2.1 + 1, by rw [m8, mset_self], by omega, by unfold nx; rw [bh_sg (by decide) hlt x]⟩
            refine ih (c + 1) _ _ M8 (by omega) (by omega) (E7.trans (e8.sub (by decide))) T8 (RdM_14 (RdM_14 R6 e7) e8) a1 ?_ ?_ ?_ he
            · rw [e8 0 15 0 (by decide)]; exact p15'
            · rw [e8 0 17 0 (by decide), e7 0 17 0 (by decide), e6 0 17 0 (by decide)]; exact q17
            · rw [e8 0 20 0 (by decide), e7 0 20 0 (by decide)]; exact p20
      · rw [if_neg z] at he
        exact bad35 M6 (E.trans (e6.sub (by decide))) (by rw [p15, ← he]) (by rw [← he]; exact z)
  exact loop 41 0 (run pB b L 0) (fun _ => 0) M5 (by decide) (by decide) (E5.sub (by decide)) T5 R5 h00 g15 g17 g20 rfl
end MHA
