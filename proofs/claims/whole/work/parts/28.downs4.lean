section DB
variable {G : Gx} {n : Nat} {M : Mem} {s : Int → Int} {t : Int} {T : Int → Int × Int}
/-- the least below b of whom c speaks, or d -/
def isFst (c : Int → Prop) (b d x : Int) : Prop := (0 ≤ x ∧ x < b ∧ c x ∧ ∀ j, 0 ≤ j → j < x → ¬ c j) ∨ (x = d ∧ ∀ j, 0 ≤ j → j < b → ¬ c j)
theorem isFst_one {c : Int → Prop} {b d x y : Int} (h : isFst c b d x) (h' : isFst c b d y) : x = y := by
  rcases h with ⟨a1, a2, a3, a4⟩ | ⟨a1, a2⟩ <;> rcases h' with ⟨b1, b2, b3, b4⟩ | ⟨b1, b2⟩
  · rcases Int.lt_trichotomy x y with q | q | q
    · exact absurd a3 (b4 x a1 q)
    · exact q
    · exact absurd b3 (a4 y b1 q)
  · exact absurd a3 (b2 x a1 a2)
  · exact absurd b3 (a2 y b1 b2)
  · rw [a1, b1]
theorem DR4 {l : List (Nat × Nat)} {M' : Mem} (h : EqX l M M') (hn : (0, 26) ∉ l) : sd M' = sd M := funext (fun i => sd_eq h hn i)
def cdL (s : Int → Int) (T : Int → Int × Int) (r j : Int) : Prop := s (28 + 6 * j + 3) = 0 ∧ s (28 + 6 * j + 0) = r ∧ 0 < (T (s (28 + 6 * j + 1))).1 ∧ (T (s (28 + 6 * j + 1))).2 + 1 = (T r).2
theorem c1_fol {Q : Int → Mem → Prop} {r : Int} {o : Nat} (ho : oc o = 1) (H : HR (M o) s) (K : HOK s) (gT : ∀ r, gdD 41 (T r)) (h1 : 0 ≤ r) (h2 : r < s 0) (hT : ∀ r : Int, 0 ≤ r → r < s 0 → M 1 13 r.toNat = enc (T r)) (h : ∀ x, isFst (cdL s T r) (s 1) (-2) x → Q x M) : OkI G (n + 2) mX1_firstOfLongest [vO o, vI r, vA 1 13] M Q := by
  have k1 := K.2.1
  have k2 := K.2.2.1
  have k3 := K.2.2.2.1
  refine eX1_firstOfLongest (fun Kx => bX1_firstOfLongest_0 ⟨fun z => absurd z (by omega), fun _ => ⟨fun _ => ?_, fun z => absurd (by omega) z⟩⟩)
  have loop : ∀ (k : Nat) (_ : Unit), k ≤ (s 1).toNat → (∀ j : Int, 0 ≤ j → j < (k : Int) → ¬ cdL s T r j) → CW G Kx mX1_firstOfLongest (n + 2) 15 [some (vO o), some (vI r), some (vA 1 13), some (vI (k : Int)), none] [] M (qI Q) := by
    refine up_ind (fun _ i => ?_) (fun k _ hk i ih => ?_)
    · refine bX1_firstOfLongest_15 ho ?_
      rw [H.2.1]
      exact ⟨fun _ => h _ (Or.inr ⟨rfl, fun j j1 j2 => i j j1 (by omega)⟩), fun z => absurd (by omega) z⟩
    · have hk' : (k : Int) < s 1 := by omega
      have kb : (0 : Int) ≤ k ∧ (k : Int) < 24 := ⟨by omega, by omega⟩
      refine bX1_firstOfLongest_15 ho ?_
      rw [H.2.1]
      refine ⟨fun z => absurd z (by omega), fun _ => ?_⟩
      have w1 : M o 9 (k : Int).toNat = s (28 + 6 * (k : Int) + 1) := (H.way kb.1 hk').2.1
      obtain ⟨-, hb, -⟩ := K.way (w := (k : Int)) kb.1 hk'
      have hb16 : s (28 + 6 * (k : Int) + 1) < 16 := by omega
      have skip : ¬ cdL s T r (k : Int) → CW G Kx mX1_firstOfLongest (n + 2) 15 [some (vO o), some (vI r), some (vA 1 13), some (vI (wr ((k : Int) + 1))), none] [] M (qI Q) := by
        intro z
        rw [wr_n hk' (by omega)]
        refine ih () (fun j j1 j2 => ?_)
        by_cases e : j = (k : Int)
        · rw [e]; exact z
        · exact i j j1 (by omega)
      refine c1_isFlightFrom ho H K kb.1 hk' (fun b c => ⟨fun z => absurd z (by decide), fun _ => ⟨kb, ?_⟩⟩) (fun b => ⟨fun _ => bX1_firstOfLongest_61 ho ⟨fun _ => skip (fun z => b ⟨z.1, z.2.1⟩), fun z => absurd rfl z⟩, fun z => absurd rfl z⟩)
      rw [w1]
      refine c1_isRoom ho H k1 (fun _ _ => ⟨fun z => absurd z (by decide), fun _ => ⟨kb, ?_⟩⟩) (fun z => absurd hb z)
      rw [w1]
      refine ⟨fun z => absurd z (by omega), fun _ => bX1_firstOfLongest_61 ho ⟨fun z => absurd z (by decide), fun _ => ⟨kb, ?_⟩⟩⟩
      rw [w1, hT _ hb.1 hb.2, hT r h1 h2]
      have gd := gT (s (28 + 6 * (k : Int) + 1))
      have gr := gT r
      have ee : enc (T (s (28 + 6 * (k : Int) + 1))) = if 0 < (T (s (28 + 6 * (k : Int) + 1))).1 then (T (s (28 + 6 * (k : Int) + 1))).2 else -2 := rfl
      have er : enc (T r) = if 0 < (T r).1 then (T r).2 else -2 := rfl
      unfold gdD at gd gr
      refine ⟨⟨hb.1, hb16⟩, fun z => skip (fun y => ?_), fun z => ⟨kb, ⟨hb.1, hb16⟩, ⟨h1, by omega⟩, fun y => skip (fun x => y ?_), fun y => h _ (Or.inl ⟨kb.1, hk', ?_, i⟩)⟩⟩
      · rw [ee, if_pos y.2.2.1] at z; have := gd.2.2.2.2.mp y.2.2.1; omega
      · obtain ⟨x1, x2, x3, x4⟩ := x
        rw [ee, if_pos x3, er, if_pos (gr.2.2.2.2.mpr (by omega)), wrs (x := (T (s (28 + 6 * (k : Int) + 1))).2 + 1) (by omega) (by omega)]
        exact x4
      · by_cases p : 0 < (T (s (28 + 6 * (k : Int) + 1))).1
        · rw [ee, if_pos p, wrs (x := (T (s (28 + 6 * (k : Int) + 1))).2 + 1) (by omega) (by omega), er] at y
          by_cases q : 0 < (T r).1
          · rw [if_pos q] at y; exact ⟨b, c, p, y⟩
          · rw [if_neg q] at y; omega
        · rw [ee, if_neg p] at z; exact absurd (by decide) z
  exact loop 0 () (by omega) (fun j j1 j2 => by omega)
theorem c12_downs {x1 x2 x3 : Int} {P : Int → Mem → Prop} (K : HOK (sd M)) (hDT : DT (sd M) x2 T) (p1 : ¬ (0 ≤ x1 ∧ x1 < sd M 0 ∧ 0 ≤ x2 ∧ x2 < sd M 0 ∧ 0 ≤ x3 ∧ x3 ≤ 2) → P (-1) M)
    (p2 : 0 ≤ x1 → x1 < sd M 0 → 0 ≤ x2 → x2 < sd M 0 → 0 ≤ x3 → x3 ≤ 2 → ∀ M2 : Mem, EqX [(0, 30), (0, 31)] M M2 → (x3 = 0 → P (T x1).1 M2) ∧ (x3 = 1 → P (enc (T x1)) M2) ∧ (x3 = 2 → ∀ x, isFst (cdL (sd M) T x1) (sd M 1) (-2) x → P x M2)) : OkI G (n + 2) mX12_downs [vO 0, vI x1, vI x2, vI x3] M P := by
  have k1 := K.2.1
  have k2 := K.2.2.1
  have k3 := K.2.2.2.1
  refine eX12_downs (fun Kx => bX12_downs_0 (c12_isRoom (fun a b => ⟨fun z => absurd z (by decide), fun _ => c12_isRoom (fun c d => ⟨fun z => absurd z (by decide), fun _ => c12_in (fun e g => ⟨fun _ => ?_, fun z => absurd z (by decide)⟩) (fun e => ⟨fun z => absurd rfl z, fun _ => p1 (by omega)⟩)⟩) (fun c => ⟨fun _ => p1 (by omega), fun z => absurd rfl z⟩)⟩) (fun a => ⟨fun _ => p1 (by omega), fun z => absurd rfl z⟩)))
  refine c12_descends rfl hDT K c d (fun M2 i1 i2 => ?_)
  obtain ⟨q0, q1, q2⟩ := p2 a b c d e g M2 i1
  have es := DR4 i1 (by decide)
  have v := i2 x1 a b
  have v1 : M2 0 30 x1.toNat = (T x1).1 := congrArg Prod.fst v
  have v2 : M2 0 31 x1.toNat = (T x1).2 := congrArg Prod.snd v
  have gr := hDT.2.1 x1
  have er : enc (T x1) = if 0 < (T x1).1 then (T x1).2 else -2 := rfl
  unfold gdD at gr
  rw [v1, v2]
  have hx : x1 < 16 := by omega
  refine ⟨fun y => ⟨⟨a, hx⟩, fun z => ⟨fun w => ?_, fun w => ⟨⟨a, hx⟩, ?_⟩⟩, fun z => ?_⟩, fun y => ⟨⟨a, hx⟩, q0 y⟩⟩
  · have fin := q2 (by omega)
    have loop : ∀ (k : Nat) (_ : Unit), k ≤ (sd M 1).toNat → (∀ j : Int, 0 ≤ j → j < (k : Int) → ¬ cdL (sd M) T x1 j) → CW G Kx mX12_downs (n + 2) 73 [some (vO 0), some (vI x1), none, none, some (vI (k : Int))] [] M2 (qI P) := by
      refine up_ind (fun _ i => ?_) (fun k _ hk i ih => ?_)
      · refine bX12_downs_73 ⟨fun _ => fin _ (Or.inr ⟨rfl, fun j j1 j2 => i j j1 (by omega)⟩), fun z => absurd (show sd M2 1 ≤ _ by rw [es]; omega) z⟩
      · have hk' : (k : Int) < sd M 1 := by omega
        have kb : (0 : Int) ≤ k ∧ (k : Int) < 24 := ⟨by omega, by omega⟩
        have skip : ¬ cdL (sd M) T x1 (k : Int) → CW G Kx mX12_downs (n + 2) 73 [some (vO 0), some (vI x1), none, none, some (vI (wr ((k : Int) + 1)))] [] M2 (qI P) := by
          intro z
          rw [wr_n hk' (by omega)]
          refine ih () (fun j j1 j2 => ?_)
          by_cases e : j = (k : Int)
          · rw [e]; exact z
          · exact i j j1 (by omega)
        obtain ⟨-, hb, -⟩ := K.way (w := (k : Int)) kb.1 hk'
        have hb16 : sd M (28 + 6 * (k : Int) + 1) < 16 := by omega
        refine bX12_downs_73 ⟨fun z => absurd (show sd M2 1 ≤ _ from z) (by rw [es]; omega), fun _ => ?_⟩
        refine c12_wayOf kb.1 kb.2 (by decide) (by decide) ⟨fun u => skip (fun z => u (by rw [es]; exact z.1)), fun u => c12_wayOf kb.1 kb.2 (by decide) (by decide) ⟨fun u2 => skip (fun z => u2 (by rw [es]; exact z.2.1)), fun u2 => c12_wayOf kb.1 kb.2 (by decide) (by decide) ?_⟩⟩
        rw [es] at u u2 ⊢
        have va := i2 _ hb.1 hb.2
        have va2 : M2 0 31 (sd M (28 + 6 * (k : Int) + 1)).toNat = (T (sd M (28 + 6 * (k : Int) + 1))).2 := congrArg Prod.snd va
        have gd := hDT.2.1 (sd M (28 + 6 * (k : Int) + 1))
        unfold gdD at gd
        rw [va2]
        refine ⟨⟨hb.1, hb16⟩, fun u3 => skip (fun z => by have := z.2.2.1; omega), fun u3 => c12_wayOf kb.1 kb.2 (by decide) (by decide) ?_⟩
        rw [es, va2, v2, wrs (x := (T (sd M (28 + 6 * (k : Int) + 1))).2 + 1) (by omega) (by omega)]
        exact ⟨⟨hb.1, hb16⟩, ⟨a, hx⟩, fun u4 => skip (fun z => u4 z.2.2.2), fun u4 => fin _ (Or.inl ⟨kb.1, hk', ⟨u, u2, gd.2.2.2.2.mpr (by omega), u4⟩, i⟩)⟩
    exact loop 0 () (by omega) (fun j j1 j2 => by omega)
  · have := q1 w
    rw [er, if_pos (gr.2.2.2.2.mpr z)] at this; exact this
  · have hz : ¬ 0 < (T x1).1 := fun w => z (gr.2.2.2.2.mp w)
    by_cases w : x3 = 1
    · have := q1 w
      rw [er, if_neg hz] at this; exact this
    · refine q2 (by omega) _ (Or.inr ⟨rfl, fun j j1 j2 u => ?_⟩)
      have g2 := hDT.2.1 (sd M (28 + 6 * j + 1))
      unfold gdD at g2
      obtain ⟨u1, u2, u3, u4⟩ := u
      omega
theorem both_downs {x1 x2 x3 : Int} {P : Int → Int → Mem → Prop} (H : HR (M 4) (sd M)) (K : HOK (sd M)) (h : ∀ r M2, EqX [(1, 12), (1, 13), (0, 30), (0, 31)] M M2 → P r r M2) : OkI G (n + 4) mX11_downs [vO 1, vI x1, vI x2, vI x3] M (fun r1 M1 => OkI G (n + 4) mX12_downs [vO 0, vI x1, vI x2, vI x3] M1 (fun r2 M2 => P r1 r2 M2)) := by
  have k1 := K.2.1
  obtain ⟨T, hDT⟩ := DT_ex (t := x2) K
  have no : ¬ (0 ≤ x1 ∧ x1 < sd M 0 ∧ 0 ≤ x2 ∧ x2 < sd M 0 ∧ 0 ≤ x3 ∧ x3 ≤ 2) → OkI G (n + 4) mX12_downs [vO 0, vI x1, vI x2, vI x3] M (fun r2 M2 => P (-1) r2 M2) := fun z => c12_downs K hDT (fun _ => h _ M EqX.rf) (fun a b c d e g => absurd ⟨a, b, c, d, e, g⟩ z)
  refine eX11_downs (fun Kx => bX11_downs_0 (c1_isRoom rfl H k1 (fun a b => ⟨fun z => absurd z (by decide), fun _ => c1_isRoom rfl H k1 (fun c d => ⟨fun z => absurd z (by decide), fun _ => ⟨fun e => no (by omega), fun e => ⟨fun g => ?_, fun g => no (by omega)⟩⟩⟩) (fun c => ⟨fun _ => no (by omega), fun z => absurd rfl z⟩)⟩) (fun a => ⟨fun _ => no (by omega), fun z => absurd rfl z⟩)))
  refine c1_rd hDT rfl H K (fun M1 i1 i2 => ?_)
  have es := DR4 i1 (by decide)
  have e4 : M1 4 = M 4 := i1.obj (by decide)
  have hx : x1 < 16 := by omega
  have two : ∀ (P' : Int → Mem → Prop), (∀ M2 : Mem, EqX [(0, 30), (0, 31)] M1 M2 → (x3 = 0 → P' (T x1).1 M2) ∧ (x3 = 1 → P' (enc (T x1)) M2) ∧ (x3 = 2 → ∀ x, isFst (cdL (sd M) T x1) (sd M 1) (-2) x → P' x M2)) → OkI G (n + 4) mX12_downs [vO 0, vI x1, vI x2, vI x3] M1 P' := by
    intro P' hp
    rw [← es] at hp
    exact c12_downs (by rw [es]; exact K) (by rw [es]; exact hDT) (fun z => absurd (by rw [es]; exact ⟨a, b, c, d, by omega, g⟩) z) (fun _ _ _ _ _ _ => hp)
  have tr : ∀ M2 : Mem, EqX [(0, 30), (0, 31)] M1 M2 → EqX [(1, 12), (1, 13), (0, 30), (0, 31)] M M2 := fun M2 j => (i1.sub (by decide)).trans (j.sub (by decide))
  rw [(i2 x1 a b).1, (i2 x1 a b).2]
  refine ⟨fun y => ⟨fun z => ⟨⟨a, hx⟩, ?_⟩, fun z => ⟨⟨a, hx⟩, ?_⟩⟩, fun y => ?_⟩
  · exact two _ (fun M2 j => ⟨fun w => absurd w z, fun _ => h _ M2 (tr M2 j), fun w => absurd w y⟩)
  · exact two _ (fun M2 j => ⟨fun _ => h _ M2 (tr M2 j), fun w => absurd w (by omega), fun w => absurd w y⟩)
  · refine c1_fol (T := T) rfl (by rw [e4]; exact H) K hDT.2.1 a b (fun r r1 r2 => (i2 r r1 r2).2) (fun x hx1 => ?_)
    exact two _ (fun M2 j => ⟨fun w => absurd w (by omega), fun w => absurd w (by omega), fun _ x' hx' => by rw [isFst_one hx1 hx']; exact h _ M2 (tr M2 j)⟩)
end DB
