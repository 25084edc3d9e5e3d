/-! ===== trips: the class's walk ===== -/
section WKC
variable {G : Gx} {n : Nat} {M : Mem} {s : Int → Int} {g th : Int}
def lt (M : Mem) : Int → Int := fun r => M 11 0 r.toNat
theorem c10_la {Q : Int → Mem → Prop} {r : Int} (h1 : 0 ≤ r) (h2 : r < 16) (h : Q (lt M r) M) : OkI G n mX10_latestAt [vO 11, vI r] M Q :=
  eX10_latestAt (fun K => bX10_latestAt_0 ⟨fun z => absurd z (by omega), fun _ => ⟨fun z => absurd z (by omega), fun _ => ⟨⟨h1, h2⟩, h⟩⟩⟩)
theorem c10_put {Q : Int → Mem → Prop} {r x : Int} (h1 : 0 ≤ r) (h2 : r < 16) (hn : x ≤ lt M r → Q 0 M) (hy : lt M r < x → Q 1 (mset M 11 0 r.toNat x)) : OkI G n mX10_put [vO 11, vI r, vI x] M Q :=
  eX10_put (fun K => bX10_put_0 ⟨fun z => absurd z (by omega), fun _ => ⟨fun z => absurd z (by omega), fun _ => ⟨⟨h1, h2⟩, fun z => ⟨⟨h1, h2⟩, fun M1 e => by subst e; exact hy z⟩, fun z => hn (by have : ¬ lt M r < x := z; omega)⟩⟩⟩)
theorem lt_set {r r' x : Int} (h : 0 ≤ r) (h' : 0 ≤ r') : lt (mset M 11 0 r.toNat x) r' = if r' = r then x else lt M r' := by
  unfold lt
  by_cases e : r' = r
  · rw [if_pos e, e, mset_self]
  · rw [if_neg e, mset_ne (fun z => e (by have := z.2.2; omega))]
theorem c10_goBack {Q : Int → Mem → Prop} {w r : Int} (H : HR (M 4) s) (K : HOK s) (w1 : 0 ≤ w) (w2 : w < s 1) (hr : Rm s r) (hL : ∀ r, Rm s r → -1 ≤ lt M r ∧ lt M r ≤ 1439)
    (hn : (0 ≤ endW s w r → ¬ lt M (endW s w r) = -1 → bkL s w (lt M (endW s w r)) ≤ lt M r) → Q 0 M) (hy : 0 ≤ endW s w r → ¬ lt M (endW s w r) = -1 → lt M r < bkL s w (lt M (endW s w r)) → Q 1 (mset M 11 0 r.toNat (bkL s w (lt M (endW s w r))))) :
    OkI G (n + 2) mX10_goBack [vO 11, vO 4, vI w, vI r] M Q := by
  have k16 := K.2.1
  have k24 := K.2.2.2.1
  have r1 := hr.1
  have r2 := hr.2
  have wb : 0 ≤ w ∧ w < 24 := ⟨w1, by omega⟩
  obtain ⟨-, -, hm, -, hd⟩ := K.way w1 w2
  obtain ⟨-, -, g10, -, g12, g13⟩ := H.way w1 w2
  refine eX10_goBack (fun Kx => bX10_goBack_0 rfl (c1_leadsTo rfl H k24 (fun _ _ => ⟨fun z => hn (fun y => by omega), fun z => ?_⟩) (fun z => absurd ⟨w1, w2⟩ z)))
  rcases endW_in K (r := r) w1 w2 with e | e
  · exact absurd e z
  · refine c10_la e.1 (by omega) ⟨fun y => c10_la e.1 (by omega) ?_, fun y => hn (fun _ q => absurd y q)⟩
    rw [g10, g12, g13]
    have hle := hL _ e
    have ew : wr (lt M (endW s w r) - s (28 + 6 * w + 2)) = lt M (endW s w r) - s (28 + 6 * w + 2) := wrs (by omega) (by omega)
    rw [ew]
    clear ew
    have fin : ∀ x : Int, x = bkL s w (lt M (endW s w r)) → OkI G (n + 1) mX10_put [vO 11, vI r, vI x] M (fun r_4 M4 => (r_4 = 0 ∨ r_4 = 1) ∧ Q r_4 M4) := by
      intro x ex
      refine c10_put r1 (by omega) (fun a => ⟨Or.inl rfl, hn (fun _ _ => by rw [← ex]; exact a)⟩) (fun a => ⟨Or.inr rfl, ?_⟩)
      rw [ex] at a ⊢
      exact hy e.1 y a
    refine ⟨wb, wb, fun a => fin _ (by unfold bkL; rw [if_pos a]), fun a => ⟨wb, fun b => ⟨wb, fin _ (by unfold bkL; rw [if_neg a, if_pos b])⟩, fun b => fin _ (by unfold bkL; rw [if_neg a, if_neg b])⟩⟩
theorem bkL_mono (K : HOK s) {w L L' : Int} (w1 : 0 ≤ w) (w2 : w < s 1) (h : L ≤ L') : bkL s w L ≤ bkL s w L' := by
  obtain ⟨-, -, hm, -, hd⟩ := K.way w1 w2
  unfold bkL
  by_cases a : s (28 + 6 * w + 4) = -1
  · rw [if_pos a, if_pos a]; omega
  · rw [if_neg a, if_neg a]
    by_cases b : s (28 + 6 * w + 4) ≤ L - s (28 + 6 * w + 2)
    · rw [if_pos b, if_pos (show s (28 + 6 * w + 4) ≤ L' - s (28 + 6 * w + 2) by omega)]; split <;> split <;> omega
    · rw [if_neg b]
      split
      · split <;> omega
      · omega
/-- one goes back over one way -/
theorem c10_gb {Q : Int → Mem → Prop} {w r : Int} {L0 : Int → Int} (H : HR (M 4) s) (K : HOK s) (h9 : th ≤ 1439) (w1 : 0 ≤ w) (w2 : w < s 1) (hr : Rm s r) (hS : LSd s g th (lt M)) (hL0 : ∀ r, Rm s r → L0 r ≤ lt M r) (h0S : LSd s g th L0)
    (h : ∀ (b : Int) (M' : Mem), (b = 0 ∨ b = 1) → EqX [(11, 0)] M M' → (b = 0 → M' = M) → LSd s g th (lt M') → (∀ r, Rm s r → lt M r ≤ lt M' r) → (0 ≤ endW s w r → ¬ L0 (endW s w r) = -1 → bkL s w (L0 (endW s w r)) ≤ lt M' r) → Q b M') :
    OkI G (n + 2) mX10_goBack [vO 11, vO 4, vI w, vI r] M Q := by
  refine c10_goBack H K w1 w2 hr (fun r hr => ⟨(hS r hr).1, by have := (hS r hr).2.1; omega⟩) (fun z => ?_) (fun a b c => ?_)
  · refine h 0 M (Or.inl rfl) EqX.rf (fun _ => rfl) hS (fun _ _ => Int.le_refl _) (fun a b => ?_)
    have hv : Rm s (endW s w r) := by
      rcases endW_in K (r := r) w1 w2 with e | e
      · omega
      · exact e
    have h1 := hL0 _ hv
    have h2 := (h0S _ hv).1
    have := z a (by omega)
    have := bkL_mono K w1 w2 h1
    omega
  · have hv : Rm s (endW s w r) := by
      rcases endW_in K (r := r) w1 w2 with e | e
      · omega
      · exact e
    obtain ⟨e1, e2, e3⟩ := hS _ hv
    obtain ⟨r1, r2, r3⟩ := hS _ hr
    have hc : Can s g th r (bkL s w (lt M (endW s w r))) := by
      obtain ⟨q1, q2⟩ := (bk_iff K w1 w2 (m := bkL s w (lt M (endW s w r))) (by omega) (show lt M (endW s w r) ≤ 1439 by omega)).mpr (Int.le_refl _)
      exact Can_by w1 w2 a q1 (Can_mono K q2 (e3 (by omega)))
    have hle := Can_le K hc
    refine h 1 _ (Or.inr rfl) (EqX.mset (by decide)) (fun z => absurd z (by decide)) (fun r' hr' => ?_) (fun r' hr' => ?_) (fun _ q => ?_)
    · rw [lt_set hr.1 hr'.1]
      by_cases e : r' = r
      · rw [if_pos e, e]; exact ⟨by omega, hle, fun _ => hc⟩
      · rw [if_neg e]; exact hS r' hr'
    · rw [lt_set hr.1 hr'.1]
      by_cases e : r' = r
      · rw [if_pos e, e]; omega
      · rw [if_neg e]; exact Int.le_refl _
    · rw [lt_set hr.1 hr.1, if_pos rfl]
      exact bkL_mono K w1 w2 (hL0 _ hv)
def LRk (s : Int → Int) (k : Int) (L L' : Int → Int) : Prop := ∀ w r, 0 ≤ w → w < k → w < s 1 → Rm s r → 0 ≤ endW s w r → ¬ L (endW s w r) = -1 → bkL s w (L (endW s w r)) ≤ L' r
theorem l10_rounds {Kx : Kx} {Q : Mem → Prop} (K : HOK s) (h9 : th ≤ 1439) (hg : Rm s g) (H : HR (M 4) s)
    (h : ∀ M' : Mem, EqX [(11, 0)] M M' → LSd s g th (lt M') → LAll s g th (lt M') → Q M') :
    ∀ (f : Nat) (x4 x5 : Int) (Mc : Mem), 0 ≤ x5 → x5 ≤ 17 → (17 - x5).toNat ≤ f → EqX [(11, 0)] M Mc → LSd s g th (lt Mc) → th ≤ lt Mc g → (x4 = 0 → LAll s g th (lt Mc)) → (LAll s g th (lt Mc) ∨ (nfc (NFl s g th (lt Mc)) 16 : Int) + x5 ≤ 16) → CW G Kx mX10_begin (n + 3) 86 [some (vO 11), some (vO 4), none, none, some (vI x4), some (vI x5), none] [] Mc (qV Q) := by
  have k1 := K.2.2.1
  have k24 := K.2.2.2.1
  intro f
  induction f with
  | zero =>
    intro x4 x5 Mc a b c i1 i2 i3 i4 i5
    refine bX10_begin_86 ⟨fun _ => h Mc i1 i2 ?_, fun z => absurd (by omega) z⟩
    rcases i5 with q | q
    · exact q
    · omega
  | succ f ih =>
    intro x4 x5 Mc a b c i1 i2 i3 i4 i5
    refine bX10_begin_86 ⟨fun z => h Mc i1 i2 ?_, fun z => ⟨fun y => h Mc i1 i2 (i4 y), fun y => ?_⟩⟩
    · rcases i5 with q | q
      · exact q
      · omega
    · have inner : ∀ (k : Nat) (p : Int × Mem), k ≤ (s 1).toNat → ((p.1 = 0 ∨ p.1 = 1) ∧ EqX [(11, 0)] Mc p.2 ∧ (p.1 = 0 → p.2 = Mc) ∧ LSd s g th (lt p.2) ∧ (∀ r, Rm s r → lt Mc r ≤ lt p.2 r) ∧ LRk s (k : Int) (lt Mc) (lt p.2)) → CW G Kx mX10_begin (n + 3) 104 [some (vO 11), some (vO 4), none, none, some (vI p.1), some (vI x5), some (vI (k : Int))] [] p.2 (qV Q) := by
        refine up_ind (fun p i => ?_) (fun k p hk i ihk => ?_)
        · obtain ⟨v, M2⟩ := p
          dsimp only at i ⊢
          obtain ⟨j1, j2, j3, j4, j5, j6⟩ := i
          have e4 : M2 4 1 0 = s 1 := by rw [j2.obj (o := 4) (by decide), i1.obj (o := 4) (by decide)]; exact H.2.1
          refine bX10_begin_104 rfl ?_
          rw [e4, wrs (x := x5 + 1) (by omega) (by omega)]
          refine ⟨fun _ => ?_, fun w => absurd (by omega) w⟩
          have hrl : LRl s (lt Mc) (lt M2) := fun w r w1 w2 hr => j6 w r w1 (by omega) w2 hr
          have hgm : th ≤ lt M2 g := by have := j5 g hg; omega
          refine ih v (x5 + 1) M2 (by omega) (by omega) (by omega) (i1.trans j2) j4 hgm (fun e => ?_) ?_
          · have e2 := j3 e
            subst e2
            apply Classical.byContradiction
            intro hna
            exact absurd (growL K h9 i2 i3 j5 hrl hna) (Nat.lt_irrefl _)
          · by_cases hna : LAll s g th (lt Mc)
            · exact Or.inl (fun r hr m h0 hm => by have := hna r hr m h0 hm; have := j5 r hr; omega)
            · have hlt := growL K h9 i2 i3 j5 hrl hna
              rcases i5 with q | q
              · exact absurd q hna
              · exact Or.inr (by omega)
        · obtain ⟨v, M2⟩ := p
          dsimp only at i ihk ⊢
          obtain ⟨j1, j2, j3, j4, j5, j6⟩ := i
          have hk' : (k : Int) < s 1 := by omega
          have kb : (0 : Int) ≤ k ∧ (k : Int) < 24 := ⟨by omega, by omega⟩
          have eo : M2 4 = M 4 := by rw [j2.obj (o := 4) (by decide), i1.obj (o := 4) (by decide)]
          have e4 : M2 4 1 0 = s 1 := by rw [eo]; exact H.2.1
          obtain ⟨w0, w1, -⟩ := K.way (w := (k : Int)) kb.1 hk'
          obtain ⟨q8, q9, -⟩ := H.way (w := (k : Int)) kb.1 hk'
          refine bX10_begin_104 rfl ?_
          rw [e4, eo, q8, wr_n hk' (by omega)]
          refine ⟨fun w => absurd w (by omega), fun _ => ⟨fun w => absurd w (by omega), fun _ => ⟨kb, ?_⟩⟩⟩
          refine c10_gb (by rw [eo]; exact H) K h9 kb.1 hk' w0 j4 j5 i2 (fun b3 M3 d1 d2 d3 d4 d5 d6 => ⟨kb, ?_⟩)
          have eo3 : M3 4 = M 4 := by rw [d2.obj (o := 4) (by decide), eo]
          rw [eo3, q9]
          refine c10_gb (by rw [eo3]; exact H) K h9 kb.1 hk' w1 d4 (fun r hr => by have := j5 r hr; have := d5 r hr; omega) i2 (fun b4 M4 f1 f2 f3 f4 f5 f6 => ?_)
          have o1 := bOr01 j1 d1
          have o2 := bOr01 o1.1 f1
          refine ihk (_, M4) ⟨o2.1, (j2.trans d2).trans f2, fun e => ?_, f4, fun r hr => ?_, fun w r v1 v2 v3 hr v4 v5 => ?_⟩
          · obtain ⟨g1, g2⟩ := o2.2 e
            obtain ⟨g3, g4⟩ := o1.2 g1
            show M4 = Mc
            rw [f3 g2, d3 g4, j3 g3]
          · have := j5 r hr; have := d5 r hr; have := f5 r hr
            show _ ≤ lt M4 r
            omega
          · show _ ≤ lt M4 r
            by_cases e : w = (k : Int)
            · subst e
              by_cases e0 : r = s (28 + 6 * (k : Int) + 0)
              · subst e0
                have := d6 v4 v5; have := f5 _ w0; omega
              · by_cases e1 : r = s (28 + 6 * (k : Int) + 1)
                · subst e1
                  exact f6 v4 v5
                · exfalso
                  unfold endW at v4
                  rw [if_neg (fun q => e0 q.symm), if_neg (fun q => e1 q.2.symm)] at v4
                  omega
            · have := j6 w r v1 (by omega) v3 hr v4 v5
              have := d5 r hr; have := f5 r hr; omega
      exact inner 0 (0, Mc) (by omega) ⟨Or.inl rfl, EqX.rf, fun _ => rfl, i2, fun _ _ => Int.le_refl _, fun w r v1 v2 => by omega⟩
theorem c10_begin {Q : Mem → Prop} {t : Int} (H : HR (M 4) s) (K : HOK s) (L : LR (M 6) s) (LO : LOK s) (t1 : 0 ≤ t) (t2 : t < s 8) (hth : M 6 12 t.toNat = th) (hc : 0 ≤ th ∧ th ≤ 1439)
    (h : ∀ M' : Mem, EqX [(11, 0), (11, 1), (11, 2), (11, 3)] M M' → M' 11 1 0 = s (252 + 3 * t + 2) → M' 11 2 0 = s (252 + 3 * t + 0) → M' 11 3 0 = s (252 + 3 * t + 1) → LSd s (s (252 + 3 * t + 2)) th (lt M') → LAll s (s (252 + 3 * t + 2)) th (lt M') → Q M') :
    OkV G (n + 3) mX10_begin [vO 11, vO 4, vO 6, vI t] M Q := by
  have l8 := LO.2.1
  have k16 := K.2.1
  obtain ⟨q1, q2, q3, -⟩ := L.2.2.2.2.2.2.1 t t1 t2
  obtain ⟨b1, b2, b3⟩ := LO.2.2.2.2.2.2.1 t t1 t2
  have e2 : M 6 2 0 = s 8 := L.2.2.1
  have tb : 0 ≤ t ∧ t < 12 := ⟨t1, by omega⟩
  refine eX10_begin (fun Kx => bX10_begin_0 rfl (c_fill (N := 16) rfl rfl (by decide) ?_))
  have far : ∀ o k i, o ≠ 11 → mfill M 11 0 16 (-1) o k i = M o k i := fun o k i ho => mfill_eqX o k i (by simp; intro z; exact absurd z ho)
  rw [far 6 2 0 (by decide), e2]
  refine ⟨fun z => absurd z (by omega), fun _ => ⟨fun z => absurd z (by omega), fun _ => ⟨fun _ => ⟨tb, fun M4 em4 => ⟨tb, fun M5 em5 => ⟨tb, fun M6 em6 => ⟨tb, ?_⟩⟩⟩⟩, fun z => absurd tb.2 z⟩⟩⟩
  rw [far 6 9 _ (by decide), q1] at em4
  have f4 : ∀ o k i, o ≠ 11 → M4 o k i = M o k i := fun o k i ho => by rw [em4, mset_ne (fun z => ho z.1)]; exact far o k i ho
  rw [f4 6 10 _ (by decide), q2] at em5
  have f5 : ∀ o k i, o ≠ 11 → M5 o k i = M o k i := fun o k i ho => by rw [em5, mset_ne (fun z => ho z.1)]; exact f4 o k i ho
  rw [f5 6 11 _ (by decide), q3] at em6
  have f6 : ∀ o k i, o ≠ 11 → M6 o k i = M o k i := fun o k i ho => by rw [em6, mset_ne (fun z => ho z.1)]; exact f5 o k i ho
  have g1 : M6 11 1 0 = s (252 + 3 * t + 2) := by rw [em6, mset_self]
  have g2 : M6 11 2 0 = s (252 + 3 * t + 0) := by rw [em6, mset_ne (by simp), em5, mset_ne (by simp), em4, mset_self]
  have g3 : M6 11 3 0 = s (252 + 3 * t + 1) := by rw [em6, mset_ne (by simp), em5, mset_self]
  have g0 : ∀ r : Int, 0 ≤ r → r < 16 → lt M6 r = -1 := fun r r1 r2 => by
    unfold lt
    rw [em6, mset_ne (by simp), em5, mset_ne (by simp), em4, mset_ne (by simp)]
    show (if _ then _ else _) = _
    exact if_pos ⟨rfl, rfl, by omega⟩
  rw [g1, f6 6 12 _ (by decide), hth]
  refine c10_put b3.1 (by omega) (fun z => absurd z (by rw [g0 _ b3.1 (by omega)]; omega)) (fun _ => ?_)
  have hE : EqX [(11, 0), (11, 1), (11, 2), (11, 3)] M M6 := by
    rw [em6, em5, em4]
    exact (((mfill_eqX.sub (by decide)).trans (EqX.mset (by decide))).trans (EqX.mset (by decide))).trans (EqX.mset (by decide))
  have hS : LSd s (s (252 + 3 * t + 2)) th (lt (mset M6 11 0 (s (252 + 3 * t + 2)).toNat th)) := by
    intro r hr
    rw [lt_set b3.1 hr.1]
    by_cases e : r = s (252 + 3 * t + 2)
    · rw [if_pos e, e]
      exact ⟨by omega, Int.le_refl _, fun _ => ⟨0, rfl, Int.le_refl _⟩⟩
    · rw [if_neg e, g0 r hr.1 (by have := hr.2; omega)]
      exact ⟨by omega, by omega, fun z => by omega⟩
  have hgl : lt (mset M6 11 0 (s (252 + 3 * t + 2)).toNat th) (s (252 + 3 * t + 2)) = th := by rw [lt_set b3.1 b3.1, if_pos rfl]
  refine l10_rounds (M := mset M6 11 0 (s (252 + 3 * t + 2)).toNat th) K hc.2 b3 ?_ (fun M' d1 d2 d3 => ?_) 17 1 0 _ (by decide) (by decide) (by decide) EqX.rf hS (by omega) (fun z => absurd z (by decide)) (Or.inr ?_)
  · have : mset M6 11 0 (s (252 + 3 * t + 2)).toNat th 4 = M 4 := funext (fun k => funext (fun i => by rw [mset_ne (by simp)]; exact f6 4 k i (by decide)))
    rw [this]; exact H
  · refine h M' ((hE.trans (EqX.mset (by decide))).trans (d1.sub (by decide))) ?_ ?_ ?_ d2 d3
    · rw [d1 11 1 0 (by decide), mset_ne (by simp)]; exact g1
    · rw [d1 11 2 0 (by decide), mset_ne (by simp)]; exact g2
    · rw [d1 11 3 0 (by decide), mset_ne (by simp)]; exact g3
  · have := nfc_n (P := NFl s (s (252 + 3 * t + 2)) th (lt (mset M6 11 0 (s (252 + 3 * t + 2)).toNat th))) 16
    omega
theorem c10_step {Q : Int → Mem → Prop} {r m : Int} (H : HR (M 4) s) (K : HOK s) (h9 : th ≤ 1439) (e1 : M 11 1 0 = g) (e2 : M 11 2 0 = r) (e3 : M 11 3 0 = m) (hr : Rm s r) (hm0 : 0 ≤ m) (hC : Can s g th r m) (hS : LSd s g th (lt M)) (hA : LAll s g th (lt M))
    (hq : r = g → Q 0 M) (h : r ≠ g → ∀ M' : Mem, EqX [(11, 2), (11, 3), (11, 4), (11, 5)] M M' → M' 11 4 0 = fw s g th r m → M' 11 5 0 = opW s (fw s g th r m) m → M' 11 2 0 = endW s (fw s g th r m) r → M' 11 3 0 = opW s (fw s g th r m) m + s (28 + 6 * (fw s g th r m) + 2) → Q 1 M') :
    OkI G (n + 2) mX10_step [vO 11, vO 4] M Q := by
  have k1 := K.2.2.1
  have k16 := K.2.1
  have k24 := K.2.2.2.1
  have hm1 : m ≤ 1439 := by have := Can_le K hC; omega
  have e4 : M 4 1 0 = s 1 := H.2.1
  refine eX10_step (fun Kx => bX10_step_0 ?_)
  rw [e1, e2]
  refine ⟨fun hne => ?_, hq⟩
  obtain ⟨⟨w1, w2⟩, wc⟩ := fw_ok hC hne
  have loop : ∀ (k : Nat) (_ : Unit), k ≤ (s 1).toNat → (∀ j : Int, 0 ≤ j → j < (k : Int) → ¬ cnd s g th r m j) → CW G Kx mX10_step (n + 2) 15 [some (vO 11), some (vO 4), some (vI (k : Int)), none, none] [] M (qI Q) := by
    refine up_ind (fun _ i => ?_) (fun k _ hk i ih => ?_)
    · exact absurd wc (i _ w1 (by omega))
    · have hk' : (k : Int) < s 1 := by omega
      have kb : (0 : Int) ≤ k ∧ (k : Int) < 24 := ⟨by omega, by omega⟩
      obtain ⟨-, -, hmn, -, hd⟩ := K.way kb.1 hk'
      have g10 := (H.way kb.1 hk').2.2.1
      refine bX10_step_15 rfl ?_
      rw [e4, e2, wr_n hk' (by omega)]
      refine ⟨fun z => absurd z (by omega), fun _ => ⟨fun z => absurd z (by omega), fun _ => c1_leadsTo rfl H k24 (fun _ _ => ?_) (fun z => absurd ⟨kb.1, hk'⟩ z)⟩⟩
      rw [e3]
      refine c1_openFrom rfl H k24 (fun _ _ => ?_) (fun z => absurd ⟨kb.1, hk'⟩ z)
      have skip : ¬ cnd s g th r m (k : Int) → CW G Kx mX10_step (n + 2) 15 [some (vO 11), some (vO 4), some (vI ((k + 1 : Nat) : Int)), none, none] [] M (qI Q) := fun z => ih () (fun j j1 j2 => by
        by_cases e : j = (k : Int)
        · rw [e]; exact z
        · exact i j j1 (by omega))
      refine ⟨fun z => skip (fun y => by have := y.1; omega), fun z => ?_⟩
      have hv : Rm s (endW s (k : Int) r) := by
        rcases endW_in K (r := r) kb.1 hk' with e | e
        · exact absurd e z
        · exact e
      rcases opC_W hd hm0 hm1 with ⟨o1, o2⟩ | ⟨o1, o2, o3⟩
      · exact ⟨fun _ => skip (fun y => by have := y.2.1; omega), fun y => absurd o1 y⟩
      · rw [o1, g10]
        have iff := LAll_iff K hS hA (m := opW s (k : Int) m + s (28 + 6 * (k : Int) + 2)) hv (by omega)
        have ew : wr (opW s (k : Int) m + s (28 + 6 * (k : Int) + 2)) = opW s (k : Int) m + s (28 + 6 * (k : Int) + 2) := wrs (by omega) (by omega)
        rw [ew]
        refine ⟨fun y => absurd y (by omega), fun _ => ⟨kb, c10_la hv.1 (by have := hv.2; omega) ⟨fun y => skip (fun q => by have := iff.mpr q.2.2; omega), fun y M4 em4 M5 em5 M6 em6 => ⟨kb, fun M7 em7 => ?_⟩⟩⟩⟩
        have hc : cnd s g th r m (k : Int) := ⟨hv.1, o3, iff.mp (by omega)⟩
        have ef : fw s g th r m = (k : Int) := isFst_one fw_is (Or.inl ⟨kb.1, hk', hc, i⟩)
        have g6 : M6 4 10 ((k : Int)).toNat = s (28 + 6 * (k : Int) + 2) := by rw [em6, mset_ne (by simp), em5, mset_ne (by simp), em4, mset_ne (by simp)]; exact g10
        rw [g6, ew] at em7
        clear ew
        refine h hne M7 ?_ ?_ ?_ ?_ ?_
        · rw [em7, em6, em5, em4]
          exact (((EqX.mset (by decide)).trans (EqX.mset (by decide))).trans (EqX.mset (by decide))).trans (EqX.mset (by decide))
        · rw [ef, em7, mset_ne (by simp), em6, mset_ne (by simp), em5, mset_ne (by simp), em4, mset_self]
        · rw [ef, em7, mset_ne (by simp), em6, mset_ne (by simp), em5, mset_self]
        · rw [ef, em7, mset_ne (by simp), em6, mset_self]
        · rw [ef, em7, mset_self]
  exact loop 0 () (by omega) (fun j j1 j2 => by omega)
end WKC
