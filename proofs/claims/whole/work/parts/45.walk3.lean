/-! ===== trips: the reference's walk ===== -/
section WKM
variable {G : Gx} {n : Nat} {M : Mem} {s : Int → Int} {g th : Int}
theorem c12_wayBy {Q : Int → Mem → Prop} {r m : Int} (hs : sd M = s) (K : HOK s) (h9 : th ≤ 1439) (hg : Rm s g) (hr : Rm s r) (hm0 : 0 ≤ m) (hC : Can s g th r m) (hB : LB s g th r m) (hne : r ≠ g) (h : ∀ M' : Mem, EqX [(0, 28), (0, 29)] M M' → Q (fw s g th r m) M') : OkI G (n + 4) mX12_wayBy [vO 0, vI r, vI m, vI g, vI th] M Q := by
  have k1 := K.2.2.1
  have k16 := K.2.1
  have k24 := K.2.2.2.1
  have g1 := hg.1
  have g2 := hg.2
  have hm1 := Can_le K hC
  obtain ⟨⟨w1, w2⟩, wc⟩ := fw_ok hC hne
  refine eX12_wayBy (fun Kx => bX12_wayBy_0 ?_)
  have loop : ∀ (k : Nat) (Mc : Mem), k ≤ (s 1).toNat → (EqX [(0, 28), (0, 29)] M Mc ∧ ∀ j : Int, 0 ≤ j → j < (k : Int) → ¬ cnd s g th r m j) → CW G Kx mX12_wayBy (n + 4) 3 [some (vO 0), some (vI r), some (vI m), some (vI g), some (vI th), some (vI (k : Int)), none, none] [] Mc (qI Q) := by
    refine up_ind (fun Mc i => ?_) (fun k Mc hk i ih => ?_)
    · exact absurd wc (i.2 _ w1 (by omega))
    · obtain ⟨i1, i2⟩ := i
      have es : sd Mc = s := (DR4 i1 (by decide)).trans hs
      have e1 : Mc 0 26 1 = s 1 := by rw [← es]; rfl
      have hk' : (k : Int) < s 1 := by omega
      have kb : (0 : Int) ≤ k ∧ (k : Int) < 24 := ⟨by omega, by omega⟩
      obtain ⟨-, -, hmn, -, hd⟩ := K.way kb.1 hk'
      have skip : ∀ M2 : Mem, EqX [(0, 28), (0, 29)] Mc M2 → ¬ cnd s g th r m (k : Int) → CW G Kx mX12_wayBy (n + 4) 3 [some (vO 0), some (vI r), some (vI m), some (vI g), some (vI th), some (vI ((k + 1 : Nat) : Int)), none, none] [] M2 (qI Q) := fun M2 e z => ih M2 ⟨i1.trans e, fun j j1 j2 => by
        by_cases e : j = (k : Int)
        · rw [e]; exact z
        · exact i2 j j1 (by omega)⟩
      refine bX12_wayBy_3 ?_
      rw [e1, wr_n hk' (by omega)]
      refine ⟨fun z => absurd z (by omega), fun _ => c12_endOf kb.1 kb.2 ?_⟩
      rw [es]
      refine ⟨fun z => skip Mc EqX.rf (fun y => by have := y.1; omega), fun z => c12_opens kb.1 kb.2 ?_⟩
      rw [es]
      refine ⟨fun y => c12_opens kb.1 kb.2 (c12_wayOf kb.1 kb.2 (by decide) (by decide) ?_), fun y => skip Mc EqX.rf (fun q => y q.2.1)⟩
      rw [es]
      have hge := opW_ge2 y
      rw [wrs (x := opW s (k : Int) m + s (28 + 6 * (k : Int) + 2)) (by omega) (by omega)]
      have hv : Rm s (endW s (k : Int) r) := by
        rcases endW_in K (r := r) kb.1 hk' with e | e
        · omega
        · exact e
      refine ⟨fun x => ?_, fun x => skip Mc EqX.rf (fun q => x (Can_le K q.2.2))⟩
      refine c12_spreads (by rw [es]; exact K) (by rw [es]; exact hv) (by omega) (by omega) (fun M2 j1 j2 _ => c12_so g1 (by omega) ?_)
      rw [es, if_pos rfl] at j2
      have iff := so_can K h9 j2 hg (LB_step hB kb.1 hk' (by omega) y (by omega))
      refine ⟨fun q => skip M2 j1 (fun p => q (iff.mpr p.2.2)), fun q => ?_⟩
      have hc : cnd s g th r m (k : Int) := ⟨by omega, y, iff.mp q⟩
      have ef : fw s g th r m = (k : Int) := isFst_one fw_is (Or.inl ⟨kb.1, hk', hc, i2⟩)
      have hh := h M2 (i1.trans j1)
      rw [ef] at hh
      exact hh
  exact loop 0 M (by omega) ⟨EqX.rf, fun j j1 j2 => by omega⟩
/-- the reference's legs -/
def Lgs (s : Int → Int) (g th r0 m0 : Int) (N : Nat) (M : Mem) : Prop := ∀ k : Nat, k < N → M 0 34 k = fw s g th (sq s g th r0 m0 k).1 (sq s g th r0 m0 k).2 ∧ M 0 35 k = opW s (fw s g th (sq s g th r0 m0 k).1 (sq s g th r0 m0 k).2) (sq s g th r0 m0 k).2 ∧ M 0 36 k = (sq s g th r0 m0 k).1 ∧ M 0 37 k = (sq s g th r0 m0 (k + 1)).1 ∧ M 0 38 k = (sq s g th r0 m0 (k + 1)).2
theorem sq_s {r0 m0 : Int} (k : Nat) : sq s g th r0 m0 (k + 1) = (endW s (fw s g th (sq s g th r0 m0 k).1 (sq s g th r0 m0 k).2) (sq s g th r0 m0 k).1, opW s (fw s g th (sq s g th r0 m0 k).1 (sq s g th r0 m0 k).2) (sq s g th r0 m0 k).2 + s (28 + 6 * (fw s g th (sq s g th r0 m0 k).1 (sq s g th r0 m0 k).2) + 2)) := rfl
theorem sq_LB (K : HOK s) (h9 : th ≤ 1439) {r0 m0 : Int} (hr : Rm s r0) (h0 : 0 ≤ m0) (hc : Can s g th r0 m0) (hB : LB s g th r0 m0) : ∀ k : Nat, (∀ j, j < k → (sq s g th r0 m0 j).1 ≠ g) → LB s g th (sq s g th r0 m0 k).1 (sq s g th r0 m0 k).2
  | 0, _ => hB
  | k + 1, h => by
    obtain ⟨a, b, c⟩ := sq_ok K hr h0 hc k (fun j hj => h j (by omega))
    obtain ⟨⟨d1, d2⟩, e1, e2, e3⟩ := fw_ok c (h k (by omega))
    have := Can_le K e3
    exact LB_step (sq_LB K h9 hr h0 hc hB k (fun j hj => h j (by omega))) d1 d2 e1 e2 (by omega)
abbrev lgF : List (Nat × Nat) := [(0, 28), (0, 29), (0, 34), (0, 35), (0, 36), (0, 37), (0, 38), (0, 39)]
set_option maxHeartbeats 800000 in
theorem c12_travels {Q : Int → Mem → Prop} {r0 m0 : Int} (hs : sd M = s) (K : HOK s) (hg : Rm s g) (hr : Rm s r0) (hm0 : 0 ≤ m0) (hm1 : m0 ≤ 1439) (h : ∀ (M' : Mem) (D : Tb), EqX lgF M M' → Tab s (src1 r0 1 m0) D → (so D g ≤ 1439 → ∀ N, isN s g (so D g) r0 m0 N → M' 0 39 0 = (N : Int) ∧ Lgs s g (so D g) r0 m0 N M') → Q (so D g) M') : OkI G (n + 5) mX12_travels [vO 0, vI r0, vI m0, vI g] M Q := by
  have k1 := K.2.2.1
  have k16 := K.2.1
  have k24 := K.2.2.2.1
  have g1 := hg.1
  have g2 := hg.2
  refine eX12_travels (fun Kx => bX12_travels_0 (c12_spreads (by rw [hs]; exact K) (by rw [hs]; exact hr) hm0 hm1 (fun M1 i1 i2 _ => c12_so g1 (by omega) (fun M3 em => ?_))))
  rw [hs, if_pos rfl] at i2
  generalize tbM M1 = D at i2 ⊢
  have hE3 : EqX lgF M M3 := by rw [em]; exact (i1.sub (by decide)).trans (EqX.mset (by decide))
  have h39 : M3 0 39 0 = 0 := by rw [em, mset_self]
  rcases so_rng trivial D g with hq | hq
  · have hB : LB s g (so D g) r0 m0 := fun y hy => by
      apply Classical.byContradiction
      intro z
      have := so_least i2 hg (by omega) hy
      omega
    have hC : Can s g (so D g) r0 m0 := (so_can K hq i2 hg hB).mp rfl
    obtain ⟨N, N1, hN⟩ := sq_N K hq hr hm0 hC
    have h' : ∀ M' : Mem, EqX lgF M M' → (M' 0 39 0 = (N : Int) ∧ Lgs s g (so D g) r0 m0 N M') → Q (so D g) M' := fun M' e1 e2 => h M' D e1 i2 (fun _ N' hN' => by rw [isN_one hN' hN]; exact e2)
    have hLB := sq_LB K hq hr hm0 hC hB
    have hOk := sq_ok K hr hm0 hC
    clear h
    generalize so D g = th at *
    have loop : ∀ (k : Nat) (Mc : Mem), k ≤ N → (EqX lgF M Mc ∧ Mc 0 39 0 = (k : Int) ∧ Lgs s g th r0 m0 k Mc) → CW G Kx mX12_travels (n + 5) 25 [some (vO 0), none, none, some (vI g), some (vI th), some (vI (sq s g th r0 m0 k).1), some (vI (sq s g th r0 m0 k).2), none] [] Mc (qI Q) := by
      refine up_ind (fun Mc i => ?_) (fun k Mc hk i ih => ?_)
      · refine bX12_travels_25 ⟨fun z => absurd z (by omega), fun _ => ⟨fun _ => h' Mc i.1 i.2, fun z => absurd hN.1 z⟩⟩
      · obtain ⟨j1, j2, j3⟩ := i
        have hne := hN.2 k hk
        obtain ⟨o1, o2, o3⟩ := hOk k (fun j hj => hN.2 j (by omega))
        obtain ⟨⟨w1, w2⟩, wc⟩ := fw_ok o3 hne
        have hlb := hLB k (fun j hj => hN.2 j (by omega))
        have ess := sq_s (s := s) (g := g) (th := th) (r0 := r0) (m0 := m0) k
        have es : sd Mc = s := (DR4 j1 (by decide)).trans hs
        refine bX12_travels_25 ⟨fun z => absurd z (by omega), fun _ => ⟨fun z => absurd z hne, fun _ => ?_⟩⟩
        refine c12_wayBy es K hq hg o1 (by omega) o3 hlb hne (fun M1 q1 => ?_)
        have hL' : ∀ M' : Mem, EqX lgF M M' → M' 0 39 0 = ((k + 1 : Nat) : Int) → (∀ f, (f = 34 ∨ f = 35 ∨ f = 36 ∨ f = 37 ∨ f = 38) → ∀ j, j < k → M' 0 f j = Mc 0 f j) → M' 0 34 k = fw s g th (sq s g th r0 m0 k).1 (sq s g th r0 m0 k).2 → M' 0 35 k = opW s (fw s g th (sq s g th r0 m0 k).1 (sq s g th r0 m0 k).2) (sq s g th r0 m0 k).2 → M' 0 36 k = (sq s g th r0 m0 k).1 → M' 0 37 k = (sq s g th r0 m0 (k + 1)).1 → M' 0 38 k = (sq s g th r0 m0 (k + 1)).2 → CW G Kx mX12_travels (n + 5) 25 [some (vO 0), none, none, some (vI g), some (vI th), some (vI (sq s g th r0 m0 (k + 1)).1), some (vI (sq s g th r0 m0 (k + 1)).2), none] [] M' (qI Q) := by
          intro M' a1 a2 a3 a4 a5 a6 a7 a8
          refine ih M' ⟨a1, a2, fun j hj => ?_⟩
          by_cases e : j = k
          · subst e; exact ⟨a4, a5, a6, a7, a8⟩
          · rw [a3 34 (by omega) j (by omega), a3 35 (by omega) j (by omega), a3 36 (by omega) j (by omega), a3 37 (by omega) j (by omega), a3 38 (by omega) j (by omega)]
            exact j3 j (by omega)
        rw [ess] at hL'
        dsimp only at hL'
        clear ih ess hN h'
        generalize sq s g th r0 m0 k = pk at *
        obtain ⟨r, m⟩ := pk
        dsimp only at *
        obtain ⟨c1, c2, c3⟩ := wc
        have hge := opW_ge2 c2
        have hmn := (K.way w1 w2).2.2.1
        generalize hfw : fw s g th r m = w at *
        have wb : 0 ≤ w ∧ w < 24 := ⟨w1, by omega⟩
        have x39 : M1 0 39 0 = (k : Int) := by rw [q1 0 39 0 (by decide)]; exact j2
        have kb : (0 : Int) ≤ k ∧ (k : Int) < 1440 := ⟨by omega, by omega⟩
        rw [x39]
        refine ⟨kb, fun M2 em2 => ?_⟩
        rw [Int.toNat_natCast] at em2
        have y39 : M2 0 39 0 = (k : Int) := by rw [em2, mset_ne (by simp)]; exact x39
        rw [y39]
        refine ⟨kb, fun M4 em4 => ?_⟩
        rw [Int.toNat_natCast] at em4
        have z39 : M4 0 39 0 = (k : Int) := by rw [em4, mset_ne (by simp)]; exact y39
        have es4 : sd M4 = s := by
          rw [← es]
          funext i
          show M4 0 26 _ = Mc 0 26 _
          rw [em4, mset_ne (by simp), em2, mset_ne (by simp)]; exact q1 0 26 _ (by decide)
        refine c12_opens wb.1 wb.2 ?_
        rw [es4, z39]
        refine ⟨kb, fun M5 em5 => ?_⟩
        rw [Int.toNat_natCast] at em5
        have es5 : sd M5 = s := by
          rw [← es4]
          funext i
          show M5 0 26 _ = M4 0 26 _
          rw [em5, mset_ne (by simp)]
        have u39 : M5 0 39 0 = (k : Int) := by rw [em5, mset_ne (by simp)]; exact z39
        have u35 : M5 0 35 k = opW s w m := by rw [em5, mset_self]
        refine c12_endOf wb.1 wb.2 ?_
        rw [es5, u39]
        refine ⟨kb, c12_wayOf wb.1 wb.2 (by decide) (by decide) ?_⟩
        rw [es5, u39, Int.toNat_natCast, u35]
        rw [wrs (x := opW s w m + s (28 + 6 * w + 2)) (by omega) (by omega)]
        refine ⟨kb, fun M8 em8 => ?_⟩
        have v39 : M8 0 39 0 = (k : Int) := by rw [em8, mset_ne (by simp)]; exact u39
        rw [v39, Int.toNat_natCast]
        refine ⟨kb, fun M9 em9 M10 em10 => ?_⟩
        have w39 : M9 0 39 0 = (k : Int) := by rw [em9, mset_ne (by simp)]; exact v39
        rw [w39, wr_n (b := 1440) (k := k) (by omega) (by omega)] at em10
        refine hL' M10 ?_ ?_ ?_ ?_ ?_ ?_ ?_ ?_
        · rw [em10, em9, em8, em5, em4, em2]
          exact ((((((j1.trans (q1.sub (by decide))).trans (EqX.mset (by decide))).trans (EqX.mset (by decide))).trans (EqX.mset (by decide))).trans (EqX.mset (by decide))).trans (EqX.mset (by decide))).trans (EqX.mset (by decide))
        · rw [em10, mset_self]
        · intro f hf j hj
          rw [em10, mset_ne (by omega), em9, mset_ne (by omega), em8, mset_ne (by omega), em5, mset_ne (by omega), em4, mset_ne (by omega), em2, mset_ne (by omega)]
          refine q1 0 f j ?_
          rcases hf with e | e | e | e | e <;> subst e <;> decide
        · rw [em10, mset_ne (by simp), em9, mset_ne (by simp), em8, mset_ne (by simp), em5, mset_ne (by simp), em4, mset_ne (by simp), em2, mset_self]
        · rw [em10, mset_ne (by simp), em9, mset_ne (by simp), em8, mset_ne (by simp)]; exact u35
        · rw [em10, mset_ne (by simp), em9, mset_ne (by simp), em8, mset_ne (by simp), em5, mset_ne (by simp), em4, mset_self]
        · rw [em10, mset_ne (by simp), em9, mset_ne (by simp), em8, mset_self]
        · rw [em10, mset_ne (by simp), em9, mset_self]
    exact loop 0 M3 (by omega) ⟨hE3, h39, fun j hj => by omega⟩
  · refine bX12_travels_25 ⟨fun _ => h M3 D hE3 i2 (fun z => by omega), fun z => absurd (by omega) z⟩
end WKM
