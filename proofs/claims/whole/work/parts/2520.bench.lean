/-! bench, rest, person, set. -/
section BN
variable {G G2 : mv_G} {a b : mv_a}
theorem st_cW.bn (h : st_cW G a) (hx : mv_cX G2 b) (hu : mv_unC G2 b) (hk : ∀ k, (24 ≤ k ∧ k ≤ 46) ∨ k = 63 → G2 k = G k) (h10 : G2 0 0 10 = G 0 0 10) (h52 : ∀ j, j < 3 → G2 52 0 j = G 52 0 j) (eT : ag_T a b) (eI : ag_I a b) : st_cW G2 b := by
  obtain ⟨g1, g2, g3, g4, g5⟩ := h
  refine ⟨hx, hu, ?_, ?_, fun h9 => ?_⟩
  · have : mv_tpC G2 a := by
      unfold mv_tpC at g3 ⊢
      rw [hk 63 (by omega), h52 0 (by decide), h52 1 (by decide), h52 2 (by decide)]
      exact g3
    exact this.ag eT
  · rw [h10, eI.1]; exact g4
  · rw [eI.1] at h9
    rw [mv_im.ag eI]
    refine (g5 h9).cg (fun k hk2 => ?_)
    have hl : ∀ k ∈ mv_cXl, 24 ≤ k + 23 ∧ k + 23 ≤ 46 := by decide
    exact hk (k + 23) (Or.inl (hl k hk2))
theorem st_mW.bn (h : st_mW G a) (hx : mv_mX G2 b) (hu : mv_unM G2 b) (hk : ∀ k, k = 111 ∨ k = 112 ∨ k = 137 → G2 k = G k) (hs : ∀ j, j = 5 ∨ j = 16 ∨ j = 35 ∨ j = 36 ∨ j = 68 → G2 100 0 j = G 100 0 j) (eT : ag_T a b) (eI : ag_I a b) : st_mW G2 b := by
  obtain ⟨g1, g2, g3, g4, g5, g6, g7⟩ := h
  refine ⟨hx, hu, ?_, ?_, fun h9 => ?_, ?_, ?_⟩
  · have : mv_tpM G2 a := by
      unfold mv_tpM at g3 ⊢
      rw [hk 111 (by omega), hs 16 (by omega), hs 35 (by omega), hs 36 (by omega)]
      exact g3
    exact this.ag eT
  · rw [hs 68 (by omega), eI.1]; exact g4
  · rw [eI.1] at h9
    rw [mv_im.ag eI, hk 137 (by omega)]
    exact g5 h9
  · rw [hs 5 (by omega)]; exact g6
  · rw [hk 112 (by omega)]; exact g7
theorem st_iW.bn (h : st_iW a) (hx : mv_iX b) (hu : mv_iU b) (eT : ag_T a b) (eI : ag_I a b) : st_iW b := by
  obtain ⟨h1, h2, h3, h4, h5⟩ := h
  refine ⟨hx, hu, h3.ag eT, by rw [eI.1]; exact h4, fun h9 => ?_⟩
  rw [eI.1] at h9
  rw [mv_im.ag eI]
  exact h5 h9
theorem mv_unC.z (h : mv_unC G a) (e1 : G2 47 0 1 = G 47 0 1) (e0 : G2 47 0 0 = 0) (hb : b 0 5 = 0) : mv_unC G2 b := by
  obtain ⟨nx, h1, h2, h3, h4⟩ := h
  exact ⟨nx, h1, e1.trans h2, e0.trans hb.symm, fun r hr => by rw [hb] at hr; omega⟩
theorem mv_unM.z (e0 : G2 100 0 3 = 0) (hb : b 0 5 = 0) : mv_unM G2 b := ⟨e0.trans hb.symm, fun r hr => by rw [hb] at hr; omega⟩
theorem mv_iU.z (hb : b 0 5 = 0) : mv_iU b := ⟨by rw [hb]; decide, fun r hr => by rw [hb] at hr; omega⟩
theorem fx_forget : ff_X6_forget [.inr (47, 0)] G = some (0, mv_up G 47 0 0 0) := mv_Kp.eq (mv_Kp.of (mv_JP.of (rg_X6_forget_0 G) (mv_J.ret ⟨rfl, rfl⟩)))
def st_be (a : mv_a) (x : Int) : mv_a := fun o j => if o = 0 then (if j = 0 then x else if j ≤ 5 then 0 else a 0 j) else if o = 1 then (if j < 60 then 0 else a 1 j) else if o = 2 then (if j < 60 then -1 else a 2 j) else if o = 3 then (if j < 10 then -1 else a 3 j) else if (o = 17 ∨ o = 22) ∧ j ≤ 1 then 0 else a o j
theorem st_be_o {x : Int} {o : Nat} (h : 4 ≤ o) (h1 : o ≠ 17) (h2 : o ≠ 22) : st_be a x o = a o := funext fun j => by
  unfold st_be
  rw [if_neg (by omega), if_neg (by omega), if_neg (by omega), if_neg (by omega), if_neg (by omega)]
theorem st_be_0 {x : Int} : st_be a x 0 0 = x ∧ st_be a x 0 1 = 0 ∧ st_be a x 0 2 = 0 ∧ st_be a x 0 3 = 0 ∧ st_be a x 0 4 = 0 ∧ st_be a x 0 5 = 0 ∧ st_be a x 17 0 = 0 ∧ st_be a x 17 1 = 0 ∧ st_be a x 22 0 = 0 ∧ st_be a x 22 1 = 0 := ⟨rfl, rfl, rfl, rfl, rfl, rfl, rfl, rfl, rfl, rfl⟩
theorem st_be_T {x : Int} : ag_T a (st_be a x) ∧ ag_I a (st_be a x) := ⟨⟨rfl, rfl, rfl, st_be_o (by decide) (by decide) (by decide)⟩, rfl, fun o h => st_be_o (by omega) (by omega) (by omega)⟩
theorem st_be_i {x : Int} (h1 : 1 ≤ x) (h2 : x ≤ 60) : mv_iX (st_be a x) := by
  obtain ⟨e0, e1, e2, e3, e4, e5, e6, e7, e8, e9⟩ := st_be_0 (a := a) (x := x)
  refine ⟨⟨?_, fun i hi => Or.inl (if_pos hi), fun i hi => ?_, fun p hp => ?_, fun p hp => ?_, fun p hp => ?_, fun p q hp => ?_⟩, ⟨?_, fun l hl => ?_⟩, ⟨?_, fun l hl => ?_⟩, ?_, fun i hi => ?_⟩
  · rw [e0, e1, e2, e3]; omega
  · have : st_be a x 2 i = -1 := if_pos hi
    omega
  · have : st_be a x 3 p = -1 := if_pos hp
    omega
  · rw [e1] at hp; omega
  · rw [e1] at hp; omega
  · rw [e1] at hp; omega
  · rw [e6, e7]; decide
  · rw [e6] at hl; omega
  · rw [e8, e9]; decide
  · rw [e8] at hl; omega
  · rw [e4]; decide
  · rw [e4] at hi; omega
theorem bx_bench (x : Int) : st_bx (ff_X11_bench [.inr (0, 0), .inl x]) (ff_X12_bench [.inr (100, 0), .inl x]) := by
  refine st_bx_of (fun a => mv_b (1 ≤ x ∧ x ≤ 60)) (fun a => if 1 ≤ x ∧ x ≤ 60 then st_be a x else a) (fun G a hc hi => ?_) (fun G a hm hi => ?_) (fun a hi => ?_)
  · refine mv_Kp.of (mv_JP.of (rg_X11_bench_0 x G) ?_)
    refine mv_J.i (fun h => mv_J.r0 (Or.inl rfl) ⟨(mv_b0 (by omega)).symm, ?_, mv_fC.rf⟩) (fun h => mv_J.i (fun h2 => mv_J.r0 (Or.inl rfl) ⟨(mv_b0 (by omega)).symm, ?_, mv_fC.rf⟩) (fun h2 => ?_))
    · rw [if_neg (by omega)]; exact hc
    · rw [if_neg (by omega)]; exact hc
    · refine mv_J.cn (fx_X2_clear x (by omega) (by omega) G) (fun r G1 h3 => mv_J.ce fx_forget (mv_J.r0 (Or.inr rfl) ⟨(mv_b1 (by omega)).symm, ?_, (h3.2.1.fC rfl).tr (mv_up_fC (by decide))⟩))
      rw [if_pos (by omega)]
      obtain ⟨-, c1, ⟨k0, k1, k2, k3, k4, k5, k6, k7, k8⟩, r2, r4, r6, q1, q2, q3, rch, -⟩ := h3
      obtain ⟨e0, e1, e2, e3, e4, e5, e6, e7, e8, e9⟩ := st_be_0 (a := a) (x := x)
      obtain ⟨⟨b1, b2, b3, b4, b5, b6, b7, b8, b9⟩, -⟩ := hc.1
      have f2 : G1 2 0 = st_be a x 1 := funext fun i => by
        show _ = if i < 60 then (0 : Int) else a 1 i
        by_cases c : i < 60
        · rw [if_pos c]; exact r2 i c
        · rw [if_neg c, ← b2]; exact (q1 i (by omega)).1
      have f4 : G1 4 0 = st_be a x 2 := funext fun i => by
        show _ = if i < 60 then (-1 : Int) else a 2 i
        by_cases c : i < 60
        · rw [if_pos c]; exact r4 i c
        · rw [if_neg c, ← b3]; exact (q1 i (by omega)).2
      have f6 : G1 6 0 = st_be a x 3 := funext fun i => by
        show _ = if i < 10 then (-1 : Int) else a 3 i
        by_cases c : i < 10
        · rw [if_pos c]; exact r6 i c
        · rw [if_neg c, ← b4]; exact q2 i (by omega)
      have f5 : G1 5 = G 5 := c1.cell 5 rfl
      have uk : ∀ k, k ≠ 47 → (mv_up G1 47 0 0 0) k = G1 k := fun k h => mv_up_k h
      refine hc.bn (G2 := mv_up G1 47 0 0 0) ⟨⟨⟨?_, ?_, ?_, True.intro⟩, ?_, ?_, ?_, ?_, ?_, ?_, ?_, ?_, fun i hi => ?_⟩, ⟨?_, ?_, fun j hj => ?_, fun l hl => ?_⟩, ⟨?_, ?_, fun j hj => ?_, fun l hl => ?_⟩, ⟨?_, fun i hi => ?_⟩, ?_, fun i hi => ?_⟩ (hc.2.1.z ?_ mv_ups_eq e5) (fun k hk => ?_) ?_ (fun j hj => ?_) st_be_T.1 st_be_T.2
      · rw [uk 1 (by decide), e0]; exact k0
      · rw [uk 1 (by decide), e1]; exact k1
      · rw [uk 1 (by decide), e2]; exact k2
      · rw [uk 2 (by decide)]; exact f2
      · rw [uk 4 (by decide)]; exact f4
      · rw [uk 6 (by decide)]; exact f6
      · rw [uk 5 (by decide), f5]; exact b5
      · rw [uk 5 (by decide), f5]; exact b6
      · rw [uk 5 (by decide), f5]; exact b7
      · rw [uk 5 (by decide), f5]; exact b8
      · rw [uk 5 (by decide), f5]; exact b9.1
      · rw [e0] at hi ⊢
        rw [uk 3 (by decide), ← f2]; exact rch i hi
      · rw [uk 8 (by decide), e6]; exact k4
      · rw [uk 8 (by decide), e7]; exact k5
      · rw [e7] at hj; omega
      · rw [e6] at hl; omega
      · rw [uk 14 (by decide), e8]; exact k6
      · rw [uk 14 (by decide), e9]; exact k7
      · rw [e9] at hj; omega
      · rw [e8] at hl; omega
      · rw [uk 1 (by decide), e3]; exact k3
      · rw [e3] at hi; omega
      · rw [uk 20 (by decide), e4]; exact k8
      · rw [e4] at hi; omega
      · rw [mv_up_j (by decide), c1.cell 47 rfl]
      · rw [uk k (by omega)]
        refine c1.cell k ?_
        simp
        omega
      · rw [uk 0 (by decide), c1.cell 0 rfl]
      · rw [uk 52 (by decide), c1.cell 52 rfl]
  · refine mv_Kp.of (mv_JP.of (rg_X12_bench_0 x G) ?_)
    have c0 : mv_ch [] [(100, 0)] G (mv_up G 100 0 0 0) := mv_ch.rf.up rfl
    refine mv_J.ce (gx_isIn _ _ _ _) (mv_J.bt (fun h => mv_J.r0 (Or.inl rfl) ⟨(mv_b0 h).symm, ?_, c0.fM rfl⟩) (fun h => ?_))
    · rw [if_neg h]; exact hm.ch hi.1 c0 (by decide) (by decide)
    · rw [mv_ws (x := x - 40) (by omega)]
      have lp2 : ∀ (k i : Nat) (G1 : mv_G), i + k = 61 → mv_ch [101, 104] [(100, 0), (100, 6)] G G1 → G1 100 0 6 = x - 40 → (∀ j, j < 72 → G1 101 0 j = 0) → (∀ j, j < i → G1 104 0 j = 0) → mv_JP mm_X12_bench (fun v G' => v = mv_b (1 ≤ x ∧ x ≤ 60) ∧ st_mW G' (if 1 ≤ x ∧ x ≤ 60 then st_be a x else a) ∧ mv_fM G G') 49 [some (.inr (100, 0)), none, some (.inl (i : Int))] G1 := by
        intro k
        induction k with
        | zero =>
          intro i G1 hk hc1 h6 h101 h104
          refine mv_JP.of (rg_X12_bench_49 _ G1) (mv_J.t (by omega) (mv_J.ck (by decide) (mv_J.ck (by decide) (mv_J.r0 (Or.inr rfl) ⟨(mv_b1 h).symm, ?_, ?_⟩))))
          · rw [if_pos h]
            obtain ⟨e0, e1, e2, e3, e4, e5, e6, e7, e8, e9⟩ := st_be_0 (a := a) (x := x)
            obtain ⟨⟨-, -, -, -, b5, b6, b7, b8, b9⟩, -⟩ := hm.1
            have c5 : mv_ch [101, 104, 113] [(100, 0), (100, 6), (100, 8), (100, 37), (100, 3)] G (mv_up (mv_up (mv_up (mv_up (mv_up G1 100 0 8 0) 100 0 37 0) 113 0 0 0) 113 0 1 0) 100 0 3 0) := (((((hc1.mono rfl rfl).up rfl).up rfl).uc rfl).uc rfl).up rfl
            have s100 : ∀ j, j ≠ 8 → j ≠ 37 → j ≠ 3 → (mv_up (mv_up (mv_up (mv_up (mv_up G1 100 0 8 0) 100 0 37 0) 113 0 0 0) 113 0 1 0) 100 0 3 0) 100 0 j = G1 100 0 j := fun j h1 h2 h3 => by rw [mv_up_j (by omega), mv_up_k (by decide), mv_up_k (by decide), mv_up_j (by omega), mv_up_j (by omega)]
            have s8 : (mv_up (mv_up (mv_up (mv_up (mv_up G1 100 0 8 0) 100 0 37 0) 113 0 0 0) 113 0 1 0) 100 0 3 0) 100 0 8 = 0 := by rw [mv_up_j (by omega), mv_up_k (by decide), mv_up_k (by decide), mv_up_j (by omega), mv_ups_eq]
            have s37 : (mv_up (mv_up (mv_up (mv_up (mv_up G1 100 0 8 0) 100 0 37 0) 113 0 0 0) 113 0 1 0) 100 0 3 0) 100 0 37 = 0 := by rw [mv_up_j (by omega), mv_up_k (by decide), mv_up_k (by decide), mv_ups_eq]
            have s3 : (mv_up (mv_up (mv_up (mv_up (mv_up G1 100 0 8 0) 100 0 37 0) 113 0 0 0) 113 0 1 0) 100 0 3 0) 100 0 3 = 0 := mv_ups_eq
            have s1 : (mv_up (mv_up (mv_up (mv_up (mv_up G1 100 0 8 0) 100 0 37 0) 113 0 0 0) 113 0 1 0) 100 0 3 0) 113 0 0 = 0 ∧ (mv_up (mv_up (mv_up (mv_up (mv_up G1 100 0 8 0) 100 0 37 0) 113 0 0 0) 113 0 1 0) 100 0 3 0) 113 0 1 = 0 := by
              rw [mv_up_k (by decide), mv_up_j (by decide), mv_ups_eq, mv_ups_eq]
              exact ⟨rfl, rfl⟩
            have sk : ∀ k, k ≠ 100 → k ≠ 113 → (mv_up (mv_up (mv_up (mv_up (mv_up G1 100 0 8 0) 100 0 37 0) 113 0 0 0) 113 0 1 0) 100 0 3 0) k = G1 k := fun k h1 h2 => by rw [mv_up_k h1, mv_up_k h2, mv_up_k h2, mv_up_k h1, mv_up_k h1]
            generalize mv_up (mv_up (mv_up (mv_up (mv_up G1 100 0 8 0) 100 0 37 0) 113 0 0 0) 113 0 1 0) 100 0 3 0 = G5 at c5 s100 s8 s37 s3 s1 sk
            refine hm.bn (G2 := G5) ⟨⟨⟨?_, ?_, ?_, True.intro⟩, fun i hi => ?_, fun i hi => ?_, fun i hi => ?_, fun i hi => ?_, fun i hi => ?_, fun i hi => ?_, fun i hi => ?_, fun i hi => ?_⟩, ⟨?_, fun j hj => ?_, fun l hl => ?_⟩, ⟨?_, fun j hj => ?_, fun l hl => ?_⟩, ⟨?_, fun i hi => ?_⟩, ?_, fun i hi => ?_⟩ (mv_unM.z s3 e5) (fun k hk => ?_) (fun j hj => ?_) st_be_T.1 st_be_T.2
            · rw [s100 6 (by decide) (by decide) (by decide), h6, e0]
            · rw [s8, e1]
            · rw [sk 101 (by decide) (by decide), h101 0 (by decide), e2]
            · have : st_be a x 1 i = 0 := if_pos hi
              rw [sk 104 (by decide) (by decide), h104 i (by omega), this]
            · have : st_be a x 2 i = -1 := if_pos hi
              rw [sk 101 (by decide) (by decide), h101 _ (by omega), this]; rfl
            · have : st_be a x 3 i = -1 := if_pos hi
              rw [sk 101 (by decide) (by decide), h101 _ (by omega), this]; rfl
            · rw [c5.cell 105 rfl]; exact b5 i hi
            · rw [c5.cell 106 rfl]; exact b6 i hi
            · rw [c5.cell 107 rfl]; exact b7 i hi
            · rw [c5.cell 108 rfl]; exact b8 i hi
            · rw [c5.cell 109 rfl]; exact b9 i hi
            · rw [s1.1, e6]
            · rw [e7] at hj; omega
            · rw [e6] at hl; omega
            · rw [s1.2, e8]
            · rw [e9] at hj; omega
            · rw [e8] at hl; omega
            · rw [sk 101 (by decide) (by decide), h101 1 (by decide), e3]
            · rw [e3] at hi; omega
            · rw [s37, e4]
            · rw [e4] at hi; omega
            · refine c5.cell k ?_
              rcases hk with rfl | rfl | rfl <;> rfl
            · refine c5.slot 100 j ?_
              rcases hj with rfl | rfl | rfl | rfl | rfl <;> rfl
          · exact mv_ch.fM (S := [101, 104, 113]) (T := [(100, 0), (100, 6), (100, 8), (100, 37), (100, 3)]) ((((((hc1.mono rfl rfl).up rfl).up rfl).uc rfl).uc rfl).up rfl) rfl
        | succ k ih =>
          intro i G1 hk hc1 h6 h101 h104
          refine mv_JP.of (rg_X12_bench_49 _ G1) (mv_J.f (by omega) (mv_J.ck (by omega) (mv_J.ck (by decide) ?_)))
          rw [Int.toNat_natCast, mv_ws (x := (i : Int) + 1) (by omega)]
          refine mv_J.cut (ih (i + 1) _ (by omega) (hc1.uc rfl) ?_ (fun j hj => ?_) (fun j hj => ?_))
          · rw [mv_up_k (by decide)]; exact h6
          · rw [mv_up_k (by decide)]; exact h101 j hj
          · rw [mv_up_at]
            by_cases e : j = i
            · rw [if_pos e]
            · rw [if_neg e]; exact h104 j (by omega)
      have lp1 : ∀ (k i : Nat) (G1 : mv_G), i + k = 72 → mv_ch [101, 104] [(100, 0), (100, 6)] G G1 → G1 100 0 6 = x - 40 → (∀ j, j < i → G1 101 0 j = 0) → mv_JP mm_X12_bench (fun v G' => v = mv_b (1 ≤ x ∧ x ≤ 60) ∧ st_mW G' (if 1 ≤ x ∧ x ≤ 60 then st_be a x else a) ∧ mv_fM G G') 28 [some (.inr (100, 0)), none, some (.inl (i : Int))] G1 := by
        intro k
        induction k with
        | zero =>
          intro i G1 hk hc1 h6 h101
          refine mv_JP.of (rg_X12_bench_28 _ G1) (mv_J.f (by omega) (mv_J.cut ?_))
          exact lp2 61 0 G1 rfl hc1 h6 (fun j hj => h101 j (by omega)) (fun j hj => absurd hj (Nat.not_lt_zero j))
        | succ k ih =>
          intro i G1 hk hc1 h6 h101
          refine mv_JP.of (rg_X12_bench_28 _ G1) (mv_J.t (by omega) (mv_J.ck (by omega) ?_))
          rw [Int.toNat_natCast, mv_ws (x := (i : Int) + 1) (by omega)]
          refine mv_J.cut (ih (i + 1) _ (by omega) (hc1.uc rfl) ?_ (fun j hj => ?_))
          · rw [mv_up_k (by decide)]; exact h6
          · rw [mv_up_at]
            by_cases e : j = i
            · rw [if_pos e]
            · rw [if_neg e]; exact h101 j (by omega)
      exact mv_J.cut (lp1 72 0 _ rfl ((mv_ch.rf.up rfl).up rfl) mv_ups_eq (fun j hj => absurd hj (Nat.not_lt_zero j)))
  · by_cases c : 1 ≤ x ∧ x ≤ 60
    · rw [if_pos c]
      exact hi.bn (st_be_i c.1 c.2) (mv_iU.z st_be_0.2.2.2.2.2.1) st_be_T.1 st_be_T.2
    · rw [if_neg c]; exact hi
end BN
