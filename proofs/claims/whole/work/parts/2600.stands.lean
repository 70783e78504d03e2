/-! stands. -/
section SD
variable {G G2 : mv_G} {a b c : mv_a}
theorem mv_cX.h2 {x : Int} (h : mv_cX G b) : mv_cX (mv_up G 1 0 2 x) (st_s1 b 2 x) := by
  have uk : ∀ k, k ≠ 1 → (mv_up G 1 0 2 x) k = G k := fun k h => mv_up_k h
  obtain ⟨⟨c1, c2, c3, -⟩, d2, d3, d4, d5, d6, d7, d8, d9, d10⟩ := h.1
  have e : ∀ o, o ≠ 0 → st_s1 b 2 x o = b o := fun o h => st_s1_o h
  refine h.rs ⟨⟨?_, ?_, ?_, True.intro⟩, ?_, ?_, ?_, ?_, ?_, ?_, ?_, ?_, ?_⟩ (fun k q1 q2 => uk k (by omega)) (mv_up_j (by decide)) ⟨rfl, rfl⟩ (fun o q1 q2 q3 => e o (by omega))
  · rw [mv_up_j (by decide)]; exact c1
  · rw [mv_up_j (by decide)]; exact c2
  · rw [mv_ups_eq, st_s1_0]
  · rw [uk 2 (by decide)]; exact d2
  · rw [uk 4 (by decide)]; exact d3
  · rw [uk 6 (by decide)]; exact d4
  · rw [uk 5 (by decide)]; exact d5
  · rw [uk 5 (by decide)]; exact d6
  · rw [uk 5 (by decide)]; exact d7
  · rw [uk 5 (by decide)]; exact d8
  · rw [uk 5 (by decide)]; exact d9
  · rw [uk 3 (by decide)]; exact d10
theorem fx_skipTo (hX : mv_cX G b) (hi : mv_iB b) (n : Int) (hn : n ≤ 999) : mv_Kp (ff_X0_skipTo [.inr (90, 0), .inl n] G) (fun _ G' => mv_cX G' (st_sk b n) ∧ mv_ch [4] [(1, 2)] G G') := by
  have b1 := hi.1
  refine mv_Kp.of (mv_JP.of (rg_X0_skipTo_0 n G) ?_)
  rw [hX.1.1.2.2.1]
  unfold st_sk
  refine mv_J.i (fun h => ?_) (fun h => mv_J.ret ⟨by rw [if_neg h]; exact hX, mv_ch.rf⟩)
  rw [if_pos h, mv_ws (x := n - 1) (by omega)]
  exact mv_J.cn (fx_warmSeats hX hi (n - 1)) (fun _ G1 h1 => mv_J.ret ⟨h1.2.1.h2, mv_ch.up (h1.2.2.mono rfl rfl) rfl⟩)
noncomputable def st_sa (a : mv_a) (w : Int) : Int := st_if (0 ≤ w ∧ w ≤ 1) (if w = 0 then (st_tt ((0, -1), a) (1000 - a 0 2).toNat).1.1 else (st_tt ((0, -1), a) (1000 - a 0 2).toNat).1.2) (-1)
set_option maxHeartbeats 1000000 in
theorem fx_stands (h : st_cW G a) (hi : st_iW a) (w : Int) : mv_Kp (ff_X11_stands [.inr (0, 0), .inl w] G) (fun v G' => v = st_sa a w ∧ st_cW G' a ∧ mv_fC G G') := by
  have b1 := hi.1.1.1
  have dd := hi.1.2.2.2.1
  obtain ⟨nx, m1, m2, m3, m4⟩ := h.2.1
  obtain ⟨⟨c1, c2, c3, -⟩, q2, q3, q4, q5, q6, q7, q8, q9, q10⟩ := h.1.1
  have bk := h.1.2.2.2.1.1
  refine mv_Kp.of (mv_JP.of (rg_X11_stands_0 w G) (mv_J.i (fun h => mv_J.ret ⟨(st_if_n (by omega)).symm, ?_, mv_fC.rf⟩) (fun h0 => mv_J.i (fun h => mv_J.ret ⟨(st_if_n (by omega)).symm, ?_, mv_fC.rf⟩) (fun h1 => ?_))))
  · assumption
  · assumption
  have hy : 0 ≤ w ∧ w ≤ 1 := by omega
  have ks : ff_X6_keepThought [.inr (47, 0), .inr (1, 0)] G = some (0, mv_up (mv_up (mv_cpy (mv_cpy G 6 0 0 48 (6 + 1) 0 10) 4 0 0 49 (6 + 1) 0 60) 50 0 6 (G 1 0 2)) 51 0 6 (G 1 0 3)) := mv_Kp.eq (mv_Kp.of (mv_JP.of (rg_X6_keepThought_0 G) (mv_J.ce (fx_save 6 (by decide)) (mv_J.ret ⟨rfl, rfl⟩))))
  refine mv_J.ce ks ?_
  have t48 : ∀ i j, (mv_up (mv_up (mv_cpy (mv_cpy G 6 0 0 48 (6 + 1) 0 10) 4 0 0 49 (6 + 1) 0 60) 50 0 6 (G 1 0 2)) 51 0 6 (G 1 0 3)) 48 i j = if i = 7 ∧ j < 10 then a 3 j else G 48 i j := fun i j => by rw [mv_up_k (by decide), mv_up_k (by decide), mv_cpy_k (by decide), mv_cpy_at, q4]
  have t49 : ∀ i j, (mv_up (mv_up (mv_cpy (mv_cpy G 6 0 0 48 (6 + 1) 0 10) 4 0 0 49 (6 + 1) 0 60) 50 0 6 (G 1 0 2)) 51 0 6 (G 1 0 3)) 49 i j = if i = 7 ∧ j < 60 then a 2 j else G 49 i j := fun i j => by rw [mv_up_k (by decide), mv_up_k (by decide), mv_cpy_at, mv_cpy_k (by decide), mv_cpy_k (by decide), q3]
  have t50 : ∀ j, (mv_up (mv_up (mv_cpy (mv_cpy G 6 0 0 48 (6 + 1) 0 10) 4 0 0 49 (6 + 1) 0 60) 50 0 6 (G 1 0 2)) 51 0 6 (G 1 0 3)) 50 0 j = if j = 6 then a 0 2 else G 50 0 j := fun j => by rw [mv_up_k (by decide), mv_up_at, mv_cpy_k (by decide), mv_cpy_k (by decide), c3]
  have t51 : ∀ j, (mv_up (mv_up (mv_cpy (mv_cpy G 6 0 0 48 (6 + 1) 0 10) 4 0 0 49 (6 + 1) 0 60) 50 0 6 (G 1 0 2)) 51 0 6 (G 1 0 3)) 51 0 j = if j = 6 then a 0 3 else G 51 0 j := fun j => by rw [mv_up_at, mv_up_k (by decide), mv_cpy_k (by decide), mv_cpy_k (by decide), bk]
  have tk : ∀ k, k ≠ 48 → k ≠ 49 → k ≠ 50 → k ≠ 51 → (mv_up (mv_up (mv_cpy (mv_cpy G 6 0 0 48 (6 + 1) 0 10) 4 0 0 49 (6 + 1) 0 60) 50 0 6 (G 1 0 2)) 51 0 6 (G 1 0 3)) k = G k := fun k q1 q2 q3 q4 => by rw [mv_up_k q4, mv_up_k q3, mv_cpy_k q2, mv_cpy_k q1]
  generalize mv_up (mv_up (mv_cpy (mv_cpy G 6 0 0 48 (6 + 1) 0 10) 4 0 0 49 (6 + 1) 0 60) 50 0 6 (G 1 0 2)) 51 0 6 (G 1 0 3) = G1 at t48 t49 t50 t51 tk
  have cn : ff_X0_countNone [.inr (90, 0)] G1 = some (0, mv_up (mv_up G1 90 0 0 0) 90 0 1 (-1)) := mv_Kp.eq (mv_Kp.of (mv_JP.of (rg_X0_countNone_0 G1) (mv_J.ret ⟨rfl, rfl⟩)))
  refine mv_J.ce cn ?_
  have z90 : st_cS (mv_up (mv_up G1 90 0 0 0) 90 0 1 (-1)) = (0, -1) := by unfold st_cS; rw [mv_up_j (by decide), mv_ups_eq, mv_ups_eq]
  have zk : ∀ k, k ≠ 90 → (mv_up (mv_up G1 90 0 0 0) 90 0 1 (-1)) k = G1 k := fun k h => by rw [mv_up_k h, mv_up_k h]
  generalize mv_up (mv_up G1 90 0 0 0) 90 0 1 (-1) = G0 at z90 zk
  have gk : ∀ k, k < 48 ∨ (51 < k ∧ k ≠ 90) → G0 k = G k := fun k hk => (zk k (by omega)).trans (tk k (by omega) (by omega) (by omega) (by omega))
  have hX0 : mv_cX G0 a := h.1.cg (fun k hk => gk k (by
    have : ∀ k ∈ mv_cXl, k < 24 := by decide
    have := this k hk
    omega))
  -- the end of the thought
  have ends : ∀ (m : Nat) (G1' : mv_G), a 0 2 + m ≤ 1000 → st_nl a (a 0 2 + m) 1000 → mv_cX G1' (st_tt ((0, -1), a) m).2 → st_cS G1' = (st_tt ((0, -1), a) m).1 → st_fb G0 G1' → mv_J mm_X11_stands (fun v G' => v = st_sa a w ∧ st_cW G' a ∧ mv_fC G G') (mv_cn (ff_X6_endThought [.inr (47, 0), .inr (1, 0)] G1') fun _ G0 => if w = 0 then some (.inl (G0 90 0 0, G0)) else some (.inl (G0 90 0 1, G0))) := by
    intro m G2 hm hnl hX hS hf
    obtain ⟨i1, i2, i3, i4⟩ := st_tt_p hi.1 (c := (0, -1)) m hm
    have efin : (st_tt ((0, -1), a) (1000 - a 0 2).toNat).1 = (st_tt ((0, -1), a) m).1 := by
      obtain ⟨d, hd⟩ : ∃ d : Nat, a 0 2 + m + d = 1000 := ⟨(1000 - (a 0 2 + m)).toNat, by omega⟩
      rw [show (1000 - a 0 2).toNat = m + d by omega, st_tt_add]
      obtain ⟨⟨cc, bb⟩, hu⟩ : ∃ u, st_tt ((0, -1), a) m = u := ⟨_, rfl⟩
      rw [hu] at i1 i2 i3 ⊢
      dsimp only at i1 i2 i3
      rw [st_tt_nl i1 d (by omega) (fun i hi2 h2 => hnl i (by rw [← i2.1 4 (by decide) (by decide)]; exact hi2) (by rw [i2.2.2 15 (by decide) (by decide) (by decide) (by decide), i3] at h2; omega))]
    have ans : st_sa a w = if w = 0 then (st_cS G2).1 else (st_cS G2).2 := by
      unfold st_sa
      rw [st_if_y hy, efin, hS]
    have ee : ff_X6_endThought [.inr (47, 0), .inr (1, 0)] G2 = some (0, mv_up (mv_up (mv_cpy (mv_cpy G2 48 (6 + 1) 0 6 0 0 10) 49 (6 + 1) 0 4 0 0 60) 1 0 2 (G2 50 0 6)) 1 0 3 (G2 51 0 6)) := mv_Kp.eq (mv_Kp.of (mv_JP.of (rg_X6_endThought_0 G2) (mv_J.ce (fx_load 6 (by decide)) (mv_J.ret ⟨rfl, rfl⟩))))
    refine mv_J.ce ee ?_
    have u1 : ∀ j, j ≠ 2 → j ≠ 3 → (mv_up (mv_up (mv_cpy (mv_cpy G2 48 (6 + 1) 0 6 0 0 10) 49 (6 + 1) 0 4 0 0 60) 1 0 2 (G2 50 0 6)) 1 0 3 (G2 51 0 6)) 1 0 j = G2 1 0 j := fun j h1 h2 => by rw [mv_up_j h2, mv_up_j h1, mv_cpy_k (by decide), mv_cpy_k (by decide)]
    have u12 : (mv_up (mv_up (mv_cpy (mv_cpy G2 48 (6 + 1) 0 6 0 0 10) 49 (6 + 1) 0 4 0 0 60) 1 0 2 (G2 50 0 6)) 1 0 3 (G2 51 0 6)) 1 0 2 = a 0 2 := by rw [mv_up_j (by decide), mv_ups_eq, hf.cell 50 rfl, zk 50 (by decide), t50, if_pos rfl]
    have u13 : (mv_up (mv_up (mv_cpy (mv_cpy G2 48 (6 + 1) 0 6 0 0 10) 49 (6 + 1) 0 4 0 0 60) 1 0 2 (G2 50 0 6)) 1 0 3 (G2 51 0 6)) 1 0 3 = a 0 3 := by rw [mv_ups_eq, hf.cell 51 rfl, zk 51 (by decide), t51, if_pos rfl]
    have u6 : (mv_up (mv_up (mv_cpy (mv_cpy G2 48 (6 + 1) 0 6 0 0 10) 49 (6 + 1) 0 4 0 0 60) 1 0 2 (G2 50 0 6)) 1 0 3 (G2 51 0 6)) 6 0 = a 3 := funext fun j => by
      rw [mv_up_k (by decide), mv_up_k (by decide), mv_cpy_k (by decide), mv_cpy_at, hf.cell 48 rfl, zk 48 (by decide), t48]
      by_cases q : j < 10
      · rw [if_pos ⟨rfl, q⟩, if_pos ⟨rfl, q⟩]
      · rw [if_neg (fun h => q h.2), hX.1.2.2.2.1]
        exact i4.2.2 j (by omega)
    have u4 : (mv_up (mv_up (mv_cpy (mv_cpy G2 48 (6 + 1) 0 6 0 0 10) 49 (6 + 1) 0 4 0 0 60) 1 0 2 (G2 50 0 6)) 1 0 3 (G2 51 0 6)) 4 0 = a 2 := funext fun j => by
      rw [mv_up_k (by decide), mv_up_k (by decide), mv_cpy_at, mv_cpy_k (by decide), mv_cpy_k (by decide), hf.cell 49 rfl, zk 49 (by decide), t49]
      by_cases q : j < 60
      · rw [if_pos ⟨rfl, q⟩, if_pos ⟨rfl, q⟩]
      · rw [if_neg (fun h => q h.2), hX.1.2.2.1]
        exact i4.2.1 j (by omega)
    have uk : ∀ k, k ≠ 1 → k ≠ 4 → k ≠ 6 → (mv_up (mv_up (mv_cpy (mv_cpy G2 48 (6 + 1) 0 6 0 0 10) 49 (6 + 1) 0 4 0 0 60) 1 0 2 (G2 50 0 6)) 1 0 3 (G2 51 0 6)) k = G2 k := fun k q1 q2 q3 => by rw [mv_up_k q1, mv_up_k q1, mv_cpy_k q2, mv_cpy_k q3]
    generalize mv_up (mv_up (mv_cpy (mv_cpy G2 48 (6 + 1) 0 6 0 0 10) 49 (6 + 1) 0 4 0 0 60) 1 0 2 (G2 50 0 6)) 1 0 3 (G2 51 0 6) = G3 at u1 u12 u13 u6 u4 uk
    obtain ⟨bb, hbb⟩ : ∃ bb, (st_tt ((0, -1), a) m).2 = bb := ⟨_, rfl⟩
    rw [hbb] at i1 i2 i3 i4 hX
    have o : ∀ q, q ≠ 0 → q ≠ 2 → q ≠ 3 → (q < 9 ∨ 12 < q) → bb q = a q := i2.2.2
    have oz : ∀ j, j ≠ 2 → j ≠ 3 → bb 0 j = a 0 j := i2.1
    obtain ⟨⟨⟨x1, x2, x3, -⟩, y2, y3, y4, y5, y6, y7, y8, y9, y10⟩, w1, w2, ⟨w3, w4⟩, w5⟩ := hX
    unfold mv_cL at w1 w2
    unfold mv_dyC at w5
    have hle := i2.2.1
    have hx3 : mv_cX G3 a := by
      refine ⟨⟨⟨?_, ?_, u12, True.intro⟩, ?_, u4, u6, ?_, ?_, ?_, ?_, ?_, ?_⟩, ?_, ?_, ⟨u13, fun i hi2 => ?_⟩, ?_⟩
      · rw [u1 0 (by decide) (by decide), x1, oz 0 (by decide) (by decide)]
      · rw [u1 1 (by decide) (by decide), x2, oz 1 (by decide) (by decide)]
      · rw [uk 2 (by decide) (by decide) (by decide), y2, o 1 (by decide) (by decide) (by decide) (by decide)]
      · rw [uk 5 (by decide) (by decide) (by decide), y5, o 4 (by decide) (by decide) (by decide) (by decide)]
      · rw [uk 5 (by decide) (by decide) (by decide), y6, o 5 (by decide) (by decide) (by decide) (by decide)]
      · rw [uk 5 (by decide) (by decide) (by decide), y7, o 6 (by decide) (by decide) (by decide) (by decide)]
      · rw [uk 5 (by decide) (by decide) (by decide), y8, o 7 (by decide) (by decide) (by decide) (by decide)]
      · rw [uk 5 (by decide) (by decide) (by decide), y9, o 8 (by decide) (by decide) (by decide) (by decide)]
      · rw [uk 3 (by decide) (by decide) (by decide), ← o 1 (by decide) (by decide) (by decide) (by decide), ← oz 0 (by decide) (by decide)]; exact y10
      · unfold mv_cL
        rw [uk 8 (by decide) (by decide) (by decide), uk (8 + 1) (by decide) (by decide) (by decide), uk (8 + 2) (by decide) (by decide) (by decide), uk (8 + 3) (by decide) (by decide) (by decide), uk (8 + 4) (by decide) (by decide) (by decide), ← o 17 (by decide) (by decide) (by decide) (by decide), ← o (17 + 1) (by decide) (by decide) (by decide) (by decide), ← o (17 + 2) (by decide) (by decide) (by decide) (by decide), ← o (17 + 3) (by decide) (by decide) (by decide) (by decide), ← o (17 + 4) (by decide) (by decide) (by decide) (by decide)]
        exact w1
      · unfold mv_cL
        rw [uk 14 (by decide) (by decide) (by decide), uk (14 + 1) (by decide) (by decide) (by decide), uk (14 + 2) (by decide) (by decide) (by decide), uk (14 + 3) (by decide) (by decide) (by decide), uk (14 + 4) (by decide) (by decide) (by decide), ← o 22 (by decide) (by decide) (by decide) (by decide), ← o (22 + 1) (by decide) (by decide) (by decide) (by decide), ← o (22 + 2) (by decide) (by decide) (by decide) (by decide), ← o (22 + 3) (by decide) (by decide) (by decide) (by decide), ← o (22 + 4) (by decide) (by decide) (by decide) (by decide)]
        exact w2
      · obtain ⟨r1, r2, r3, r4⟩ := i4.1 i hi2
        rw [uk 7 (by decide) (by decide) (by decide), ← r1, ← r2, ← r3, ← r4]
        exact w4 i (by omega)
      · unfold mv_dyC
        rw [uk 20 (by decide) (by decide) (by decide), uk 21 (by decide) (by decide) (by decide), uk 22 (by decide) (by decide) (by decide), uk 23 (by decide) (by decide) (by decide), ← oz 4 (by decide) (by decide), ← o 13 (by decide) (by decide) (by decide) (by decide), ← o 14 (by decide) (by decide) (by decide) (by decide), ← o 15 (by decide) (by decide) (by decide) (by decide)]
        exact w5
    have ek : ∀ k, (24 ≤ k ∧ k ≤ 47) ∨ (52 ≤ k ∧ k ≤ 65) ∨ k = 0 → G3 k = G k := fun k hk => by
      rw [uk k (by omega) (by omega) (by omega), hf.cell k (by simp; omega), gk k (by omega)]
    have hW : st_cW G3 a := by
      refine h.bn hx3 ⟨nx, m1, ?_, ?_, fun r hr => ?_⟩ (fun k hk => ek k (by omega)) (by rw [ek 0 (by omega)]) (fun j hj => by rw [ek 52 (by omega)]) ⟨rfl, rfl, rfl, rfl⟩ ⟨rfl, fun _ _ => rfl⟩
      · rw [ek 47 (by omega)]; exact m2
      · rw [ek 47 (by omega)]; exact m3
      · obtain ⟨g1, g2, g3, g4⟩ := m4 r hr
        have hs : mv_slt nx (a 0 5).toNat r < 6 := by unfold mv_slt; omega
        have z48 : ∀ k, 48 ≤ k → k ≤ 51 → G3 k = G1 k := fun k q1 q2 => by rw [uk k (by omega) (by omega) (by omega), hf.cell k (by simp; omega), zk k (by omega)]
        refine ⟨fun p hp => ?_, fun i hi2 => ?_, ?_, ?_⟩
        · rw [z48 48 (by omega) (by omega), t48, if_neg (by omega)]; exact g1 p hp
        · rw [z48 49 (by omega) (by omega), t49, if_neg (by omega)]; exact g2 i hi2
        · rw [z48 50 (by omega) (by omega), t50, if_neg (by omega)]; exact g3
        · rw [z48 51 (by omega) (by omega), t51, if_neg (by omega)]; exact g4
    have hfin : mv_fC G G3 := fun k hk => by rw [uk k (by omega) (by omega) (by omega), hf.fC k hk, gk k (by omega)]
    have e90 : G3 90 = G2 90 := uk 90 (by decide) (by decide) (by decide)
    rw [ans]
    refine mv_J.i (fun e => mv_J.ret ⟨?_, hW, hfin⟩) (fun e => mv_J.ret ⟨?_, hW, hfin⟩)
    · rw [if_pos e, e90]; rfl
    · rw [if_neg e, e90]; rfl
  -- the hours that have lines
  have lp : ∀ (k i m : Nat) (r : Int) (G1' : mv_G), i + k = 24 → a 0 2 + m ≤ 1000 → st_nx a (a 0 2 + m) r → i ≤ st_nb a (a 0 2 + m) (a 0 4).toNat → mv_cX G1' (st_tt ((0, -1), a) m).2 → st_cS G1' = (st_tt ((0, -1), a) m).1 → st_fb G0 G1' → mv_JP mm_X11_stands (fun v G' => v = st_sa a w ∧ st_cW G' a ∧ mv_fC G G') 49 [some (.inr (0, 0)), some (.inl w), some (.inl r), some (.inl (i : Int))] G1' := by
    intro k
    induction k with
    | zero =>
      intro i m r G2 hk hm hn hb hX hS hf
      refine mv_JP.of (rg_X11_stands_49 _ _ _ G2) (mv_J.f (by omega) (ends m G2 hm (fun j hj hc => ?_) hX hS hf))
      have l := st_nb_le (a := a) (h := a 0 2 + m) (a 0 4).toNat
      have := st_nb_all (a := a) (h := a 0 2 + m) (a 0 4).toNat (by omega) j (by omega)
      omega
    | succ k ih =>
      intro i m r G2 hk hm hn hb hX hS hf
      obtain ⟨n1, n2, n3⟩ := hn
      refine mv_JP.of (rg_X11_stands_49 _ _ _ G2) (mv_J.t (by omega) (mv_J.i (fun hr => ?_) (fun hr => ends m G2 hm (fun j hj hc => n1 j hj (by omega)) hX hS hf)))
      obtain ⟨i1, i2, i3, i4⟩ := st_tt_p hi.1 (c := (0, -1)) m hm
      obtain ⟨r1, jl, r2, r3⟩ := n3 hr
      obtain ⟨d, hd⟩ : ∃ d : Nat, r = a 0 2 + m + d := ⟨(r - (a 0 2 + m)).toNat, by omega⟩
      obtain ⟨⟨cc, bb⟩, hu⟩ : ∃ u, st_tt ((0, -1), a) m = u := ⟨_, rfl⟩
      have hmd : st_tt ((0, -1), a) (m + d) = (cc, st_sk bb r) := by
        rw [st_tt_add, hu]
        rw [hu] at i1 i2 i3
        dsimp only at i1 i2 i3
        rw [st_tt_nl i1 d (by omega) (fun i hi2 h2 => n1 i (by rw [← i2.1 4 (by decide) (by decide)]; exact hi2) (by rw [i2.2.2 15 (by decide) (by decide) (by decide) (by decide), i3] at h2; omega)), i3, hd]
      obtain ⟨o1, o2, o3, o4⟩ := st_tt_p hi.1 (c := (0, -1)) (m + d) (by omega)
      obtain ⟨p1, p2, p3, p4⟩ := st_tt_p hi.1 (c := (0, -1)) (m + d + 1) (by omega)
      have hm1 : st_tt ((0, -1), a) (m + d + 1) = (st_hr cc (st_sk bb r)).2 := by
        show (st_hr (st_tt ((0, -1), a) (m + d)).1 (st_tt ((0, -1), a) (m + d)).2).2 = _
        rw [hmd]
      rw [hu] at i1 hX hS
      rw [hmd] at o1 o3
      rw [hm1] at p1 p2 p3
      dsimp only at o1 o3 hX hS i1
      refine mv_J.cn (fx_skipTo hX i1.1 r (by omega)) (fun _ G3 h3 => ?_)
      have hS3 : st_cS G3 = cc := by rw [← hS]; unfold st_cS; rw [h3.2.cell 90 rfl]
      refine mv_J.cn (fx_passHour h3.1 o1 (by omega)) (fun _ G4 h4 => ?_)
      obtain ⟨-, g1, g2, g3⟩ := h4
      rw [hS3] at g1 g2
      rw [g1.1.1.2.2.1]
      refine mv_J.cn (fx_nextHour g1 p1 ((st_hr cc (st_sk bb r)).2.2 0 2)) (fun r2 G5 h5 => ?_)
      obtain ⟨rfl, h5⟩ := h5
      rw [show mv_w ((i : Int) + 1) = ((i + 1 : Nat) : Int) from mv_ws (by omega)]
      refine mv_J.cut (ih (i + 1) (m + d + 1) r2 _ (by omega) (by omega) ?_ ?_ (by rw [hm1]; exact g1) (by rw [hm1]; exact g2) ((hf.tr (h3.2.mono rfl rfl)).tr g3))
      · rw [p3] at h5
        obtain ⟨s1, s2, s3⟩ := h5
        have e4 := p2.1 4 (by decide) (by decide)
        have e15 := p2.2.2 15 (by decide) (by decide) (by decide) (by decide)
        refine ⟨fun j hj => ?_, s2, fun h => ?_⟩
        · have := s1 j (by rw [e4]; exact hj)
          rw [e15] at this; exact this
        · obtain ⟨s4, j, s5, s6⟩ := s3 h
          rw [e4] at s5
          rw [e15] at s6
          exact ⟨s4, j, s5, s6⟩
      · have := st_nb_st (a := a) (h := a 0 2 + m) (h2 := a 0 2 + ((m + d + 1 : Nat) : Int)) (i := jl) (by omega) (by omega) (a 0 4).toNat (by omega)
        omega
  rw [hX0.1.1.2.2.1]
  refine mv_J.cn (fx_nextHour hX0 hi.1 (a 0 2)) (fun r G5 h5 => ?_)
  obtain ⟨rfl, h5⟩ := h5
  exact mv_J.cut (lp 24 0 0 r _ (by omega) (by omega) (by rw [show a 0 2 + ((0 : Nat) : Int) = a 0 2 by omega]; exact h5) (Nat.zero_le _) hX0 z90 mv_ch.rf)
end SD
