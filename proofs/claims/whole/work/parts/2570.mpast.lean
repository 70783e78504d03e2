/-! What can be undone, the reference; undo. -/
section MQ2
variable {G G2 : mv_G} {a b : mv_a}
set_option maxHeartbeats 1000000 in
set_option maxRecDepth 100000 in
theorem gx_keepsAhead (h : st_mW G a) (hi : st_iW a) : mv_Kp (ff_X12_keepsAhead [.inr (100, 0)] G) (fun _ G' => st_mW G' (st_kp a) ∧ mv_fM G G') := by
  obtain ⟨h2, h3⟩ := hi.2.1.1
  obtain ⟨hd, hc⟩ := st_kd_b (a := a) ⟨h2, h3⟩
  obtain ⟨n1, n2, n3, n4⟩ := st_kp_n (a := a) ⟨h2, h3⟩
  have e5 : st_kp a 0 5 = ((st_kd a + 1 : Nat) : Int) := by
    rw [st_kp_5]
    split <;> omega
  obtain ⟨d, hdd⟩ : ∃ d, st_kd a = d := ⟨_, rfl⟩
  rw [hdd] at hd hc n1 n2 n3 n4 e5
  obtain ⟨u3, um⟩ := h.2.1
  obtain ⟨⟨b1, b2, b3, b4, -⟩, -⟩ := h.1
  have bk := h.1.2.2.2.1.1
  have f102 : ∀ {G1 : mv_G}, mv_ch [102] [(100, 3)] G G1 → mv_fM G G1 := fun h => h.fM rfl
  -- the row of now is put down
  have lp2 : ∀ (k i : Nat) (G1 : mv_G), i + k = 72 → mv_ch [102] [(100, 3)] G G1 → G1 100 0 3 = (d : Int) → (∀ j, j < 72 * d → G1 102 0 j = if a 0 5 = 6 then G 102 0 (j + 72) else G 102 0 j) → (∀ j, j < i → G1 102 0 (72 * d + j) = G 101 0 j) → mv_JP mm_X12_keepsAhead (fun _ G' => st_mW G' (st_kp a) ∧ mv_fM G G') 55 [some (.inr (100, 0)), some (.inl (i : Int))] G1 := by
    intro k
    induction k with
    | zero =>
      intro i G1 hk hc1 h3d hold hnew
      refine mv_JP.of (rg_X12_keepsAhead_55 _ G1) ?_
      rw [h3d, mv_ws (x := (d : Int) + 1) (by omega)]
      have c2 : mv_ch [102] [(100, 3)] G (mv_up G1 100 0 3 ((d : Int) + 1)) := hc1.up rfl
      refine mv_J.f (by omega) (mv_J.ret ⟨?_, f102 c2⟩)
      have ek : ∀ k2, k2 ≠ 102 → k2 ≠ 100 → (mv_up G1 100 0 3 ((d : Int) + 1)) k2 = G k2 := fun k2 q1 q2 => c2.cell k2 (by simp; omega)
      have es : ∀ j, j ≠ 3 → (mv_up G1 100 0 3 ((d : Int) + 1)) 100 0 j = G 100 0 j := fun j hj => c2 100 0 j rfl (by simp; omega)
      have e102 : ∀ j, (mv_up G1 100 0 3 ((d : Int) + 1)) 102 0 j = G1 102 0 j := fun j => by rw [mv_up_k (by decide)]
      have e3 : (mv_up G1 100 0 3 ((d : Int) + 1)) 100 0 3 = (d : Int) + 1 := mv_ups_eq
      generalize mv_up G1 100 0 3 ((d : Int) + 1) = G3 at c2 ek es e102 e3
      refine h.bn ((h.1.cg hi.1 (fun k2 j hr => ?_)).ag st_kp_X.1) ⟨by rw [e3, e5]; omega, fun r hr => ?_⟩ (fun k2 hk2 => ek k2 (by omega) (by omega)) (fun j hj => es j (by omega)) st_kp_X.2.1 st_kp_X.2.2
      · by_cases c : k2 = 100
        · subst c
          exact es j (by unfold mv_rel at hr; omega)
        · rw [ek k2 (by unfold mv_rel at hr; omega) c]
      · rw [e5] at hr
        by_cases c : r = d
        · subst c
          rw [n1, n2]
          refine ⟨?_, ?_, fun p hp => ?_, fun i2 hi2 => ?_⟩
          · have := hnew 0 (by omega)
            rw [e102, show 72 * r = 72 * r + 0 by omega, this]; exact b1.2.2.1
          · rw [e102, hnew 1 (by omega)]; exact bk
          · rw [e102, hnew (2 + p) (by omega), n3]; exact b4 p hp
          · rw [e102, hnew (12 + i2) (by omega), n4]; exact b3 i2 hi2
        · have hr2 : r < d := by omega
          have k1 : st_kp a (30 + r) = a (30 + (if a 0 5 = 6 then r + 1 else r)) := st_kp_r ⟨h2, h3⟩ (by omega) (Or.inl rfl)
          have k2 : st_kp a (40 + r) = a (40 + (if a 0 5 = 6 then r + 1 else r)) := st_kp_r ⟨h2, h3⟩ (by omega) (Or.inr (Or.inl rfl))
          have k3 : st_kp a (50 + r) = a (50 + (if a 0 5 = 6 then r + 1 else r)) := st_kp_r ⟨h2, h3⟩ (by omega) (Or.inr (Or.inr rfl))
          have old : ∀ x, x < 72 → G3 102 0 (72 * r + x) = G 102 0 (72 * (if a 0 5 = 6 then r + 1 else r) + x) := fun x hx => by
            rw [e102, hold (72 * r + x) (by omega)]
            split
            · rw [show 72 * r + x + 72 = 72 * (r + 1) + x by omega]
            · rfl
          obtain ⟨s, hs⟩ : ∃ s, (if a 0 5 = 6 then r + 1 else r) = s := ⟨_, rfl⟩
          have hsl : (s : Int) < a 0 5 := by rw [← hs]; split <;> omega
          rw [hs] at k1 k2 k3 old
          obtain ⟨g1, g2, g3, g4⟩ := um s hsl
          rw [k1, k2, k3]
          refine ⟨?_, ?_, fun p hp => ?_, fun i2 hi2 => ?_⟩
          · have := old 0 (by omega)
            rw [show 72 * r = 72 * r + 0 by omega, this]; exact g1
          · rw [old 1 (by omega)]; exact g2
          · rw [old (2 + p) (by omega)]; exact g3 p hp
          · rw [old (12 + i2) (by omega)]; exact g4 i2 hi2
    | succ k ih =>
      intro i G1 hk hc1 h3d hold hnew
      refine mv_JP.of (rg_X12_keepsAhead_55 _ G1) ?_
      rw [h3d, hc1.cell 101 rfl, mv_ws (x := 72 * (d : Int)) (by omega), mv_ws (x := 72 * (d : Int) + i) (by omega), mv_ws (x := (i : Int) + 1) (by omega), Int.toNat_natCast, show Int.toNat (72 * (d : Int) + i) = 72 * d + i by omega]
      refine mv_J.t (by omega) (mv_J.ck (by omega) ?_)
      rw [mv_ckp (n := 432) (by omega)]
      refine mv_J.cut (ih (i + 1) _ (by omega) (hc1.uc rfl) ?_ (fun j hj => ?_) (fun j hj => ?_))
      · rw [mv_up_k (by decide)]; exact h3d
      · rw [mv_up_j (by omega)]; exact hold j hj
      · rw [mv_up_at]
        by_cases e : j = i
        · rw [if_pos (by omega), e]
        · rw [if_neg (by omega)]; exact hnew j (by omega)
  -- the older ones go down
  have lp1 : a 0 5 = 6 → ∀ (k i : Nat) (G1 : mv_G), i + k = 360 → mv_ch [102] [(100, 3)] G G1 → G1 100 0 3 = 5 → (∀ j, G1 102 0 j = if j < i then G 102 0 (j + 72) else G 102 0 j) → mv_JP mm_X12_keepsAhead (fun _ G' => st_mW G' (st_kp a) ∧ mv_fM G G') 21 [some (.inr (100, 0)), some (.inl (i : Int))] G1 := by
    intro h6 k
    have hd5 : d = 5 := by omega
    induction k with
    | zero =>
      intro i G1 hk hc1 h3d hold
      refine mv_JP.of (rg_X12_keepsAhead_21 _ G1) ?_
      rw [h3d, mv_ws (x := 72 * (5 : Int)) (by omega)]
      refine mv_J.f (by omega) (mv_J.cut (lp2 72 0 G1 rfl hc1 (by rw [h3d, hd5]; rfl) (fun j hj => ?_) (fun j hj => absurd hj (Nat.not_lt_zero j))))
      rw [hold j, if_pos (by omega), if_pos h6]
    | succ k ih =>
      intro i G1 hk hc1 h3d hold
      refine mv_JP.of (rg_X12_keepsAhead_21 _ G1) ?_
      rw [h3d, mv_ws (x := 72 * (5 : Int)) (by omega), mv_ws (x := (i : Int) + 72) (by omega), mv_ws (x := (i : Int) + 1) (by omega), Int.toNat_natCast, show Int.toNat ((i : Int) + 72) = i + 72 by omega]
      refine mv_J.t (by omega) ?_
      rw [mv_ckp (n := 432) (by omega), mv_ckp (n := 432) (by omega)]
      refine mv_J.cut (ih (i + 1) _ (by omega) (hc1.uc rfl) (by rw [mv_up_k (by decide)]; exact h3d) (fun j => ?_))
      rw [mv_up_at]
      by_cases e : j = i
      · rw [if_pos e, if_pos (by omega), hold (i + 72), if_neg (by omega), e]
      · rw [if_neg e, hold j]
        by_cases c : j < i
        · rw [if_pos c, if_pos (by omega)]
        · rw [if_neg c, if_neg (by omega)]
  refine mv_Kp.of (mv_JP.of (rg_X12_keepsAhead_0 G) ?_)
  rw [u3]
  refine mv_J.i (fun h6 => ?_) (fun h6 => ?_)
  · rw [mv_ws (x := a 0 5 - 1) (by omega)]
    refine mv_J.cut (lp1 h6 360 0 _ rfl (mv_ch.rf.up rfl) (by rw [mv_ups_eq]; omega) (fun j => ?_))
    rw [mv_up_k (by decide), if_neg (Nat.not_lt_zero j)]
  · refine mv_J.cut (lp2 72 0 G rfl mv_ch.rf (by rw [u3]; omega) (fun j hj => by rw [if_neg h6]) (fun j hj => absurd hj (Nat.not_lt_zero j)))
/-! undo -/
def st_ud (a : mv_a) : mv_a := st_s1 (mv_un a ((a 0 5).toNat - 1)) 5 (a 0 5 - 1)
theorem st_ud_o {o : Nat} (h0 : o ≠ 0) (h2 : o ≠ 2) (h3 : o ≠ 3) : st_ud a o = a o := by
  unfold st_ud
  rw [st_s1_o h0, mv_un_o h0 h2 h3]
theorem st_ud_0 {j : Nat} (h2 : j ≠ 2) (h3 : j ≠ 3) (h5 : j ≠ 5) : st_ud a 0 j = a 0 j := by
  unfold st_ud
  rw [st_s1_j h5]
  unfold mv_un
  rw [if_neg (fun h => h2 h.2), if_neg (fun h => h3 h.2), if_neg (by decide), if_neg (by decide)]
theorem st_ud_l : st_ud a 0 2 = a (30 + ((a 0 5).toNat - 1)) 0 ∧ st_ud a 0 3 = a (30 + ((a 0 5).toNat - 1)) 1 ∧ st_ud a 0 5 = a 0 5 - 1 ∧ st_ud a 2 = (fun j => if j < 60 then a (50 + ((a 0 5).toNat - 1)) j else a 2 j) ∧ st_ud a 3 = (fun j => if j < 10 then a (40 + ((a 0 5).toNat - 1)) j else a 3 j) := ⟨rfl, rfl, rfl, rfl, rfl⟩
theorem st_ud_T : ag_T a (st_ud a) ∧ ag_I a (st_ud a) := ⟨⟨st_ud_0 (by decide) (by decide) (by decide), st_ud_0 (by decide) (by decide) (by decide), st_ud_0 (by decide) (by decide) (by decide), st_ud_o (by decide) (by decide) (by decide)⟩, st_ud_0 (by decide) (by decide) (by decide), fun o h => st_ud_o (by omega) (by omega) (by omega)⟩
set_option maxHeartbeats 1000000 in
theorem bx_undo : st_bx (ff_X11_undo [.inr (0, 0)]) (ff_X12_undo [.inr (100, 0)]) := by
  refine st_bx_of (fun a => mv_b (a 0 5 ≠ 0)) (fun a => if a 0 5 = 0 then a else st_ud a) (fun G a hc hi => ?_) (fun G a hm hi => ?_) (fun a hi => ?_)
  · obtain ⟨nx, m1, m2, m3, m4⟩ := hc.2.1
    obtain ⟨⟨h2, h3⟩, hu⟩ := hi.2.1
    refine mv_Kp.of (mv_JP.of (rg_X11_undo_0 G) ?_)
    have back : mv_Kp (ff_X6_goBack [.inr (47, 0), .inr (1, 0)] G) (fun v G' => v = mv_b (a 0 5 ≠ 0) ∧ st_cW G' (if a 0 5 = 0 then a else st_ud a) ∧ mv_fC G G') := by
      refine mv_Kp.of (mv_JP.of (rg_X6_goBack_0 G) ?_)
      rw [m3]
      refine mv_J.i (fun e => mv_J.r0 (Or.inl rfl) ⟨(mv_b0 (fun h => h e)).symm, by rw [if_pos e]; exact hc, mv_fC.rf⟩) (fun e => mv_J.f (by decide) ?_)
      rw [if_neg e]
      obtain ⟨c, hcc⟩ : ∃ c : Nat, a 0 5 = ((c + 1 : Nat) : Int) := ⟨(a 0 5).toNat - 1, by omega⟩
      have htc : (a 0 5).toNat - 1 = c := by omega
      obtain ⟨l1, l2, l3, l4, l5⟩ := st_ud_l (a := a)
      rw [htc] at l1 l2 l4 l5
      have em : Int.tmod ((nx : Int) + 6 - 1) 6 = (((nx + 5) % 6 : Nat) : Int) := by
        have : nx = 0 ∨ nx = 1 ∨ nx = 2 ∨ nx = 3 ∨ nx = 4 ∨ nx = 5 := by omega
        rcases this with rfl | rfl | rfl | rfl | rfl | rfl <;> decide
      rw [mv_up_j (show (1 : Nat) ≠ 0 by decide), m2, mv_ws (x := (nx : Int) + 6) (by omega), mv_ws (x := (nx : Int) + 6 - 1) (by omega), em, mv_ws (x := (((nx + 5) % 6 : Nat) : Int)) (by omega), mv_ws (x := a 0 5 - 1) (by omega), mv_ups_eq]
      obtain ⟨s, hs⟩ : ∃ s, (nx + 5) % 6 = s := ⟨_, rfl⟩
      have es : mv_slt nx (a 0 5).toNat c = s := by unfold mv_slt; omega
      rw [hs]
      have g47 : ∀ k, k ≠ 47 → (mv_up (mv_up G 47 0 0 (a 0 5 - 1)) 47 0 1 (s : Int)) k = G k := fun k h => by rw [mv_up_k h, mv_up_k h]
      have g470 : (mv_up (mv_up G 47 0 0 (a 0 5 - 1)) 47 0 1 (s : Int)) 47 0 0 = a 0 5 - 1 := by rw [mv_up_j (by decide), mv_ups_eq]
      have g471 : (mv_up (mv_up G 47 0 0 (a 0 5 - 1)) 47 0 1 (s : Int)) 47 0 1 = s := mv_ups_eq
      generalize mv_up (mv_up G 47 0 0 (a 0 5 - 1)) 47 0 1 (s : Int) = G1 at g47 g470 g471
      obtain ⟨r1, r2, r3, r4⟩ := m4 c (by omega)
      rw [es] at r1 r2 r3 r4
      refine mv_J.ce (fx_load s (by omega)) (mv_J.r0 (Or.inr rfl) ⟨(mv_b1 e).symm, ?_, fun k hk => ?_⟩)
      · rw [g47 50 (by decide), g47 51 (by decide)]
        have tk : ∀ k, k ≠ 1 → k ≠ 4 → k ≠ 6 → (mv_up (mv_up (mv_cpy (mv_cpy G1 48 (s + 1) 0 6 0 0 10) 49 (s + 1) 0 4 0 0 60) 1 0 2 (G 50 0 s)) 1 0 3 (G 51 0 s)) k = G1 k := fun k q1 q2 q3 => by rw [mv_up_k q1, mv_up_k q1, mv_cpy_k q2, mv_cpy_k q3]
        have t1 : ∀ j, j ≠ 2 → j ≠ 3 → (mv_up (mv_up (mv_cpy (mv_cpy G1 48 (s + 1) 0 6 0 0 10) 49 (s + 1) 0 4 0 0 60) 1 0 2 (G 50 0 s)) 1 0 3 (G 51 0 s)) 1 0 j = G 1 0 j := fun j q1 q2 => by rw [mv_up_j q2, mv_up_j q1, mv_cpy_k (by decide), mv_cpy_k (by decide), g47 1 (by decide)]
        have t12 : (mv_up (mv_up (mv_cpy (mv_cpy G1 48 (s + 1) 0 6 0 0 10) 49 (s + 1) 0 4 0 0 60) 1 0 2 (G 50 0 s)) 1 0 3 (G 51 0 s)) 1 0 2 = G 50 0 s := by rw [mv_up_j (by decide), mv_ups_eq]
        have t13 : (mv_up (mv_up (mv_cpy (mv_cpy G1 48 (s + 1) 0 6 0 0 10) 49 (s + 1) 0 4 0 0 60) 1 0 2 (G 50 0 s)) 1 0 3 (G 51 0 s)) 1 0 3 = G 51 0 s := mv_ups_eq
        have t6 : (mv_up (mv_up (mv_cpy (mv_cpy G1 48 (s + 1) 0 6 0 0 10) 49 (s + 1) 0 4 0 0 60) 1 0 2 (G 50 0 s)) 1 0 3 (G 51 0 s)) 6 0 = fun j => if j < 10 then G 48 (s + 1) j else G 6 0 j := funext fun j => by
          rw [mv_up_k (by decide), mv_up_k (by decide), mv_cpy_k (by decide), mv_cpy_at, g47 48 (by decide), g47 6 (by decide)]
          by_cases q : j < 10
          · rw [if_pos ⟨rfl, q⟩, if_pos q]
          · rw [if_neg (fun h => q h.2), if_neg q]
        have t4 : (mv_up (mv_up (mv_cpy (mv_cpy G1 48 (s + 1) 0 6 0 0 10) 49 (s + 1) 0 4 0 0 60) 1 0 2 (G 50 0 s)) 1 0 3 (G 51 0 s)) 4 0 = fun j => if j < 60 then G 49 (s + 1) j else G 4 0 j := funext fun j => by
          rw [mv_up_k (by decide), mv_up_k (by decide), mv_cpy_at, mv_cpy_k (by decide), mv_cpy_k (by decide), g47 49 (by decide), g47 4 (by decide)]
          by_cases q : j < 60
          · rw [if_pos ⟨rfl, q⟩, if_pos q]
          · rw [if_neg (fun h => q h.2), if_neg q]
        generalize mv_up (mv_up (mv_cpy (mv_cpy G1 48 (s + 1) 0 6 0 0 10) 49 (s + 1) 0 4 0 0 60) 1 0 2 (G 50 0 s)) 1 0 3 (G 51 0 s) = G3 at tk t1 t12 t13 t6 t4
        have ek : ∀ k, k ≠ 1 → k ≠ 4 → k ≠ 6 → k ≠ 47 → G3 k = G k := fun k q1 q2 q3 q4 => (tk k q1 q2 q3).trans (g47 k q4)
        obtain ⟨⟨b1, b2, b3, b4, b5, b6, b7, b8, b9, b10⟩, w1, w2, bk, dy⟩ := hc.1
        unfold mv_cL at w1 w2
        unfold mv_bkC at bk
        unfold mv_dyC at dy
        have hle := (hu c (by omega)).2.1
        refine hc.bn (G2 := G3) ⟨⟨⟨?_, ?_, ?_, True.intro⟩, ?_, ?_, ?_, ?_, ?_, ?_, ?_, ?_, ?_⟩, ?_, ?_, ⟨?_, fun i hi2 => ?_⟩, ?_⟩ ⟨s, by omega, ?_, ?_, fun r hr => ?_⟩ (fun k hk => ek k (by omega) (by omega) (by omega) (by omega)) (by rw [ek 0 (by decide) (by decide) (by decide) (by decide)]) (fun j hj => by rw [ek 52 (by decide) (by decide) (by decide) (by decide)]) st_ud_T.1 st_ud_T.2
        · rw [t1 0 (by decide) (by decide), st_ud_0 (by decide) (by decide) (by decide)]; exact b1.1
        · rw [t1 1 (by decide) (by decide), st_ud_0 (by decide) (by decide) (by decide)]; exact b1.2.1
        · rw [t12, l1]; exact r3
        · rw [ek 2 (by decide) (by decide) (by decide) (by decide), st_ud_o (by decide) (by decide) (by decide)]; exact b2
        · rw [t4, l4]
          refine funext fun j => ?_
          by_cases q : j < 60
          · rw [if_pos q, if_pos q]; exact r2 j q
          · rw [if_neg q, if_neg q, b3]
        · rw [t6, l5]
          refine funext fun j => ?_
          by_cases q : j < 10
          · rw [if_pos q, if_pos q]; exact r1 j q
          · rw [if_neg q, if_neg q, b4]
        · rw [ek 5 (by decide) (by decide) (by decide) (by decide), st_ud_o (by decide) (by decide) (by decide)]; exact b5
        · rw [ek 5 (by decide) (by decide) (by decide) (by decide), st_ud_o (by decide) (by decide) (by decide)]; exact b6
        · rw [ek 5 (by decide) (by decide) (by decide) (by decide), st_ud_o (by decide) (by decide) (by decide)]; exact b7
        · rw [ek 5 (by decide) (by decide) (by decide) (by decide), st_ud_o (by decide) (by decide) (by decide)]; exact b8
        · rw [ek 5 (by decide) (by decide) (by decide) (by decide), st_ud_o (by decide) (by decide) (by decide)]; exact b9
        · rw [ek 3 (by decide) (by decide) (by decide) (by decide), st_ud_0 (by decide) (by decide) (by decide), st_ud_o (by decide) (by decide) (by decide)]; exact b10
        · unfold mv_cL
          rw [ek 8 (by decide) (by decide) (by decide) (by decide), ek (8 + 1) (by decide) (by decide) (by decide) (by decide), ek (8 + 2) (by decide) (by decide) (by decide) (by decide), ek (8 + 3) (by decide) (by decide) (by decide) (by decide), ek (8 + 4) (by decide) (by decide) (by decide) (by decide), st_ud_o (o := 17) (by decide) (by decide) (by decide), st_ud_o (o := 17 + 1) (by decide) (by decide) (by decide), st_ud_o (o := 17 + 2) (by decide) (by decide) (by decide), st_ud_o (o := 17 + 3) (by decide) (by decide) (by decide), st_ud_o (o := 17 + 4) (by decide) (by decide) (by decide)]
          exact w1
        · unfold mv_cL
          rw [ek 14 (by decide) (by decide) (by decide) (by decide), ek (14 + 1) (by decide) (by decide) (by decide) (by decide), ek (14 + 2) (by decide) (by decide) (by decide) (by decide), ek (14 + 3) (by decide) (by decide) (by decide) (by decide), ek (14 + 4) (by decide) (by decide) (by decide) (by decide), st_ud_o (o := 22) (by decide) (by decide) (by decide), st_ud_o (o := 22 + 1) (by decide) (by decide) (by decide), st_ud_o (o := 22 + 2) (by decide) (by decide) (by decide), st_ud_o (o := 22 + 3) (by decide) (by decide) (by decide), st_ud_o (o := 22 + 4) (by decide) (by decide) (by decide)]
          exact w2
        · rw [t13, l2]; exact r4
        · rw [l2] at hi2
          rw [ek 7 (by decide) (by decide) (by decide) (by decide), st_ud_o (o := 9) (by decide) (by decide) (by decide), st_ud_o (o := 10) (by decide) (by decide) (by decide), st_ud_o (o := 11) (by decide) (by decide) (by decide), st_ud_o (o := 12) (by decide) (by decide) (by decide)]
          exact bk.2 i (by omega)
        · unfold mv_dyC
          rw [ek 20 (by decide) (by decide) (by decide) (by decide), ek 21 (by decide) (by decide) (by decide) (by decide), ek 22 (by decide) (by decide) (by decide) (by decide), ek 23 (by decide) (by decide) (by decide) (by decide), st_ud_0 (by decide) (by decide) (by decide), st_ud_o (o := 13) (by decide) (by decide) (by decide), st_ud_o (o := 14) (by decide) (by decide) (by decide), st_ud_o (o := 15) (by decide) (by decide) (by decide)]
          exact dy
        · rw [tk 47 (by decide) (by decide) (by decide)]; exact g471
        · rw [tk 47 (by decide) (by decide) (by decide), l3]; exact g470
        · rw [l3] at hr ⊢
          have e2 : mv_slt s (a 0 5 - 1).toNat r = mv_slt nx (a 0 5).toNat r := by unfold mv_slt; omega
          rw [e2, ek 48 (by decide) (by decide) (by decide) (by decide), ek 49 (by decide) (by decide) (by decide) (by decide), ek 50 (by decide) (by decide) (by decide) (by decide), ek 51 (by decide) (by decide) (by decide) (by decide), st_ud_o (o := 30 + r) (by omega) (by omega) (by omega), st_ud_o (o := 40 + r) (by omega) (by omega) (by omega), st_ud_o (o := 50 + r) (by omega) (by omega) (by omega)]
          exact m4 r (by omega)
      · rw [mv_up_k (by omega), mv_up_k (by omega), mv_cpy_k (by omega), mv_cpy_k (by omega), g47 k (by omega)]
    exact mv_J.cn back (fun v G1 h => mv_J.r0 (by rw [h.1]; exact mv_b_or _) h)
  · obtain ⟨⟨h2, h3⟩, hu⟩ := hi.2.1
    have c0 : mv_ch [] [(100, 0)] G (mv_up G 100 0 0 0) := mv_ch.rf.up rfl
    have hm0 := hm.ch hi.1 c0 (by decide) (by decide)
    have f0 : mv_fM G (mv_up G 100 0 0 0) := c0.fM rfl
    refine mv_Kp.of (mv_JP.of (rg_X12_undo_0 G) ?_)
    generalize mv_up G 100 0 0 0 = G0 at hm0 f0
    rw [hm0.2.1.1]
    refine mv_J.i (fun e => mv_J.r0 (Or.inl rfl) ⟨(mv_b0 (fun h => h e)).symm, by rw [if_pos e]; exact hm0, f0⟩) (fun e => ?_)
    obtain ⟨c, hcc⟩ : ∃ c : Nat, a 0 5 = ((c + 1 : Nat) : Int) := ⟨(a 0 5).toNat - 1, by omega⟩
    have htc : (a 0 5).toNat - 1 = c := by omega
    obtain ⟨l1, l2, l3, l4, l5⟩ := st_ud_l (a := a)
    rw [htc] at l1 l2 l4 l5
    obtain ⟨r1, r2, r3, r4⟩ := hm0.2.1.2 c (by omega)
    have hle := (hu c (by omega)).2.1
    rw [mv_ws (x := a 0 5 - 1) (by omega)]
    have lp : ∀ (k i : Nat) (G1 : mv_G), i + k = 72 → mv_ch [101] [(100, 3)] G0 G1 → G1 100 0 3 = (c : Int) → (∀ j, j < i → G1 101 0 j = G0 102 0 (72 * c + j)) → mv_JP mm_X12_undo (fun v G' => v = mv_b (a 0 5 ≠ 0) ∧ st_mW G' (if a 0 5 = 0 then a else st_ud a) ∧ mv_fM G G') 26 [some (.inr (100, 0)), some (.inl (i : Int))] G1 := by
      intro k
      induction k with
      | zero =>
        intro i G1 hk c1 h3c hnew
        refine mv_JP.of (rg_X12_undo_26 _ G1) (mv_J.f (by omega) (mv_J.r0 (Or.inr rfl) ⟨(mv_b1 e).symm, ?_, f0.tr (c1.fM rfl)⟩))
        rw [if_neg e]
        have ek : ∀ k2, k2 ≠ 101 → k2 ≠ 100 → G1 k2 = G0 k2 := fun k2 q1 q2 => c1.cell k2 (by simp; omega)
        have es : ∀ j, j ≠ 3 → G1 100 0 j = G0 100 0 j := fun j hj => c1 100 0 j rfl (by simp; omega)
        obtain ⟨⟨b1, b2, b3, b4, b5, b6, b7, b8, b9⟩, w1, w2, bk, dy⟩ := hm0.1
        unfold mv_mL at w1 w2
        refine hm0.bn (G2 := G1) ⟨⟨⟨?_, ?_, ?_, True.intro⟩, ?_, fun i2 hi2 => ?_, fun p hp => ?_, ?_, ?_, ?_, ?_, ?_⟩, ?_, ?_, ⟨?_, fun i2 hi2 => ?_⟩, ?_, fun i2 hi2 => ?_⟩ ⟨?_, fun r hr => ?_⟩ (fun k2 hk2 => ek k2 (by omega) (by omega)) (fun j hj => es j (by omega)) st_ud_T.1 st_ud_T.2
        · rw [es 6 (by decide), st_ud_0 (by decide) (by decide) (by decide)]; exact b1.1
        · rw [es 8 (by decide), st_ud_0 (by decide) (by decide) (by decide)]; exact b1.2.1
        · rw [hnew 0 (by omega), l1]; exact r1
        · rw [ek 104 (by decide) (by decide), st_ud_o (by decide) (by decide) (by decide)]; exact b2
        · rw [hnew (12 + i2) (by omega), l4]
          dsimp only
          rw [if_pos hi2]; exact r4 i2 hi2
        · rw [hnew (2 + p) (by omega), l5]
          dsimp only
          rw [if_pos hp]; exact r3 p hp
        · rw [ek 105 (by decide) (by decide), st_ud_o (by decide) (by decide) (by decide)]; exact b5
        · rw [ek 106 (by decide) (by decide), st_ud_o (by decide) (by decide) (by decide)]; exact b6
        · rw [ek 107 (by decide) (by decide), st_ud_o (by decide) (by decide) (by decide)]; exact b7
        · rw [ek 108 (by decide) (by decide), st_ud_o (by decide) (by decide) (by decide)]; exact b8
        · rw [ek 109 (by decide) (by decide), st_ud_o (by decide) (by decide) (by decide)]; exact b9
        · unfold mv_mL
          rw [ek 113 (by decide) (by decide), ek 114 (by decide) (by decide), ek 115 (by decide) (by decide), ek 116 (by decide) (by decide), ek 117 (by decide) (by decide), ek 118 (by decide) (by decide), st_ud_o (o := 17) (by decide) (by decide) (by decide), st_ud_o (o := 17 + 1) (by decide) (by decide) (by decide), st_ud_o (o := 17 + 2) (by decide) (by decide) (by decide), st_ud_o (o := 17 + 3) (by decide) (by decide) (by decide), st_ud_o (o := 17 + 4) (by decide) (by decide) (by decide)]
          exact w1
        · unfold mv_mL
          rw [ek 113 (by decide) (by decide), ek 114 (by decide) (by decide), ek 115 (by decide) (by decide), ek 116 (by decide) (by decide), ek 117 (by decide) (by decide), ek 118 (by decide) (by decide), st_ud_o (o := 22) (by decide) (by decide) (by decide), st_ud_o (o := 22 + 1) (by decide) (by decide) (by decide), st_ud_o (o := 22 + 2) (by decide) (by decide) (by decide), st_ud_o (o := 22 + 3) (by decide) (by decide) (by decide), st_ud_o (o := 22 + 4) (by decide) (by decide) (by decide)]
          exact w2
        · rw [hnew 1 (by omega), l2]; exact r2
        · rw [l2] at hi2
          rw [ek 110 (by decide) (by decide), st_ud_o (o := 9) (by decide) (by decide) (by decide), st_ud_o (o := 10) (by decide) (by decide) (by decide), st_ud_o (o := 11) (by decide) (by decide) (by decide), st_ud_o (o := 12) (by decide) (by decide) (by decide)]
          exact bk.2 i2 (by omega)
        · rw [es 37 (by decide), st_ud_0 (by decide) (by decide) (by decide)]; exact dy.1
        · rw [st_ud_0 (by decide) (by decide) (by decide)] at hi2
          rw [ek 120 (by decide) (by decide), st_ud_o (o := 13) (by decide) (by decide) (by decide), st_ud_o (o := 14) (by decide) (by decide) (by decide), st_ud_o (o := 15) (by decide) (by decide) (by decide)]
          exact dy.2 i2 hi2
        · rw [h3c, l3]; omega
        · rw [l3] at hr
          rw [ek 102 (by decide) (by decide), st_ud_o (o := 30 + r) (by omega) (by omega) (by omega), st_ud_o (o := 40 + r) (by omega) (by omega) (by omega), st_ud_o (o := 50 + r) (by omega) (by omega) (by omega)]
          exact hm0.2.1.2 r (by omega)
      | succ k ih =>
        intro i G1 hk c1 h3c hnew
        refine mv_JP.of (rg_X12_undo_26 _ G1) ?_
        rw [h3c, c1.cell 102 rfl, mv_ws (x := 72 * (c : Int)) (by omega), mv_ws (x := 72 * (c : Int) + i) (by omega), mv_ws (x := (i : Int) + 1) (by omega), Int.toNat_natCast, show Int.toNat (72 * (c : Int) + i) = 72 * c + i by omega]
        refine mv_J.t (by omega) ?_
        rw [mv_ckp (n := 432) (by omega)]
        refine mv_J.ck (by omega) (mv_J.cut (ih (i + 1) _ (by omega) (c1.uc rfl) (by rw [mv_up_k (by decide)]; exact h3c) (fun j hj => ?_)))
        rw [mv_up_at]
        by_cases e : j = i
        · rw [if_pos e, e]
        · rw [if_neg e]; exact hnew j (by omega)
    exact mv_J.cut (lp 72 0 _ rfl (mv_ch.rf.up rfl) (by rw [mv_ups_eq]; omega) (fun j hj => absurd hj (Nat.not_lt_zero j)))
  · by_cases e : a 0 5 = 0
    · rw [if_pos e]; exact hi
    · rw [if_neg e]
      obtain ⟨⟨h2, h3⟩, hu⟩ := hi.2.1
      obtain ⟨c, hcc⟩ : ∃ c : Nat, a 0 5 = ((c + 1 : Nat) : Int) := ⟨(a 0 5).toNat - 1, by omega⟩
      have htc : (a 0 5).toNat - 1 = c := by omega
      obtain ⟨l1, l2, l3, l4, l5⟩ := st_ud_l (a := a)
      rw [htc] at l1 l2 l4 l5
      obtain ⟨g1, g2, g3⟩ := hu c (by omega)
      refine hi.bn (hi.1.rs (g1.pt ⟨?_, ?_, l1, l2⟩ (fun o ho => ?_) (fun i _ => ?_) (fun i _ => ?_)) (st_ud_0 (by decide) (by decide) (by decide)) (by rw [st_ud_0 (by decide) (by decide) (by decide)]; exact Int.le_refl _) (fun o q1 q2 q3 => st_ud_o (by omega) (by omega) (by omega))) ⟨by rw [l3]; omega, fun r hr => ?_⟩ st_ud_T.1 st_ud_T.2
      · exact st_ud_0 (by decide) (by decide) (by decide)
      · exact st_ud_0 (by decide) (by decide) (by decide)
      · rw [st_ud_o (by omega) (by omega) (by omega), mv_un_o (by omega) (by omega) (by omega)]
      · rw [l4]; rfl
      · rw [l5]; rfl
      · rw [l3] at hr
        obtain ⟨k1, k2, k3⟩ := hu r (by omega)
        have e30 : ∀ x, st_ud a (30 + x) = a (30 + x) := fun x => st_ud_o (by omega) (by omega) (by omega)
        refine ⟨k1.pt ⟨?_, ?_, ?_, ?_⟩ (fun o ho => ?_) (fun i hi2 => ?_) (fun i hi2 => ?_), ?_, fun r2 q1 q2 => ?_⟩
        · show st_ud a 0 0 = a 0 0; exact st_ud_0 (by decide) (by decide) (by decide)
        · show st_ud a 0 1 = a 0 1; exact st_ud_0 (by decide) (by decide) (by decide)
        · show st_ud a (30 + r) 0 = a (30 + r) 0; rw [e30]
        · show st_ud a (30 + r) 1 = a (30 + r) 1; rw [e30]
        · rw [mv_un_o (by omega) (by omega) (by omega), mv_un_o (by omega) (by omega) (by omega), st_ud_o (by omega) (by omega) (by omega)]
        · rw [mv_un_2, mv_un_2]
          dsimp only
          rw [if_pos hi2, if_pos hi2, st_ud_o (by omega) (by omega) (by omega)]
        · rw [mv_un_3, mv_un_3]
          dsimp only
          rw [if_pos hi2, if_pos hi2, st_ud_o (by omega) (by omega) (by omega)]
        · rw [e30, l2]
          exact k3 c (by omega) (by omega)
        · rw [l3] at q2
          rw [e30, e30]
          exact k3 r2 q1 (by omega)
end MQ2
