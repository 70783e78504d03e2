/-! rest, person, set. -/
/-- a place of an attribute told anew, and what can be undone forgotten -/
def st_p1 (a : mv_a) (o p : Nat) (v : Int) : mv_a := st_s1 (st_set a o (mv_sp (a o) p v)) 5 0
section TD
variable {G G2 : mv_G} {a b : mv_a}
theorem st_p1_0 {o p j : Nat} {v : Int} (ho : o ≠ 0) (hj : j ≠ 5) : st_p1 a o p v 0 j = a 0 j := by
  unfold st_p1
  rw [st_s1_j hj, st_set_o (fun e => ho e.symm)]
theorem st_p1_o {o p q : Nat} {v : Int} (h0 : q ≠ 0) (h : q ≠ o) : st_p1 a o p v q = a q := by
  unfold st_p1
  rw [st_s1_o h0, st_set_o h]
theorem st_p1_e {o p : Nat} {v : Int} (ho : o ≠ 0) : st_p1 a o p v o = mv_sp (a o) p v := by
  unfold st_p1
  rw [st_s1_o ho, st_set_e]
theorem st_p1_5 {o p : Nat} {v : Int} : st_p1 a o p v 0 5 = 0 := st_s1_0
theorem st_p1_T {o p : Nat} {v : Int} (h0 : o ≠ 0) (h : o ≤ 8) : ag_T a (st_p1 a o p v) ∧ ag_I a (st_p1 a o p v) := ⟨⟨st_p1_0 h0 (by decide), st_p1_0 h0 (by decide), st_p1_0 h0 (by decide), st_p1_o (by decide) (by omega)⟩, st_p1_0 h0 (by decide), fun q hq => st_p1_o (by omega) (by omega)⟩
/-- the rest of the bench stays -/
theorem mv_cX.rs (h : mv_cX G a) (hB : mv_cB G2 b) (hk : ∀ k, 7 ≤ k → k ≤ 23 → G2 k = G k) (h3 : G2 1 0 3 = G 1 0 3) (e0 : b 0 3 = a 0 3 ∧ b 0 4 = a 0 4) (e : ∀ o, 9 ≤ o → o ≤ 26 → o ≠ 16 → b o = a o) : mv_cX G2 b := by
  obtain ⟨g1, g2, g3, g4, g5⟩ := h
  unfold mv_cL at g2 g3
  unfold mv_bkC at g4
  unfold mv_dyC at g5
  refine ⟨hB, ?_, ?_, ?_, ?_⟩
  · unfold mv_cL
    rw [hk 8 (by decide) (by decide), hk (8 + 1) (by decide) (by decide), hk (8 + 2) (by decide) (by decide), hk (8 + 3) (by decide) (by decide), hk (8 + 4) (by decide) (by decide), e 17 (by decide) (by decide) (by decide), e (17 + 1) (by decide) (by decide) (by decide), e (17 + 2) (by decide) (by decide) (by decide), e (17 + 3) (by decide) (by decide) (by decide), e (17 + 4) (by decide) (by decide) (by decide)]
    exact g2
  · unfold mv_cL
    rw [hk 14 (by decide) (by decide), hk (14 + 1) (by decide) (by decide), hk (14 + 2) (by decide) (by decide), hk (14 + 3) (by decide) (by decide), hk (14 + 4) (by decide) (by decide), e 22 (by decide) (by decide) (by decide), e (22 + 1) (by decide) (by decide) (by decide), e (22 + 2) (by decide) (by decide) (by decide), e (22 + 3) (by decide) (by decide) (by decide), e (22 + 4) (by decide) (by decide) (by decide)]
    exact g3
  · unfold mv_bkC
    rw [h3, hk 7 (by decide) (by decide), e0.1, e 9 (by decide) (by decide) (by decide), e 10 (by decide) (by decide) (by decide), e 11 (by decide) (by decide) (by decide), e 12 (by decide) (by decide) (by decide)]
    exact g4
  · unfold mv_dyC
    rw [hk 20 (by decide) (by decide), hk 21 (by decide) (by decide), hk 22 (by decide) (by decide), hk 23 (by decide) (by decide), e0.2, e 13 (by decide) (by decide) (by decide), e 14 (by decide) (by decide) (by decide), e 15 (by decide) (by decide) (by decide)]
    exact g5
theorem mv_mX.rs (h : mv_mX G a) (hB : mv_mB G2 b) (hk : ∀ k, 110 ≤ k → k ≤ 120 → k ≠ 119 → G2 k = G k) (h3 : G2 101 0 1 = G 101 0 1) (h37 : G2 100 0 37 = G 100 0 37) (e0 : b 0 3 = a 0 3 ∧ b 0 4 = a 0 4) (e : ∀ o, 9 ≤ o → o ≤ 26 → o ≠ 16 → b o = a o) : mv_mX G2 b := by
  obtain ⟨g1, g2, g3, g4, g5⟩ := h
  unfold mv_mL at g2 g3
  unfold mv_bkM at g4
  unfold mv_dyM at g5
  refine ⟨hB, ?_, ?_, ?_, ?_⟩
  · unfold mv_mL
    rw [hk 113 (by decide) (by decide) (by decide), hk 114 (by decide) (by decide) (by decide), hk 115 (by decide) (by decide) (by decide), hk 116 (by decide) (by decide) (by decide), hk 117 (by decide) (by decide) (by decide), hk 118 (by decide) (by decide) (by decide), e 17 (by decide) (by decide) (by decide), e (17 + 1) (by decide) (by decide) (by decide), e (17 + 2) (by decide) (by decide) (by decide), e (17 + 3) (by decide) (by decide) (by decide), e (17 + 4) (by decide) (by decide) (by decide)]
    exact g2
  · unfold mv_mL
    rw [hk 113 (by decide) (by decide) (by decide), hk 114 (by decide) (by decide) (by decide), hk 115 (by decide) (by decide) (by decide), hk 116 (by decide) (by decide) (by decide), hk 117 (by decide) (by decide) (by decide), hk 118 (by decide) (by decide) (by decide), e 22 (by decide) (by decide) (by decide), e (22 + 1) (by decide) (by decide) (by decide), e (22 + 2) (by decide) (by decide) (by decide), e (22 + 3) (by decide) (by decide) (by decide), e (22 + 4) (by decide) (by decide) (by decide)]
    exact g3
  · unfold mv_bkM
    rw [h3, hk 110 (by decide) (by decide) (by decide), e0.1, e 9 (by decide) (by decide) (by decide), e 10 (by decide) (by decide) (by decide), e 11 (by decide) (by decide) (by decide), e 12 (by decide) (by decide) (by decide)]
    exact g4
  · unfold mv_dyM
    rw [h37, hk 120 (by decide) (by decide) (by decide), e0.2, e 13 (by decide) (by decide) (by decide), e 14 (by decide) (by decide) (by decide), e 15 (by decide) (by decide) (by decide)]
    exact g5
theorem mv_iX.rs (h : mv_iX a) (hB : mv_iB b) (e0 : b 0 4 = a 0 4) (e1 : a 0 1 ≤ b 0 1) (e : ∀ o, 13 ≤ o → o ≤ 26 → o ≠ 16 → b o = a o) : mv_iX b := by
  obtain ⟨g1, g2, g3, ⟨g4, g5⟩⟩ := h
  unfold mv_iL at g2 g3
  refine ⟨hB, ?_, ?_, ?_, ?_⟩
  · unfold mv_iL
    rw [e 17 (by decide) (by decide) (by decide), e (17 + 1) (by decide) (by decide) (by decide), e (17 + 2) (by decide) (by decide) (by decide), e (17 + 3) (by decide) (by decide) (by decide), e (17 + 4) (by decide) (by decide) (by decide)]
    exact g2
  · unfold mv_iL
    rw [e 22 (by decide) (by decide) (by decide), e (22 + 1) (by decide) (by decide) (by decide), e (22 + 2) (by decide) (by decide) (by decide), e (22 + 3) (by decide) (by decide) (by decide), e (22 + 4) (by decide) (by decide) (by decide)]
    exact g3
  · rw [e0]; exact g4
  · rw [e0, e 13 (by decide) (by decide) (by decide), e 14 (by decide) (by decide) (by decide), e 15 (by decide) (by decide) (by decide)]
    intro i hi
    obtain ⟨q1, q2, q3⟩ := g5 i hi
    exact ⟨q1, ⟨q2.1, by omega⟩, q3⟩
/-- one sits over the inch -/
def st_ov (a : mv_a) (x : Int) : Prop := ∃ p : Nat, (p : Int) < a 0 1 ∧ a 3 p ≠ -1 ∧ a 3 p < x ∧ x < a 3 p + a 4 p
def st_rq (a : mv_a) (x t : Int) : Prop := (1 ≤ x ∧ x < a 0 0) ∧ (t = 0 ∨ ¬ st_ov a x)
noncomputable def st_re (a : mv_a) (x t : Int) : mv_a := @ite _ (st_rq a x t) (Classical.propDecidable _) (st_p1 a 1 x.toNat t) a
theorem bx_rest (x t : Int) (ht : t = 0 ∨ t = 1) : st_bx (ff_X11_rest [.inr (0, 0), .inl x, .inl t]) (ff_X12_rest [.inr (100, 0), .inl x, .inl t]) := by
  have y : ∀ {a : mv_a}, st_rq a x t → st_re a x t = st_p1 a 1 x.toNat t := fun h => if_pos h
  have nn : ∀ {a : mv_a}, ¬ st_rq a x t → st_re a x t = a := fun h => if_neg h
  refine st_bx_of (fun a => mv_b (st_rq a x t)) (fun a => st_re a x t) (fun G a hc hi => ?_) (fun G a hm hi => ?_) (fun a hi => ?_)
  · have b1 := hi.1.1.1
    refine mv_Kp.of (mv_JP.of (rg_X11_rest_0 x t G) ?_)
    have no : ¬ st_rq a x t → mv_J mm_X11_rest (fun v G' => v = mv_b (st_rq a x t) ∧ st_cW G' (st_re a x t) ∧ mv_fC G G') (mv_rzc 0 1 0 (some (.inl (0, G)))) := fun h => mv_J.r0 (Or.inl rfl) ⟨(mv_b0 h).symm, by rw [nn h]; exact hc, mv_fC.rf⟩
    have yes : st_rq a x t → mv_J mm_X11_rest (fun v G' => v = mv_b (st_rq a x t) ∧ st_cW G' (st_re a x t) ∧ mv_fC G G') (mv_cn (ff_X2_putRest [.inr (1, 0), .inl x, .inl t] G) fun r0 G0 => mv_cn (ff_X6_forget [.inr (47, 0)] G0) fun r1 G1 => mv_rzc 0 1 1 (some (.inl (1, G1)))) := fun h => by
      have hx := h.1
      have put : mv_Kp (ff_X2_putRest [.inr (1, 0), .inl x, .inl t] G) (fun _ G' => mv_ch [2, 3] [] G G' ∧ G' 2 0 = mv_sp (a 1) x.toNat t ∧ ∀ i : Nat, (i : Int) < a 0 0 → mv_Rch (mv_sp (a 1) x.toNat t) (a 0 0) i (G' 3 0 i)) := by
        refine mv_Kp.of (mv_JP.of (rg_X2_putRest_0 x t G) ?_)
        have go : mv_J mm_X2_putRest (fun _ G' => mv_ch [2, 3] [] G G' ∧ G' 2 0 = mv_sp (a 1) x.toNat t ∧ ∀ i : Nat, (i : Int) < a 0 0 → mv_Rch (mv_sp (a 1) x.toNat t) (a 0 0) i (G' 3 0 i)) (mv_cn (ff_X2_findReach [.inr (1, 0)] (mv_up G 2 0 x.toNat t)) fun r0 G0 => some (.inl (0, G0))) := by
          have e1 : (mv_up G 2 0 x.toNat t) 1 0 0 = a 0 0 := by rw [mv_up_k (by decide)]; exact hc.1.1.1.1
          have e2 : (mv_up G 2 0 x.toNat t) 2 0 = mv_sp (a 1) x.toNat t := funext fun i => by
            rw [mv_up_at, hc.1.1.2.1]
            rfl
          refine mv_J.cn (fx_X2_findReach _ (by rw [e1]; omega) (by rw [e1]; omega)) (fun r G1 h2 => mv_J.ret ⟨(mv_ch.rf.uc rfl).tr (h2.2.1.mono rfl rfl), ?_, ?_⟩)
          · rw [h2.2.1.cell 2 rfl]; exact e2
          · have := h2.2.2.1
            rw [e1, e2] at this
            exact this
        rw [hc.1.1.1.1]
        refine mv_J.f (by omega) (mv_J.t (by omega) ?_)
        rcases ht with rfl | rfl
        · exact mv_J.t rfl (mv_J.ck (by omega) go)
        · exact mv_J.f (by decide) (mv_J.ck (by omega) go)
      refine mv_J.cn put (fun _ G1 h3 => mv_J.ce fx_forget (mv_J.r0 (Or.inr rfl) ⟨(mv_b1 h).symm, ?_, (h3.1.fC rfl).tr (mv_up_fC (by decide))⟩))
      rw [y h]
      obtain ⟨c1, f2, f3⟩ := h3
      obtain ⟨⟨b1, b2, b3, b4, b5, b6, b7, b8, b9⟩, -⟩ := hc.1
      have c2 : mv_ch [2, 3] [(47, 0)] G (mv_up G1 47 0 0 0) := (c1.mono rfl rfl).up rfl
      have ek : ∀ k, k ≠ 2 → k ≠ 3 → k ≠ 47 → (mv_up G1 47 0 0 0) k = G k := fun k h1 h2 h3 => c2.cell k (by simp; omega)
      refine hc.bn (hc.1.rs ⟨?_, ?_, ?_, ?_, ?_, ?_, ?_, ?_, ?_, ?_⟩ (fun k h1 h2 => ek k (by omega) (by omega) (by omega)) (by rw [ek 1 (by decide) (by decide) (by decide)]) ⟨st_p1_0 (by decide) (by decide), st_p1_0 (by decide) (by decide)⟩ (fun o h1 h2 h3 => st_p1_o (by omega) (by omega))) (hc.2.1.z ?_ mv_ups_eq st_p1_5) (fun k hk => ek k (by omega) (by omega) (by omega)) (by rw [ek 0 (by decide) (by decide) (by decide)]) (fun j hj => by rw [ek 52 (by decide) (by decide) (by decide)]) (st_p1_T (by decide) (by decide)).1 (st_p1_T (by decide) (by decide)).2
      · rw [ek 1 (by decide) (by decide) (by decide), st_p1_0 (by decide) (by decide), st_p1_0 (by decide) (by decide), st_p1_0 (by decide) (by decide)]; exact b1
      · rw [mv_up_k (by decide), st_p1_e (by decide)]; exact f2
      · rw [ek 4 (by decide) (by decide) (by decide), st_p1_o (by decide) (by decide)]; exact b3
      · rw [ek 6 (by decide) (by decide) (by decide), st_p1_o (by decide) (by decide)]; exact b4
      · rw [ek 5 (by decide) (by decide) (by decide), st_p1_o (by decide) (by decide)]; exact b5
      · rw [ek 5 (by decide) (by decide) (by decide), st_p1_o (by decide) (by decide)]; exact b6
      · rw [ek 5 (by decide) (by decide) (by decide), st_p1_o (by decide) (by decide)]; exact b7
      · rw [ek 5 (by decide) (by decide) (by decide), st_p1_o (by decide) (by decide)]; exact b8
      · rw [ek 5 (by decide) (by decide) (by decide), st_p1_o (by decide) (by decide)]; exact b9.1
      · intro i hi
        rw [st_p1_0 (by decide) (by decide)] at hi ⊢
        rw [mv_up_k (by decide), st_p1_e (by decide)]
        exact f3 i hi
      · rw [mv_up_j (by decide), c1.cell 47 rfl]
    rw [hc.1.1.1.1]
    refine mv_J.i (fun h => no (fun h2 => by have := h2.1.1; omega)) (fun h => mv_J.i (fun h2 => ?_) (fun h2 => no (fun h3 => by have := h3.1.2; omega)))
    refine mv_J.i (fun h3 => yes ⟨by omega, Or.inl h3⟩) (fun h3 => mv_J.ce (fx_isSatOver hc.1.1 hi.1.1 x) (mv_J.bt (fun h4 => yes ⟨by omega, Or.inr h4⟩) (fun h4 => no (fun h5 => h5.2.elim h3 (fun h6 => h6 h4)))))
  · have b1 := hi.1.1.1
    have c0 : mv_ch [] [(100, 0)] G (mv_up G 100 0 0 0) := mv_ch.rf.up rfl
    have hm0 := hm.ch hi.1 c0 (by decide) (by decide)
    have f0 : mv_fM G (mv_up G 100 0 0 0) := c0.fM rfl
    refine mv_Kp.of (mv_JP.of (rg_X12_rest_0 x t G) ?_)
    generalize mv_up G 100 0 0 0 = G0 at hm0 f0
    have no : ¬ st_rq a x t → mv_J mm_X12_rest (fun v G' => v = mv_b (st_rq a x t) ∧ st_mW G' (st_re a x t) ∧ mv_fM G G') (mv_rzc 0 1 0 (some (.inl (0, G0)))) := fun h => mv_J.r0 (Or.inl rfl) ⟨(mv_b0 h).symm, by rw [nn h]; exact hm0, f0⟩
    refine mv_J.ce (gx_length hm0.1.1 hi.1.1) ?_
    rw [mv_ws (x := a 0 0 - 1) (by omega)]
    refine mv_J.ce (gx_isIn _ _ _ _) (mv_J.bt (fun h => no (fun h2 => by have := h2.1; omega)) (fun h => mv_J.cut ?_))
    have yes : st_rq a x t → mv_J mm_X12_rest (fun v G' => v = mv_b (st_rq a x t) ∧ st_mW G' (st_re a x t) ∧ mv_fM G G') (mv_ck x 61 (mv_ck t 2 (mv_rzc 0 1 1 (some (.inl (1, mv_up (mv_up G0 104 0 x.toNat t) 100 0 3 0)))))) := fun hq => by
      refine mv_J.ck (by omega) (mv_J.ck (by omega) (mv_J.r0 (Or.inr rfl) ⟨(mv_b1 hq).symm, ?_, f0.tr ((mv_up_fM (by decide)).tr (mv_up_fM (by decide)))⟩))
      rw [y hq]
      obtain ⟨⟨b1, b2, b3, b4, b5, b6, b7, b8, b9⟩, -⟩ := hm0.1
      have c2 : mv_ch [104] [(100, 3)] G0 (mv_up (mv_up G0 104 0 x.toNat t) 100 0 3 0) := (mv_ch.rf.uc rfl).up rfl
      have ek : ∀ k, k ≠ 104 → k ≠ 100 → (mv_up (mv_up G0 104 0 x.toNat t) 100 0 3 0) k = G0 k := fun k h1 h2 => c2.cell k (by simp; omega)
      have e104 : ∀ i, (mv_up (mv_up G0 104 0 x.toNat t) 100 0 3 0) 104 0 i = if i = x.toNat then t else G0 104 0 i := fun i => by rw [mv_up_k (by decide), mv_up_at]
      have e3 : (mv_up (mv_up G0 104 0 x.toNat t) 100 0 3 0) 100 0 3 = 0 := mv_ups_eq
      generalize mv_up (mv_up G0 104 0 x.toNat t) 100 0 3 0 = G1 at c2 ek e104 e3
      refine hm0.bn (hm0.1.rs ⟨?_, fun i hi => ?_, ?_, ?_, ?_, ?_, ?_, ?_, ?_⟩ (fun k h1 h2 h3 => ek k (by omega) (by omega)) (by rw [ek 101 (by decide) (by decide)]) (c2.slot 100 37 rfl) ⟨st_p1_0 (by decide) (by decide), st_p1_0 (by decide) (by decide)⟩ (fun o h1 h2 h3 => st_p1_o (by omega) (by omega))) (mv_unM.z e3 st_p1_5) (fun k hk => ek k (by omega) (by omega)) (fun j hj => c2.slot 100 j (by rcases hj with rfl | rfl | rfl | rfl | rfl <;> rfl)) (st_p1_T (by decide) (by decide)).1 (st_p1_T (by decide) (by decide)).2
      · rw [c2.slot 100 6 rfl, c2.slot 100 8 rfl, ek 101 (by decide) (by decide), st_p1_0 (by decide) (by decide), st_p1_0 (by decide) (by decide), st_p1_0 (by decide) (by decide)]; exact b1
      · rw [e104, st_p1_e (by decide)]
        show _ = if i = x.toNat then t else a 1 i
        by_cases e : i = x.toNat
        · rw [if_pos e, if_pos e]
        · rw [if_neg e, if_neg e]; exact b2 i hi
      · rw [ek 101 (by decide) (by decide), st_p1_o (by decide) (by decide)]; exact b3
      · rw [ek 101 (by decide) (by decide), st_p1_o (by decide) (by decide)]; exact b4
      · rw [ek 105 (by decide) (by decide), st_p1_o (by decide) (by decide)]; exact b5
      · rw [ek 106 (by decide) (by decide), st_p1_o (by decide) (by decide)]; exact b6
      · rw [ek 107 (by decide) (by decide), st_p1_o (by decide) (by decide)]; exact b7
      · rw [ek 108 (by decide) (by decide), st_p1_o (by decide) (by decide)]; exact b8
      · rw [ek 109 (by decide) (by decide), st_p1_o (by decide) (by decide)]; exact b9
    obtain ⟨P, hP⟩ : ∃ P : Nat, a 0 1 = P := ⟨(a 0 1).toNat, by omega⟩
    have lp : ∀ k p : Nat, p + k = P → (∀ q : Nat, q < p → t = 0 ∨ ¬ (a 3 q ≠ -1 ∧ a 3 q < x ∧ x < a 3 q + a 4 q)) → mv_JP mm_X12_rest (fun v G' => v = mv_b (st_rq a x t) ∧ st_mW G' (st_re a x t) ∧ mv_fM G G') 24 [some (.inr (100, 0)), some (.inl x), some (.inl t), some (.inl (p : Int))] G0 := by
      intro k
      induction k with
      | zero =>
        intro p hk hno
        refine mv_JP.of (rg_X12_rest_24 _ _ _ G0) ?_
        rw [hm0.1.1.1.2.1]
        refine mv_J.f (by omega) (yes ⟨by omega, ?_⟩)
        by_cases c : t = 0
        · exact Or.inl c
        · exact Or.inr (fun ⟨q, q1, q2⟩ => (hno q (by omega)).elim c (fun h => h q2))
      | succ k ih =>
        intro p hk hno
        have told := hi.1.1.2.2.2.2.1 p (by omega)
        have seat := hi.1.1.2.2.2.1 p (by omega)
        have nx : (t = 0 ∨ ¬ (a 3 p ≠ -1 ∧ a 3 p < x ∧ x < a 3 p + a 4 p)) → mv_JP mm_X12_rest (fun v G' => v = mv_b (st_rq a x t) ∧ st_mW G' (st_re a x t) ∧ mv_fM G G') 24 [some (.inr (100, 0)), some (.inl x), some (.inl t), some (.inl ((p : Int) + 1))] G0 := fun h => by
          have := ih (p + 1) (by omega) (fun q hq => by
            by_cases e : q = p
            · exact e ▸ h
            · exact hno q (by omega))
          exact this
        refine mv_JP.of (rg_X12_rest_24 _ _ _ G0) ?_
        rw [hm0.1.1.1.2.1, mv_ws (x := (p : Int) + 1) (by omega)]
        refine mv_J.t (by omega) (mv_J.i (fun h2 => yes ⟨by omega, Or.inl h2⟩) (fun h2 => mv_J.ce (gx_sits hm0.1.1 hi.1.1 p (by omega)) (mv_J.bt (fun h3 => mv_J.cut (nx (Or.inr (fun h4 => h3 h4.1)))) (fun h3 => mv_J.ce (gx_inchOf hm0.1.1 hi.1.1 p (by omega)) (mv_J.i (fun h4 => mv_J.ce (gx_inchOf hm0.1.1 hi.1.1 p (by omega)) (mv_J.ck (by omega) ?_)) (fun h4 => mv_J.cut (nx (Or.inr (fun h5 => h4 h5.2.1)))))))))
        rw [Int.toNat_natCast, hm0.1.1.2.2.2.2.1 p (by omega), mv_ws (by omega)]
        exact mv_J.i (fun h5 => no (fun h6 => h6.2.elim h2 (fun h7 => h7 ⟨p, by omega, h3, h4, h5⟩))) (fun h5 => mv_J.cut (nx (Or.inr (fun h6 => h5 h6.2.2))))
    exact lp P 0 (by omega) (fun q hq => absurd hq (Nat.not_lt_zero q))
  · by_cases c : st_rq a x t
    · rw [y c]
      obtain ⟨⟨c1, c2⟩, c3⟩ := c
      obtain ⟨i1, i2, i3, i4, i5, i6, i7⟩ := hi.1.1
      refine hi.bn (hi.1.rs ⟨?_, fun i hi2 => ?_, ?_, ?_, ?_, fun p hp hs => ?_, ?_⟩ (st_p1_0 (by decide) (by decide)) (by rw [st_p1_0 (by decide) (by decide)]; exact Int.le_refl _) (fun o h1 h2 h3 => st_p1_o (by omega) (by omega))) (mv_iU.z st_p1_5) (st_p1_T (by decide) (by decide)).1 (st_p1_T (by decide) (by decide)).2
      · rw [st_p1_0 (by decide) (by decide), st_p1_0 (by decide) (by decide), st_p1_0 (by decide) (by decide), st_p1_0 (by decide) (by decide)]; exact i1
      · rw [st_p1_e (by decide)]
        show (if i = x.toNat then t else a 1 i) = 0 ∨ (if i = x.toNat then t else a 1 i) = 1
        by_cases e : i = x.toNat
        · rw [if_pos e]; exact ht
        · rw [if_neg e]; exact i2 i hi2
      · rw [st_p1_o (by decide) (by decide)]; exact i3
      · rw [st_p1_o (by decide) (by decide)]; exact i4
      · rw [st_p1_0 (by decide) (by decide), st_p1_o (by decide) (by decide), st_p1_o (by decide) (by decide), st_p1_o (by decide) (by decide), st_p1_o (by decide) (by decide), st_p1_o (by decide) (by decide)]; exact i5
      · rw [st_p1_0 (by decide) (by decide)] at hp
        rw [st_p1_o (by decide) (by decide)] at hs
        obtain ⟨j1, j2⟩ := i6 p hp hs
        rw [st_p1_0 (by decide) (by decide), st_p1_o (by decide) (by decide), st_p1_o (by decide) (by decide), st_p1_o (by decide) (by decide), st_p1_e (by decide)]
        refine ⟨j1, fun r h1 h2 => ?_⟩
        show (if r = x.toNat then t else a 1 r) = 0
        by_cases e : r = x.toNat
        · rw [if_pos e]
          rcases c3 with c3 | c3
          · exact c3
          · exact absurd ⟨p, hp, hs, by omega, by omega⟩ c3
        · rw [if_neg e]; exact j2 r h1 h2
      · rw [st_p1_0 (by decide) (by decide), st_p1_o (by decide) (by decide), st_p1_o (by decide) (by decide), st_p1_o (by decide) (by decide)]; exact i7
    · rw [nn c]; exact hi
end TD
