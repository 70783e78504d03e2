/-! set. -/
section SE
variable {G G2 : mv_G} {a b : mv_a}
def st_sq (a : mv_a) (w p v : Int) : Prop := mv_alw w v ∧ (0 ≤ p ∧ p < a 0 1) ∧ (w = 4 ∨ a 3 p.toNat = -1)
theorem mv_cB.p1 {w p : Nat} {v : Int} (h : mv_cB G a) (hw : w ≤ 4) (h5 : ∀ i j, G2 5 i j = if i = w + 1 ∧ j = p then v else G 5 i j) (hk : ∀ k, k = 1 ∨ k = 2 ∨ k = 3 ∨ k = 4 ∨ k = 6 → G2 k = G k) : mv_cB G2 (st_p1 a (4 + w) p v) := by
  obtain ⟨b1, b2, b3, b4, b5, b6, b7, b8, b9, b10⟩ := h
  have at1 : ∀ q, q ≤ 4 → G 5 (q + 1) = a (4 + q) → G2 5 (q + 1) = st_p1 a (4 + w) p v (4 + q) := fun q hq h => by
    by_cases e : q = w
    · subst e
      rw [st_p1_e (by omega)]
      refine funext fun j => ?_
      show _ = if j = p then v else a (4 + q) j
      rw [h5]
      by_cases e2 : j = p
      · rw [if_pos ⟨rfl, e2⟩, if_pos e2]
      · rw [if_neg (fun h => e2 h.2), if_neg e2, h]
    · rw [st_p1_o (by omega) (by omega), ← h]
      refine funext fun j => ?_
      rw [h5, if_neg (by omega)]
  refine ⟨?_, ?_, ?_, ?_, at1 0 (by decide) b5, at1 1 (by decide) b6, at1 2 (by decide) b7, at1 3 (by decide) b8, at1 4 (by decide) b9, ?_⟩
  · rw [hk 1 (by omega), st_p1_0 (by omega) (by decide), st_p1_0 (by omega) (by decide), st_p1_0 (by omega) (by decide)]; exact b1
  · rw [hk 2 (by omega), st_p1_o (by decide) (by omega)]; exact b2
  · rw [hk 4 (by omega), st_p1_o (by decide) (by omega)]; exact b3
  · rw [hk 6 (by omega), st_p1_o (by decide) (by omega)]; exact b4
  · rw [hk 3 (by omega), st_p1_0 (by omega) (by decide), st_p1_o (by decide) (by omega)]; exact b10
theorem mv_mB.p1 {w p : Nat} {v : Int} (h : mv_mB G a) (hw : w ≤ 4) (h5 : ∀ k j, 105 ≤ k → k ≤ 109 → G2 k 0 j = if k = 105 + w ∧ j = p then v else G k 0 j) (hk : ∀ k, k = 101 ∨ k = 104 → G2 k = G k) (h6 : G2 100 0 6 = G 100 0 6 ∧ G2 100 0 8 = G 100 0 8) : mv_mB G2 (st_p1 a (4 + w) p v) := by
  obtain ⟨b1, b2, b3, b4, b5, b6, b7, b8, b9⟩ := h
  have at1 : ∀ q, q ≤ 4 → (∀ j, j < 10 → G (105 + q) 0 j = a (4 + q) j) → ∀ j, j < 10 → G2 (105 + q) 0 j = st_p1 a (4 + w) p v (4 + q) j := fun q hq h j hj => by
    by_cases e : q = w
    · subst e
      rw [st_p1_e (by omega)]
      show _ = if j = p then v else a (4 + q) j
      rw [h5 _ _ (by omega) (by omega)]
      by_cases e2 : j = p
      · rw [if_pos ⟨rfl, e2⟩, if_pos e2]
      · rw [if_neg (fun h => e2 h.2), if_neg e2, h j hj]
    · rw [st_p1_o (by omega) (by omega), ← h j hj]
      rw [h5 _ _ (by omega) (by omega), if_neg (by omega)]
  refine ⟨?_, ?_, ?_, ?_, at1 0 (by decide) b5, at1 1 (by decide) b6, at1 2 (by decide) b7, at1 3 (by decide) b8, at1 4 (by decide) b9⟩
  · rw [h6.1, h6.2, hk 101 (by omega), st_p1_0 (by omega) (by decide), st_p1_0 (by omega) (by decide), st_p1_0 (by omega) (by decide)]; exact b1
  · rw [hk 104 (by omega), st_p1_o (by decide) (by omega)]; exact b2
  · rw [hk 101 (by omega), st_p1_o (by decide) (by omega)]; exact b3
  · rw [hk 101 (by omega), st_p1_o (by decide) (by omega)]; exact b4
theorem bx_set (w p v : Int) : st_bx (ff_X11_set [.inr (0, 0), .inl w, .inl p, .inl v]) (ff_X12_set [.inr (100, 0), .inl w, .inl p, .inl v]) := by
  obtain ⟨nx, hnx⟩ : ∃ nx : mv_a → mv_a, nx = fun a => @ite _ (st_sq a w p v) (Classical.propDecidable _) (st_p1 a (4 + w.toNat) p.toNat v) a := ⟨_, rfl⟩
  have y : ∀ a, st_sq a w p v → nx a = st_p1 a (4 + w.toNat) p.toNat v := fun a h => by rw [hnx]; exact if_pos h
  have nn : ∀ a, ¬ st_sq a w p v → nx a = a := fun a h => by rw [hnx]; exact if_neg h
  refine st_bx_of (fun a => mv_b (st_sq a w p v)) nx (fun G a hc hi => ?_) (fun G a hm hi => ?_) (fun a hi => ?_)
  · have b1 := hi.1.1.1
    have no : ¬ st_sq a w p v → mv_J mm_X11_set (fun r G' => r = mv_b (st_sq a w p v) ∧ st_cW G' (nx a) ∧ mv_fC G G') (mv_rzc 0 1 0 (some (.inl (0, G)))) := fun h => mv_J.r0 (Or.inl rfl) ⟨(mv_b0 h).symm, by rw [nn a h]; exact hc, mv_fC.rf⟩
    have yes : st_sq a w p v → mv_J mm_X11_set (fun r G' => r = mv_b (st_sq a w p v) ∧ st_cW G' (nx a) ∧ mv_fC G G') (mv_ck w 5 (mv_ck p 10 (mv_cn (ff_X6_forget [.inr (47, 0)] (mv_up G 5 (w.toNat + 1) p.toNat v)) fun r2 G2 => mv_rzc 0 1 1 (some (.inl (1, G2)))))) := fun h => by
      have hw := h.1.1
      have hp := h.2.1
      refine mv_J.ck (by omega) (mv_J.ck (by omega) (mv_J.ce fx_forget (mv_J.r0 (Or.inr rfl) ⟨(mv_b1 h).symm, ?_, (mv_up_fC (by decide)).tr (mv_up_fC (by decide))⟩)))
      rw [y a h]
      have c2 : mv_ch [5] [(47, 0)] G (mv_up (mv_up G 5 (w.toNat + 1) p.toNat v) 47 0 0 0) := (mv_ch.rf.uc rfl).up rfl
      have ek : ∀ k, k ≠ 5 → k ≠ 47 → (mv_up (mv_up G 5 (w.toNat + 1) p.toNat v) 47 0 0 0) k = G k := fun k h1 h2 => c2.cell k (by simp; omega)
      refine hc.bn (hc.1.rs (hc.1.1.p1 (w := w.toNat) (p := p.toNat) (v := v) (by omega) (fun i j => ?_) (fun k hk => ek k (by omega) (by omega))) (fun k h1 h2 => ek k (by omega) (by omega)) (by rw [ek 1 (by decide) (by decide)]) ⟨st_p1_0 (by omega) (by decide), st_p1_0 (by omega) (by decide)⟩ (fun o h1 h2 h3 => st_p1_o (by omega) (by omega))) (hc.2.1.z (c2.slot 47 1 rfl) mv_ups_eq st_p1_5) (fun k hk => ek k (by omega) (by omega)) (by rw [ek 0 (by decide) (by decide)]) (fun j hj => by rw [ek 52 (by decide) (by decide)]) (st_p1_T (by omega) (by omega)).1 (st_p1_T (by omega) (by omega)).2
      rw [mv_up_k (by decide)]
      show (if (5 : Nat) = 5 ∧ i = w.toNat + 1 ∧ j = p.toNat then v else G 5 i j) = _
      by_cases c : i = w.toNat + 1 ∧ j = p.toNat
      · rw [if_pos ⟨rfl, c⟩, if_pos c]
      · rw [if_neg (fun h => c h.2), if_neg c]
    refine mv_Kp.of (mv_JP.of (rg_X11_set_0 w p v G) ?_)
    refine mv_J.ce (fx_allowed _ _ _) (mv_J.bt (fun h => no (fun h2 => h h2.1)) (fun h1 => mv_J.ce (fx_isPerson hc.1.1 hi.1.1 p) (mv_J.bt (fun h => no (fun h2 => h h2.2.1)) (fun h2 => mv_J.i (fun h3 => yes ⟨h1, h2, Or.inl h3⟩) (fun h3 => mv_J.ce (fx_isSeated hc.1.1 hi.1.1 p) (mv_J.bt (fun h4 => yes ⟨h1, h2, Or.inr ?_⟩) (fun h4 => no (fun h5 => h5.2.2.elim h3 h4.2.2))))))))
    exact Classical.byContradiction fun h5 => h4 ⟨h2.1, h2.2, h5⟩
  · have b1 := hi.1.1.1
    have c0 : mv_ch [] [(100, 0)] G (mv_up G 100 0 0 0) := mv_ch.rf.up rfl
    have hm0 := hm.ch hi.1 c0 (by decide) (by decide)
    have f0 : mv_fM G (mv_up G 100 0 0 0) := c0.fM rfl
    refine mv_Kp.of (mv_JP.of (rg_X12_set_0 w p v G) ?_)
    generalize mv_up G 100 0 0 0 = G0 at hm0 f0
    have no : ¬ st_sq a w p v → mv_J mm_X12_set (fun r G' => r = mv_b (st_sq a w p v) ∧ st_mW G' (nx a) ∧ mv_fM G G') (mv_rzc 0 1 0 (some (.inl (0, G0)))) := fun h => mv_J.r0 (Or.inl rfl) ⟨(mv_b0 h).symm, by rw [nn a h]; exact hm0, f0⟩
    have fin : ∀ (w2 : Nat), w2 ≤ 4 → w = w2 → st_sq a w p v → mv_JP mm_X12_set (fun r G' => r = mv_b (st_sq a w p v) ∧ st_mW G' (nx a) ∧ mv_fM G G') 158 [some (.inr (100, 0)), none, none, none, none] (mv_up G0 (105 + w2) 0 p.toNat v) := fun w2 hw2 e h => by
      have hp := h.2.1
      have ew : w.toNat = w2 := by omega
      refine mv_JP.of (rg_X12_set_158 _) (mv_J.r0 (Or.inr rfl) ⟨(mv_b1 h).symm, ?_, f0.tr ((mv_up_fM (by omega)).tr (mv_up_fM (by decide)))⟩)
      rw [y a h, ew]
      have ek : ∀ k, k ≠ 105 + w2 → k ≠ 100 → (mv_up (mv_up G0 (105 + w2) 0 p.toNat v) 100 0 3 0) k = G0 k := fun k h1 h2 => by rw [mv_up_k h2, mv_up_k h1]
      have es : ∀ j, j ≠ 3 → (mv_up (mv_up G0 (105 + w2) 0 p.toNat v) 100 0 3 0) 100 0 j = G0 100 0 j := fun j hj => by rw [mv_up_j hj, mv_up_k (by omega)]
      refine hm0.bn (hm0.1.rs (hm0.1.1.p1 (w := w2) (p := p.toNat) (v := v) hw2 (fun k j h1 h2 => ?_) (fun k hk => ek k (by omega) (by omega)) ⟨es 6 (by decide), es 8 (by decide)⟩) (fun k h1 h2 h3 => ek k (by omega) (by omega)) (by rw [ek 101 (by omega) (by decide)]) (es 37 (by decide)) ⟨st_p1_0 (by omega) (by decide), st_p1_0 (by omega) (by decide)⟩ (fun o h1 h2 h3 => st_p1_o (by omega) (by omega))) (mv_unM.z mv_ups_eq st_p1_5) (fun k hk => ek k (by omega) (by omega)) (fun j hj => es j (by omega)) (st_p1_T (by omega) (by omega)).1 (st_p1_T (by omega) (by omega)).2
      rw [mv_up_k (by omega)]
      by_cases c : k = 105 + w2
      · subst c
        rw [mv_up_at]
        by_cases c2 : j = p.toNat
        · rw [if_pos c2, if_pos ⟨rfl, c2⟩]
        · rw [if_neg c2, if_neg (fun h => c2 h.2)]
      · rw [mv_up_k c, if_neg (fun h => c h.1)]
    -- what is told is put down
    have put : st_sq a w p v → mv_JP mm_X12_set (fun r G' => r = mv_b (st_sq a w p v) ∧ st_mW G' (nx a) ∧ mv_fM G G') 99 [some (.inr (100, 0)), some (.inl w), some (.inl p), some (.inl v), none] G0 := fun h => by
      have hw := h.1.1
      have hp := h.2.1
      have hw2 : w = 0 ∨ w = 1 ∨ w = 2 ∨ w = 3 ∨ w = 4 := by omega
      rcases hw2 with e | e | e | e | e
      · have g := fin 0 (by decide) e h
        refine mv_JP.of (rg_X12_set_99 _ _ _ _) (mv_J.t (by omega) (mv_J.ck (by omega) (mv_J.cut ?_)))
        exact mv_JP.of (rg_X12_set_110 _ _ _ _) (mv_J.f (by omega) (mv_J.cut (mv_JP.of (rg_X12_set_122 _ _ _ _) (mv_J.f (by omega) (mv_J.cut (mv_JP.of (rg_X12_set_134 _ _ _ _) (mv_J.f (by omega) (mv_J.cut (mv_JP.of (rg_X12_set_146 _ _ _ _) (mv_J.f (by omega) (mv_J.cut g)))))))))))
      · have g := fin 1 (by decide) e h
        refine mv_JP.of (rg_X12_set_99 _ _ _ _) (mv_J.f (by omega) (mv_J.cut (mv_JP.of (rg_X12_set_110 _ _ _ _) (mv_J.t (by omega) (mv_J.ck (by omega) (mv_J.cut ?_))))))
        exact mv_JP.of (rg_X12_set_122 _ _ _ _) (mv_J.f (by omega) (mv_J.cut (mv_JP.of (rg_X12_set_134 _ _ _ _) (mv_J.f (by omega) (mv_J.cut (mv_JP.of (rg_X12_set_146 _ _ _ _) (mv_J.f (by omega) (mv_J.cut g))))))))
      · have g := fin 2 (by decide) e h
        refine mv_JP.of (rg_X12_set_99 _ _ _ _) (mv_J.f (by omega) (mv_J.cut (mv_JP.of (rg_X12_set_110 _ _ _ _) (mv_J.f (by omega) (mv_J.cut (mv_JP.of (rg_X12_set_122 _ _ _ _) (mv_J.t (by omega) (mv_J.ck (by omega) (mv_J.cut ?_)))))))))
        exact mv_JP.of (rg_X12_set_134 _ _ _ _) (mv_J.f (by omega) (mv_J.cut (mv_JP.of (rg_X12_set_146 _ _ _ _) (mv_J.f (by omega) (mv_J.cut g)))))
      · have g := fin 3 (by decide) e h
        refine mv_JP.of (rg_X12_set_99 _ _ _ _) (mv_J.f (by omega) (mv_J.cut (mv_JP.of (rg_X12_set_110 _ _ _ _) (mv_J.f (by omega) (mv_J.cut (mv_JP.of (rg_X12_set_122 _ _ _ _) (mv_J.f (by omega) (mv_J.cut (mv_JP.of (rg_X12_set_134 _ _ _ _) (mv_J.t (by omega) (mv_J.ck (by omega) (mv_J.cut ?_))))))))))))
        exact mv_JP.of (rg_X12_set_146 _ _ _ _) (mv_J.f (by omega) (mv_J.cut g))
      · have g := fin 4 (by decide) e h
        refine mv_JP.of (rg_X12_set_99 _ _ _ _) (mv_J.f (by omega) (mv_J.cut (mv_JP.of (rg_X12_set_110 _ _ _ _) (mv_J.f (by omega) (mv_J.cut (mv_JP.of (rg_X12_set_122 _ _ _ _) (mv_J.f (by omega) (mv_J.cut (mv_JP.of (rg_X12_set_134 _ _ _ _) (mv_J.f (by omega) (mv_J.cut (mv_JP.of (rg_X12_set_146 _ _ _ _) (mv_J.t (by omega) (mv_J.ck (by omega) (mv_J.cut g)))))))))))))))
    have body : ∀ ms : Int, (0 ≤ w ∧ w ≤ 4 → ms = mv_mst w) → mv_JP mm_X12_set (fun r G' => r = mv_b (st_sq a w p v) ∧ st_mW G' (nx a) ∧ mv_fM G G') 47 [some (.inr (100, 0)), some (.inl w), some (.inl p), some (.inl v), some (.inl ms)] G0 := fun ms hms => by
      refine mv_JP.of (rg_X12_set_47 _ _ _ _ _) ?_
      refine mv_J.ce (gx_isIn _ _ _ _) (mv_J.bt (fun h => no (fun h2 => h (by have := h2.1.1; omega))) (fun h1 => mv_J.ce (gx_isPerson hm0.1.1 p) (mv_J.bt (fun h => no (fun h2 => h h2.2.1)) (fun h2 => ?_))))
      have ems := hms h1
      have al : mv_alw w v ↔ (if w = 0 then (1 : Int) else 0) ≤ v ∧ v ≤ ms := by
        rw [ems]
        exact ⟨fun h => h.2, fun h => ⟨by omega, h⟩⟩
      have chk : (w = 4 ∨ a 3 p.toNat = -1) → mv_J mm_X12_set (fun r G' => r = mv_b (st_sq a w p v) ∧ st_mW G' (nx a) ∧ mv_fM G G') (if w = 0 then mv_cn (ff_X12_isIn [.inr (100, 0), .inl v, .inl 1, .inl ms] G0) fun r3 G3 => if r3 = 0 then mv_rzc 0 1 0 (some (.inl (0, G3))) else some (.inr (99, [some (.inr (100, 0)), some (.inl w), some (.inl p), some (.inl v), none], G3)) else mv_cn (ff_X12_isIn [.inr (100, 0), .inl v, .inl 0, .inl ms] G0) fun r3 G3 => if r3 = 0 then mv_rzc 0 1 0 (some (.inl (0, G3))) else some (.inr (99, [some (.inr (100, 0)), some (.inl w), some (.inl p), some (.inl v), none], G3))) := fun hs => by
        refine mv_J.i (fun h3 => mv_J.ce (gx_isIn _ _ _ _) (mv_J.bt (fun h4 => no (fun h5 => h4 ?_)) (fun h4 => mv_J.cut (put ⟨al.mpr ?_, h2, hs⟩)))) (fun h3 => mv_J.ce (gx_isIn _ _ _ _) (mv_J.bt (fun h4 => no (fun h5 => h4 ?_)) (fun h4 => mv_J.cut (put ⟨al.mpr ?_, h2, hs⟩))))
        · have := al.mp h5.1; rw [if_pos h3] at this; exact this
        · rw [if_pos h3]; exact h4
        · have := al.mp h5.1; rw [if_neg h3] at this; exact this
        · rw [if_neg h3]; exact h4
      have sit := gx_sits hm0.1.1 hi.1.1 p.toNat (by omega)
      rw [show ((p.toNat : Nat) : Int) = p by omega] at sit
      refine mv_J.i (fun h3 => mv_J.ce sit (mv_J.bt (fun h4 => chk (Or.inr (Classical.byContradiction h4))) (fun h4 => no (fun h5 => h5.2.2.elim (fun h6 => by omega) h4)))) (fun h3 => chk (Or.inl (by omega)))
    have m0 : 0 ≤ w ∧ w ≤ 4 → mv_mst w = if w = 0 then 20 else if w = 1 then 15 else if w = 2 then 10 else if w = 3 then 9 else 1 := fun _ => rfl
    refine mv_J.i (fun h0 => mv_J.cut (body 20 (fun h => by rw [m0 h, if_pos h0]))) (fun h0 => mv_J.i (fun h1 => mv_J.cut (body 15 (fun h => by rw [m0 h, if_neg h0, if_pos h1]))) (fun h1 => mv_J.i (fun h2 => mv_J.cut (body 10 (fun h => by rw [m0 h, if_neg h0, if_neg h1, if_pos h2]))) (fun h2 => mv_J.i (fun h3 => mv_J.cut (body 9 (fun h => by rw [m0 h, if_neg h0, if_neg h1, if_neg h2, if_pos h3]))) (fun h3 => mv_J.cut (body 1 (fun h => by rw [m0 h, if_neg h0, if_neg h1, if_neg h2, if_neg h3]))))))
  · by_cases c : st_sq a w p v
    · rw [y a c]
      obtain ⟨⟨c1, c2, c3⟩, c4, c5⟩ := c
      obtain ⟨W, hW⟩ : ∃ W : Nat, w = W := ⟨w.toNat, by omega⟩
      obtain ⟨Q, hQ⟩ : ∃ Q : Nat, p = Q := ⟨p.toNat, by omega⟩
      rw [hW] at c1 c2 c3 c5
      rw [hQ] at c4 c5
      rw [hW, hQ, Int.toNat_natCast, Int.toNat_natCast]
      rw [Int.toNat_natCast] at c5
      have old := hi.1.1.2.2.2.2.1 Q c4.2
      have val : ∀ o q, 4 ≤ o → o ≤ 8 → st_p1 a (4 + W) Q v o q = if o = 4 + W ∧ q = Q then v else a o q := fun o q h1 h2 => by
        by_cases e : o = 4 + W
        · subst e
          rw [st_p1_e (by omega)]
          show (if q = Q then v else a (4 + W) q) = _
          by_cases e2 : q = Q
          · rw [if_pos e2, if_pos ⟨rfl, e2⟩]
          · rw [if_neg e2, if_neg (fun h => e2 h.2)]
        · rw [st_p1_o (by omega) e, if_neg (fun h => e h.1)]
      refine hi.bn (hi.1.rs (mv_iB.p (p := Q) hi.1.1 ⟨st_p1_0 (by omega) (by decide), st_p1_0 (by omega) (by decide), st_p1_0 (by omega) (by decide)⟩ (by have := hi.1.1.1; rw [st_p1_0 (by omega) (by decide)]; omega) (fun q hq hne => by rw [st_p1_0 (by omega) (by decide)] at hq; exact hq) (st_p1_o (by decide) (by omega)) (st_p1_o (by decide) (by omega)) (fun q hq => ?_) ?_ ?_) (st_p1_0 (by omega) (by decide)) (by rw [st_p1_0 (by omega) (by decide)]; exact Int.le_refl _) (fun o h1 h2 h3 => st_p1_o (by omega) (by omega))) (mv_iU.z st_p1_5) (st_p1_T (by omega) (by omega)).1 (st_p1_T (by omega) (by omega)).2
      · rw [st_p1_o (by decide) (by omega), val 4 q (by decide) (by decide), val 5 q (by decide) (by decide), val 6 q (by decide) (by decide), val 7 q (by decide) (by decide), val 8 q (by decide) (by decide), if_neg (fun h => hq h.2), if_neg (fun h => hq h.2), if_neg (fun h => hq h.2), if_neg (fun h => hq h.2), if_neg (fun h => hq h.2)]
        exact ⟨rfl, rfl, rfl, rfl, rfl, rfl⟩
      · rw [val 4 Q (by decide) (by decide), val 5 Q (by decide) (by decide), val 6 Q (by decide) (by decide), val 7 Q (by decide) (by decide), val 8 Q (by decide) (by decide)]
        unfold mv_lst at c2
        unfold mv_mst at c3
        have hw2 : W = 0 ∨ W = 1 ∨ W = 2 ∨ W = 3 ∨ W = 4 := by omega
        rcases hw2 with rfl | rfl | rfl | rfl | rfl
        · rw [if_pos (c := (4 : Nat) = 4 + 0 ∧ Q = Q) ⟨rfl, rfl⟩, if_neg (by omega), if_neg (by omega), if_neg (by omega), if_neg (by omega)]
          rw [if_pos (by rfl)] at c2 c3
          exact ⟨⟨c2, c3⟩, old.2⟩
        · rw [if_neg (by omega), if_pos (c := (5 : Nat) = 4 + 1 ∧ Q = Q) ⟨rfl, rfl⟩, if_neg (by omega), if_neg (by omega), if_neg (by omega)]
          rw [if_neg (by omega)] at c2 c3
          rw [if_pos (by rfl)] at c3
          exact ⟨old.1, ⟨c2, c3⟩, old.2.2⟩
        · rw [if_neg (by omega), if_neg (by omega), if_pos (c := (6 : Nat) = 4 + 2 ∧ Q = Q) ⟨rfl, rfl⟩, if_neg (by omega), if_neg (by omega)]
          rw [if_neg (by omega)] at c2 c3
          rw [if_neg (by omega), if_pos (by rfl)] at c3
          exact ⟨old.1, old.2.1, ⟨c2, c3⟩, old.2.2.2⟩
        · rw [if_neg (by omega), if_neg (by omega), if_neg (by omega), if_pos (c := (7 : Nat) = 4 + 3 ∧ Q = Q) ⟨rfl, rfl⟩, if_neg (by omega)]
          rw [if_neg (by omega)] at c2 c3
          rw [if_neg (by omega), if_neg (by omega), if_pos (by rfl)] at c3
          exact ⟨old.1, old.2.1, old.2.2.1, ⟨c2, c3⟩, old.2.2.2.2⟩
        · rw [if_neg (by omega), if_neg (by omega), if_neg (by omega), if_neg (by omega), if_pos (c := (8 : Nat) = 4 + 4 ∧ Q = Q) ⟨rfl, rfl⟩]
          rw [if_neg (by omega)] at c2 c3
          rw [if_neg (by omega), if_neg (by omega), if_neg (by omega)] at c3
          exact ⟨old.1, old.2.1, old.2.2.1, old.2.2.2.1, c2, c3⟩
      · rw [st_p1_o (by decide) (by omega), val 4 Q (by decide) (by decide), val 6 Q (by decide) (by decide)]
        rcases c5 with c5 | c5
        · exact Or.inr ⟨c4.2, rfl, if_neg (by omega), if_neg (by omega)⟩
        · exact Or.inl c5
    · rw [nn a c]; exact hi
end SE
