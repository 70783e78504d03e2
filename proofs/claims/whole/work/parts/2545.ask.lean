/-! of, at, book, look answer alike. -/
noncomputable def st_of (a : mv_a) (p w : Int) : Int := if 0 ≤ p ∧ p < a 0 1 then (if w = 0 then a 4 p.toNat else if w = 1 then a 5 p.toNat else if w = 2 then a 6 p.toNat else if w = 3 then a 7 p.toNat else if w = 4 then a 8 p.toNat else if w = 5 then a 3 p.toNat else if w = 6 then st_rk a p.toNat else -2) else -2
noncomputable def st_at (a : mv_a) (x w : Int) : Int := if 0 ≤ x ∧ x < a 0 0 then (if w = 0 then st_wa a x else if w = 1 then a 2 x.toNat else if w = 2 then a 1 x.toNat else -2) else -2
def st_bo (a : mv_a) (i w : Int) : Int := if 0 ≤ i ∧ i < a 0 3 then (if w = 0 then a 9 i.toNat else if w = 1 then a 10 i.toNat else if w = 2 then a 11 i.toNat else if w = 3 then a 12 i.toNat else -2) else -2
noncomputable def st_lo (a : mv_a) (w : Int) : Int := if w = 0 then a 0 0 else if w = 1 then a 0 1 else if w = 2 then (((mv_wh a (mv_P a)).1 : Nat) : Int) else if w = 3 then a 0 2 else if w = 4 then a 0 3 else if w = 5 then a 17 0 else if w = 6 then a 22 0 else if w = 7 then a 0 4 else if w = 8 then a 0 5 else if w = 9 then ((st_fr a (mv_P a) : Nat) : Int) else if w = 10 then ((st_ct (fun k => a 1 k = 1) (a 0 0).toNat : Nat) : Int) else if w < 20 then -1 else st_wi a (w - 20)
theorem bx_of (p w : Int) : st_bx (ff_X11_of [.inr (0, 0), .inl p, .inl w]) (ff_X12_of [.inr (100, 0), .inl p, .inl w]) := by
  refine st_bx_q (S := []) (T := []) (S2 := []) (T2 := [(100, 0)]) (fun a => st_of a p w) (fun G a hc hi => ?_) (fun G a hm hi => ?_) (by decide) (by decide) (by decide) (by decide) (by decide) (by decide)
  · have hB := hc.1.1
    have hb := hi.1.1
    have b1 := hb.1
    unfold st_of
    refine mv_Kp.of (mv_JP.of (rg_X11_of_0 p w G) (mv_J.ce (fx_isPerson hB hb p) (mv_J.bt (fun h => mv_J.ret ⟨(if_neg h).symm, mv_ch.rf⟩) (fun h => ?_))))
    rw [if_pos h]
    have hP : p.toNat < mv_P a := by unfold mv_P; omega
    refine mv_J.i (fun h1 => mv_J.ret ⟨?_, mv_ch.rf⟩) (fun h1 => mv_J.i (fun h2 => mv_J.ret ⟨?_, mv_ch.rf⟩) (fun h2 => mv_J.i (fun h3 => mv_J.i (fun h4 => mv_J.ck (by omega) (mv_J.ret ⟨?_, mv_ch.rf⟩)) (fun h4 => ?_)) (fun h3 => mv_J.ck (by omega) (mv_J.ck (by omega) (mv_J.ret ⟨?_, mv_ch.rf⟩)))))
    · rw [if_neg (by omega), if_neg (by omega), if_neg (by omega), if_neg (by omega), if_neg (by omega), if_neg (by omega), if_neg (by omega)]
    · rw [if_neg (by omega), if_neg (by omega), if_neg (by omega), if_neg (by omega), if_neg (by omega), if_neg (by omega), if_neg (by omega)]
    · rw [if_neg (by omega), if_neg (by omega), if_neg (by omega), if_neg (by omega), if_neg (by omega), if_pos h4, hB.2.2.2.1]
    · have r := fx_rank hB hb p.toNat hP
      rw [show ((p.toNat : Nat) : Int) = p by omega] at r
      refine mv_J.ce r (mv_J.ret ⟨?_, mv_ch.rf⟩)
      rw [if_neg (by omega), if_neg (by omega), if_neg (by omega), if_neg (by omega), if_neg (by omega), if_neg (by omega), if_pos (by omega)]
    · obtain ⟨-, -, -, -, t5, t6, t7, t8, t9, -⟩ := hB
      have hw : w = 0 ∨ w = 1 ∨ w = 2 ∨ w = 3 ∨ w = 4 := by omega
      rcases hw with rfl | rfl | rfl | rfl | rfl
      · show G 5 1 p.toNat = _; rw [t5]; rfl
      · show G 5 2 p.toNat = _; rw [t6]; rfl
      · show G 5 3 p.toNat = _; rw [t7]; rfl
      · show G 5 4 p.toNat = _; rw [t8]; rfl
      · show G 5 5 p.toNat = _; rw [t9]; rfl
  · have hb := hi.1.1
    have b1 := hb.1
    have c0 : mv_ch [] [(100, 0)] G (mv_up G 100 0 0 0) := mv_ch.rf.up rfl
    have hB := (hm.ch hi.1 c0 (by decide) (by decide)).1.1
    unfold st_of
    refine mv_Kp.of (mv_JP.of (rg_X12_of_0 p w G) ?_)
    generalize mv_up G 100 0 0 0 = G0 at c0 hB
    refine mv_J.ce (gx_isPerson hB p) (mv_J.bt (fun h => mv_J.ret ⟨(if_neg h).symm, c0⟩) (fun h => ?_))
    rw [if_pos h]
    have hP : p.toNat < mv_P a := by unfold mv_P; omega
    have r1 := gx_inchOf hB hb p.toNat (by omega)
    have r2 := gx_placeOf hB hb p.toNat hP
    rw [show ((p.toNat : Nat) : Int) = p by omega] at r1 r2
    obtain ⟨-, -, -, -, t5, t6, t7, t8, t9⟩ := hB
    rw [t5 _ (by omega), t6 _ (by omega), t7 _ (by omega), t8 _ (by omega), t9 _ (by omega)]
    refine mv_J.i (fun e => mv_J.ck (by omega) (mv_J.ret ⟨(if_pos e).symm, c0⟩)) (fun e0 => ?_)
    rw [if_neg e0]
    refine mv_J.i (fun e => mv_J.ck (by omega) (mv_J.ret ⟨(if_pos e).symm, c0⟩)) (fun e1 => ?_)
    rw [if_neg e1]
    refine mv_J.i (fun e => mv_J.ck (by omega) (mv_J.ret ⟨(if_pos e).symm, c0⟩)) (fun e2 => ?_)
    rw [if_neg e2]
    refine mv_J.i (fun e => mv_J.ck (by omega) (mv_J.ret ⟨(if_pos e).symm, c0⟩)) (fun e3 => ?_)
    rw [if_neg e3]
    refine mv_J.i (fun e => mv_J.ck (by omega) (mv_J.ret ⟨(if_pos e).symm, c0⟩)) (fun e4 => ?_)
    rw [if_neg e4]
    refine mv_J.i (fun e => mv_J.ce r1 (mv_J.ret ⟨(if_pos e).symm, c0⟩)) (fun e5 => ?_)
    rw [if_neg e5]
    refine mv_J.i (fun e => mv_J.ce r2 (mv_J.ret ⟨(if_pos e).symm, c0⟩)) (fun e6 => mv_J.ret ⟨(if_neg e6).symm, c0⟩)
theorem bx_at (x w : Int) : st_bx (ff_X11_at [.inr (0, 0), .inl x, .inl w]) (ff_X12_at [.inr (100, 0), .inl x, .inl w]) := by
  refine st_bx_q (S := []) (T := []) (S2 := []) (T2 := [(100, 0)]) (fun a => st_at a x w) (fun G a hc hi => ?_) (fun G a hm hi => ?_) (by decide) (by decide) (by decide) (by decide) (by decide) (by decide)
  · have hB := hc.1.1
    have hb := hi.1.1
    have b1 := hb.1
    unfold st_at
    refine mv_Kp.of (mv_JP.of (rg_X11_at_0 x w G) ?_)
    rw [hB.1.1, hB.2.1, hB.2.2.1]
    have off : ¬ (0 ≤ x ∧ x < a 0 0) → mv_J mm_X11_at (fun v G' => v = (if 0 ≤ x ∧ x < a 0 0 then (if w = 0 then st_wa a x else if w = 1 then a 2 x.toNat else if w = 2 then a 1 x.toNat else -2) else -2) ∧ mv_ch [] [] G G') (some (.inl (-2, G))) := fun h => mv_J.ret ⟨(if_neg h).symm, mv_ch.rf⟩
    refine mv_J.i (fun h => off (by omega)) (fun h => mv_J.i (fun h2 => ?_) (fun h2 => off (by omega)))
    rw [if_pos (show 0 ≤ x ∧ x < a 0 0 by omega)]
    refine mv_J.i (fun h3 => mv_J.ret ⟨?_, mv_ch.rf⟩) (fun h3 => mv_J.i (fun h4 => mv_J.ret ⟨?_, mv_ch.rf⟩) (fun h4 => mv_J.i (fun e => mv_J.ce (fx_whoIsAt hB hb x) (mv_J.ret ⟨(if_pos e).symm, mv_ch.rf⟩)) (fun e => mv_J.i (fun e2 => mv_J.ck (by omega) (mv_J.ret ⟨?_, mv_ch.rf⟩)) (fun e2 => mv_J.ck (by omega) (mv_J.ret ⟨?_, mv_ch.rf⟩)))))
    · rw [if_neg (by omega), if_neg (by omega), if_neg (by omega)]
    · rw [if_neg (by omega), if_neg (by omega), if_neg (by omega)]
    · rw [if_neg e, if_pos e2]
    · rw [if_neg e, if_neg e2, if_pos (by omega)]
  · have hb := hi.1.1
    have b1 := hb.1
    have c0 : mv_ch [] [(100, 0)] G (mv_up G 100 0 0 0) := mv_ch.rf.up rfl
    have hB := (hm.ch hi.1 c0 (by decide) (by decide)).1.1
    unfold st_at
    refine mv_Kp.of (mv_JP.of (rg_X12_at_0 x w G) ?_)
    generalize mv_up G 100 0 0 0 = G0 at c0 hB
    refine mv_J.ce (gx_length hB hb) ?_
    rw [mv_ws (x := a 0 0 - 1) (by omega)]
    refine mv_J.ce (gx_isIn _ _ _ _) (mv_J.bt (fun h => mv_J.ret ⟨(if_neg (by omega)).symm, c0⟩) (fun h => ?_))
    rw [if_pos (show 0 ≤ x ∧ x < a 0 0 by omega)]
    refine mv_J.ce (gx_isIn _ _ _ _) (mv_J.bt (fun h2 => mv_J.ret ⟨?_, c0⟩) (fun h2 => ?_))
    · rw [if_neg (by omega), if_neg (by omega), if_neg (by omega)]
    · have r := hb.2.1 x.toNat (by omega)
      have wm := hb.2.2.1 x.toNat (by omega)
      refine mv_J.i (fun e => mv_J.ce (gx_whoAt hB hb x) (mv_J.ret ⟨(if_pos e).symm, c0⟩)) (fun e => ?_)
      rw [if_neg e, mv_ws (x := 12 + x) (by omega), show Int.toNat (12 + x) = 12 + x.toNat by omega, hB.2.2.1 _ (by omega), hB.2.1 _ (by omega)]
      refine mv_J.i (fun e2 => mv_J.ck (by omega) (mv_J.ret ⟨?_, c0⟩)) (fun e2 => mv_J.ck (by omega) (mv_J.i (fun e3 => mv_J.ret ⟨?_, c0⟩) (fun e3 => mv_J.ret ⟨?_, c0⟩)))
      · rw [if_pos e2, mv_ws (by omega)]; omega
      · rw [if_neg e2, if_pos (by omega)]; omega
      · rw [if_neg e2, if_pos (by omega)]; omega
theorem bx_book (x w : Int) : st_bx (ff_X11_book [.inr (0, 0), .inl x, .inl w]) (ff_X12_book [.inr (100, 0), .inl x, .inl w]) := by
  refine st_bx_q (S := []) (T := []) (S2 := []) (T2 := [(100, 0)]) (fun a => st_bo a x w) (fun G a hc hi => ?_) (fun G a hm hi => ?_) (by decide) (by decide) (by decide) (by decide) (by decide) (by decide)
  · have hB := hc.1.2.2.2.1
    have b1 := hi.1.1.1
    unfold st_bo
    refine mv_Kp.of (mv_JP.of (rg_X11_book_0 x w G) ?_)
    rw [hB.1]
    have off : ¬ (0 ≤ x ∧ x < a 0 3) → mv_J mm_X11_book (fun v G' => v = (if 0 ≤ x ∧ x < a 0 3 then (if w = 0 then a 9 x.toNat else if w = 1 then a 10 x.toNat else if w = 2 then a 11 x.toNat else if w = 3 then a 12 x.toNat else -2) else -2) ∧ mv_ch [] [] G G') (some (.inl (-2, G))) := fun h => mv_J.ret ⟨(if_neg h).symm, mv_ch.rf⟩
    refine mv_J.i (fun h => off (by omega)) (fun h => mv_J.i (fun h2 => ?_) (fun h2 => off (by omega)))
    rw [if_pos (show 0 ≤ x ∧ x < a 0 3 by omega)]
    refine mv_J.i (fun h3 => mv_J.ret ⟨?_, mv_ch.rf⟩) (fun h3 => mv_J.i (fun h4 => mv_J.ret ⟨?_, mv_ch.rf⟩) (fun h4 => mv_J.ck (by omega) (mv_J.ck (by omega) (mv_J.ret ⟨?_, mv_ch.rf⟩))))
    · rw [if_neg (by omega), if_neg (by omega), if_neg (by omega), if_neg (by omega)]
    · rw [if_neg (by omega), if_neg (by omega), if_neg (by omega), if_neg (by omega)]
    · obtain ⟨k1, k2, k3, k4⟩ := hB.2 x.toNat (by omega)
      have hw : w = 0 ∨ w = 1 ∨ w = 2 ∨ w = 3 := by omega
      rcases hw with rfl | rfl | rfl | rfl
      · exact k1
      · exact k2
      · exact k3
      · exact k4
  · have b1 := hi.1.1.1
    have c0 : mv_ch [] [(100, 0)] G (mv_up G 100 0 0 0) := mv_ch.rf.up rfl
    have hB := (hm.ch hi.1 c0 (by decide) (by decide)).1.2.2.2.1
    unfold st_bo
    refine mv_Kp.of (mv_JP.of (rg_X12_book_0 x w G) (mv_J.ck (by decide) ?_))
    generalize mv_up G 100 0 0 0 = G0 at c0 hB
    rw [hB.1, mv_ws (x := a 0 3 - 1) (by omega)]
    refine mv_J.ce (gx_isIn _ _ _ _) (mv_J.bt (fun h => mv_J.ret ⟨(if_neg (by omega)).symm, c0⟩) (fun h => ?_))
    rw [if_pos (show 0 ≤ x ∧ x < a 0 3 by omega)]
    refine mv_J.ce (gx_isIn _ _ _ _) (mv_J.bt (fun h2 => mv_J.ret ⟨?_, c0⟩) (fun h2 => ?_))
    · rw [if_neg (by omega), if_neg (by omega), if_neg (by omega), if_neg (by omega)]
    · obtain ⟨k1, k2, k3, k4⟩ := hB.2 x.toNat (by omega)
      rw [mv_ws (x := 4 * x) (by omega), mv_ws (x := 4 * x + w) (by omega)]
      have hw : w = 0 ∨ w = 1 ∨ w = 2 ∨ w = 3 := by omega
      rcases hw with rfl | rfl | rfl | rfl
      · rw [show Int.toNat (4 * x + 0) = 4 * x.toNat by omega, k1]; exact mv_J.ck (by omega) (mv_J.ret ⟨rfl, c0⟩)
      · rw [show Int.toNat (4 * x + 1) = 4 * x.toNat + 1 by omega, k2]; exact mv_J.ck (by omega) (mv_J.ret ⟨rfl, c0⟩)
      · rw [show Int.toNat (4 * x + 2) = 4 * x.toNat + 2 by omega, k3]; exact mv_J.ck (by omega) (mv_J.ret ⟨rfl, c0⟩)
      · rw [show Int.toNat (4 * x + 3) = 4 * x.toNat + 3 by omega, k4]; exact mv_J.ck (by omega) (mv_J.ret ⟨rfl, c0⟩)
theorem bx_look (w : Int) (hwi : w < 2147483648) : st_bx (ff_X11_look [.inr (0, 0), .inl w]) (ff_X12_look [.inr (100, 0), .inl w]) := by
  refine st_bx_q (S := []) (T := []) (S2 := []) (T2 := [(100, 0)]) (fun a => st_lo a w) (fun G a hc hi => ?_) (fun G a hm hi => ?_) (by decide) (by decide) (by decide) (by decide) (by decide) (by decide)
  · have hB := hc.1.1
    have hb := hi.1.1
    obtain ⟨nx, -, -, h5, -⟩ := hc.2.1
    unfold st_lo
    refine mv_Kp.of (mv_JP.of (rg_X11_look_0 w G) ?_)
    rw [hB.1.1, hB.1.2.1, hB.1.2.2.1, hc.1.2.2.2.1.1, hc.1.2.1.1, hc.1.2.2.1.1, hc.1.2.2.2.2.1, h5]
    refine mv_J.i (fun hlt => ?_) (fun hlt => ?_)
    · refine mv_J.i (fun e => mv_J.ret ⟨(if_pos e).symm, mv_ch.rf⟩) (fun e0 => ?_)
      rw [if_neg e0]
      refine mv_J.i (fun e => mv_J.ret ⟨(if_pos e).symm, mv_ch.rf⟩) (fun e1 => ?_)
      rw [if_neg e1]
      refine mv_J.i (fun e => mv_J.ce (fx_seated hB hb) (mv_J.ret ⟨(if_pos e).symm, mv_ch.rf⟩)) (fun e2 => ?_)
      rw [if_neg e2]
      refine mv_J.i (fun e => mv_J.ret ⟨(if_pos e).symm, mv_ch.rf⟩) (fun e3 => ?_)
      rw [if_neg e3]
      refine mv_J.i (fun e => mv_J.ret ⟨(if_pos e).symm, mv_ch.rf⟩) (fun e4 => ?_)
      rw [if_neg e4]
      refine mv_J.i (fun e => mv_J.ret ⟨(if_pos e).symm, mv_ch.rf⟩) (fun e5 => ?_)
      rw [if_neg e5]
      refine mv_J.i (fun e => mv_J.ret ⟨(if_pos e).symm, mv_ch.rf⟩) (fun e6 => ?_)
      rw [if_neg e6]
      refine mv_J.i (fun e => mv_J.ret ⟨(if_pos e).symm, mv_ch.rf⟩) (fun e7 => ?_)
      rw [if_neg e7]
      refine mv_J.i (fun e => mv_J.ret ⟨(if_pos e).symm, mv_ch.rf⟩) (fun e8 => ?_)
      rw [if_neg e8]
      refine mv_J.i (fun e => mv_J.ce (fx_free hB hb) (mv_J.ret ⟨(if_pos e).symm, mv_ch.rf⟩)) (fun e9 => ?_)
      rw [if_neg e9]
      refine mv_J.i (fun e => mv_J.ce (fx_rests hB hb) (mv_J.ret ⟨(if_pos e).symm, mv_ch.rf⟩)) (fun e10 => mv_J.ret ⟨?_, mv_ch.rf⟩)
      rw [if_neg e10, if_pos hlt]
    · rw [mv_ws (x := w - 20) (by omega)]
      refine mv_J.ce (fx_whoIsNth hB hb _) (mv_J.ret ⟨?_, mv_ch.rf⟩)
      rw [if_neg (by omega), if_neg (by omega), if_neg (by omega), if_neg (by omega), if_neg (by omega), if_neg (by omega), if_neg (by omega), if_neg (by omega), if_neg (by omega), if_neg (by omega), if_neg (by omega), if_neg (by omega)]
  · have hb := hi.1.1
    have c0 : mv_ch [] [(100, 0)] G (mv_up G 100 0 0 0) := mv_ch.rf.up rfl
    have hm0 := hm.ch hi.1 c0 (by decide) (by decide)
    unfold st_lo
    refine mv_Kp.of (mv_JP.of (rg_X12_look_0 w G) ?_)
    generalize mv_up G 100 0 0 0 = G0 at c0 hm0
    have hB := hm0.1.1
    rw [hB.1.2.1, hB.1.2.2.1, hm0.1.2.2.2.1.1, hm0.1.2.1.1, hm0.1.2.2.1.1, hm0.1.2.2.2.2.1, hm0.2.1.1]
    refine mv_J.i (fun e => mv_J.ce (gx_length hB hb) (mv_J.ret ⟨(if_pos e).symm, c0⟩)) (fun e0 => ?_)
    rw [if_neg e0]
    refine mv_J.i (fun e => mv_J.ret ⟨(if_pos e).symm, c0⟩) (fun e1 => ?_)
    rw [if_neg e1]
    refine mv_J.i (fun e => mv_J.ce (gx_sittingSet hB hb) ?_) (fun e2 => ?_)
    · have h1 := gx_onesOf G0 _ (mv_sit_1024 hb)
      rw [gx_howMany hb] at h1
      exact mv_J.ce h1 (mv_J.ret ⟨(if_pos e).symm, c0⟩)
    rw [if_neg e2]
    refine mv_J.i (fun e => mv_J.ck (by decide) (mv_J.ret ⟨(if_pos e).symm, c0⟩)) (fun e3 => ?_)
    rw [if_neg e3]
    refine mv_J.i (fun e => mv_J.ck (by decide) (mv_J.ret ⟨(if_pos e).symm, c0⟩)) (fun e4 => ?_)
    rw [if_neg e4]
    refine mv_J.i (fun e => mv_J.ck (by decide) (mv_J.ret ⟨(if_pos e).symm, c0⟩)) (fun e5 => ?_)
    rw [if_neg e5]
    refine mv_J.i (fun e => mv_J.ck (by decide) (mv_J.ret ⟨(if_pos e).symm, c0⟩)) (fun e6 => ?_)
    rw [if_neg e6]
    refine mv_J.i (fun e => mv_J.ret ⟨(if_pos e).symm, c0⟩) (fun e7 => ?_)
    rw [if_neg e7]
    refine mv_J.i (fun e => mv_J.ret ⟨(if_pos e).symm, c0⟩) (fun e8 => ?_)
    rw [if_neg e8]
    refine mv_J.i (fun e => mv_J.ce (gx_freeInches hB hb) (mv_J.ret ⟨(if_pos e).symm, c0⟩)) (fun e9 => ?_)
    rw [if_neg e9]
    refine mv_J.i (fun e => mv_J.ce (gx_restMany hB hb) (mv_J.ret ⟨(if_pos e).symm, c0⟩)) (fun e10 => ?_)
    rw [if_neg e10]
    refine mv_J.i (fun e => mv_J.ret ⟨(if_pos e).symm, c0⟩) (fun e11 => ?_)
    rw [if_neg e11, mv_ws (x := w - 20) (by omega)]
    exact mv_J.ce (gx_whoIs hB hb _ (by omega)) (mv_J.ret ⟨rfl, c0⟩)
