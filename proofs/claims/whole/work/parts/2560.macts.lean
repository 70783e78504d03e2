/-! The acts, the reference. -/
def mv_mY (G : mv_G) (a : mv_a) : Prop := mv_mB G a ∧ mv_mL G 0 a 17 ∧ mv_mL G 1 a 22 ∧ mv_dyM G a
def st_fm (G G2 : mv_G) : Prop := mv_ch [101, 110, 121, 122, 123, 124, 125, 126, 127, 128, 129, 130, 131] [(100, 46), (100, 47), (100, 48), (100, 49), (100, 50), (100, 51), (100, 52), (100, 57)] G G2
/-- the book, if it is no thought -/
def st_bp (G : mv_G) (a : mv_a) (G2 : mv_G) (b : mv_a) : Prop := (G 100 0 5 = 0 → mv_bkM G a → mv_bkM G2 b) ∧ (G 100 0 5 = 1 → G2 110 = G 110 ∧ G2 101 0 1 = G 101 0 1)
def st_mS (G : mv_G) : Int × Int := (G 100 0 51, G 100 0 52)
section MA
variable {G G2 G3 : mv_G} {a b c : mv_a}
theorem st_bp.tr (h : st_bp G a G2 b) (h5 : G2 100 0 5 = G 100 0 5) (h2 : st_bp G2 b G3 c) : st_bp G a G3 c :=
  ⟨fun e hb => h2.1 (h5.trans e) (h.1 e hb), fun e => ⟨(h2.2 (h5.trans e)).1.trans (h.2 e).1, (h2.2 (h5.trans e)).2.trans (h.2 e).2⟩⟩
theorem st_bp.rf (e1 : G2 110 = G 110) (e2 : G2 101 0 1 = G 101 0 1) (e3 : b 0 3 = a 0 3) (e4 : b 9 = a 9 ∧ b 10 = a 10 ∧ b 11 = a 11 ∧ b 12 = a 12) : st_bp G a G2 b := by
  refine ⟨fun _ hb => ?_, fun _ => ⟨e1, e2⟩⟩
  unfold mv_bkM at hb ⊢
  rw [e1, e2, e3, e4.1, e4.2.1, e4.2.2.1, e4.2.2.2]
  exact hb
theorem mv_mY.cg {S : List Nat} {T : List (Nat × Nat)} (h : mv_mY G a) (hc : mv_ch S T G G2) (hS : ([101, 104, 105, 106, 107, 108, 109, 113, 114, 115, 116, 117, 118, 120].any fun k => S.contains k || T.any fun q => q.1 == k) = false) (h0 : (S.contains 100 || [6, 8, 37].any fun j => T.contains (100, j)) = false) : mv_mY G2 a := by
  have hk : ∀ k, k ∈ [101, 104, 105, 106, 107, 108, 109, 113, 114, 115, 116, 117, 118, 120] → G2 k = G k := fun k hk => hc.cell k (Bool.eq_false_iff.mpr (List.any_eq_false.mp hS k hk))
  rw [Bool.or_eq_false_iff] at h0
  have hs : ∀ j, j ∈ [6, 8, 37] → G2 100 0 j = G 100 0 j := fun j hj => hc.slot 100 j (by
    rw [h0.1]
    exact Bool.eq_false_iff.mpr (List.any_eq_false.mp h0.2 j hj))
  unfold mv_mY mv_mB mv_mL mv_dyM at h ⊢
  rw [hs 6 (by decide), hs 8 (by decide), hs 37 (by decide), hk 101 (by decide), hk 104 (by decide), hk 105 (by decide), hk 106 (by decide), hk 107 (by decide), hk 108 (by decide), hk 109 (by decide), hk 113 (by decide), hk 114 (by decide), hk 115 (by decide), hk 116 (by decide), hk 117 (by decide), hk 118 (by decide), hk 120 (by decide)]
  exact h
/-- the seats put anew -/
theorem mv_mY.s {f : Nat → Int} (h : mv_mY G a) (hs : ∀ q, q < 10 → G2 101 0 (2 + q) = f q + 1) (ho : ∀ j, j < 2 ∨ 12 ≤ j → j ≠ 1 → G2 101 0 j = G 101 0 j) (hk : ∀ k, k ≠ 101 → G2 k = G k) : mv_mY G2 (st_set a 3 f) := by
  obtain ⟨⟨b1, b2, b3, b4, b5, b6, b7, b8, b9⟩, l1, l2, d1, d2⟩ := h
  unfold mv_mL at l1 l2
  refine ⟨⟨⟨?_, ?_, ?_, True.intro⟩, ?_, fun i hi => ?_, hs, ?_, ?_, ?_, ?_, ?_⟩, ?_, ?_, ?_, ?_⟩
  · rw [hk 100 (by decide)]; exact b1.1
  · rw [hk 100 (by decide)]; exact b1.2.1
  · rw [ho 0 (by decide) (by decide)]; exact b1.2.2.1
  · rw [hk 104 (by decide)]; exact b2
  · rw [ho (12 + i) (by omega) (by omega)]; exact b3 i hi
  · rw [hk 105 (by decide)]; exact b5
  · rw [hk 106 (by decide)]; exact b6
  · rw [hk 107 (by decide)]; exact b7
  · rw [hk 108 (by decide)]; exact b8
  · rw [hk 109 (by decide)]; exact b9
  · unfold mv_mL
    rw [hk 113 (by decide), hk 114 (by decide), hk 115 (by decide), hk 116 (by decide), hk 117 (by decide), hk 118 (by decide)]
    exact l1
  · unfold mv_mL
    rw [hk 113 (by decide), hk 114 (by decide), hk 115 (by decide), hk 116 (by decide), hk 117 (by decide), hk 118 (by decide)]
    exact l2
  · rw [hk 100 (by decide)]; exact d1
  · rw [hk 120 (by decide)]; exact d2
theorem mv_mY.w {p w x : Int} (h : mv_mY G a) (hc : mv_ch [110] [(101, 1)] G G2) : mv_mY G2 (st_wr a p w x) := by
  obtain ⟨⟨b1, b2, b3, b4, b5, b6, b7, b8, b9⟩, l1, l2, d1, d2⟩ := h
  have hk : ∀ k, k ≠ 110 → k ≠ 101 → G2 k = G k := fun k h1 h2 => hc.cell k (by simp; omega)
  have ho : ∀ j, j ≠ 1 → G2 101 0 j = G 101 0 j := fun j hj => hc 101 0 j rfl (by simp; omega)
  unfold mv_mL at l1 l2
  refine ⟨⟨⟨?_, ?_, ?_, True.intro⟩, ?_, fun i hi => ?_, fun i hi => ?_, ?_, ?_, ?_, ?_, ?_⟩, ?_, ?_, ?_, ?_⟩
  · rw [hk 100 (by decide) (by decide), st_wr_0 (by decide)]; exact b1.1
  · rw [hk 100 (by decide) (by decide), st_wr_0 (by decide)]; exact b1.2.1
  · rw [ho 0 (by decide), st_wr_0 (by decide)]; exact b1.2.2.1
  · rw [hk 104 (by decide) (by decide), st_wr_o (by decide) (by decide)]; exact b2
  · rw [ho (12 + i) (by omega), st_wr_o (by decide) (by decide)]; exact b3 i hi
  · rw [ho (2 + i) (by omega), st_wr_o (by decide) (by decide)]; exact b4 i hi
  · rw [hk 105 (by decide) (by decide), st_wr_o (by decide) (by decide)]; exact b5
  · rw [hk 106 (by decide) (by decide), st_wr_o (by decide) (by decide)]; exact b6
  · rw [hk 107 (by decide) (by decide), st_wr_o (by decide) (by decide)]; exact b7
  · rw [hk 108 (by decide) (by decide), st_wr_o (by decide) (by decide)]; exact b8
  · rw [hk 109 (by decide) (by decide), st_wr_o (by decide) (by decide)]; exact b9
  · unfold mv_mL
    rw [hk 113 (by decide) (by decide), hk 114 (by decide) (by decide), hk 115 (by decide) (by decide), hk 116 (by decide) (by decide), hk 117 (by decide) (by decide), hk 118 (by decide) (by decide), st_wr_o (o := 17) (by decide) (by decide), st_wr_o (o := 17 + 1) (by decide) (by decide), st_wr_o (o := 17 + 2) (by decide) (by decide), st_wr_o (o := 17 + 3) (by decide) (by decide), st_wr_o (o := 17 + 4) (by decide) (by decide)]
    exact l1
  · unfold mv_mL
    rw [hk 113 (by decide) (by decide), hk 114 (by decide) (by decide), hk 115 (by decide) (by decide), hk 116 (by decide) (by decide), hk 117 (by decide) (by decide), hk 118 (by decide) (by decide), st_wr_o (o := 22) (by decide) (by decide), st_wr_o (o := 22 + 1) (by decide) (by decide), st_wr_o (o := 22 + 2) (by decide) (by decide), st_wr_o (o := 22 + 3) (by decide) (by decide), st_wr_o (o := 22 + 4) (by decide) (by decide)]
    exact l2
  · rw [hk 100 (by decide) (by decide), st_wr_0 (by decide)]; exact d1
  · rw [hk 120 (by decide) (by decide), st_wr_0 (by decide), st_wr_o (o := 13) (by decide) (by decide), st_wr_o (o := 14) (by decide) (by decide), st_wr_o (o := 15) (by decide) (by decide)]; exact d2
set_option maxRecDepth 100000 in
theorem gx_notes (hh : G 101 0 0 = a 0 2) (h5 : G 100 0 5 = 0 ∨ G 100 0 5 = 1) (hb : G 100 0 5 = 0 → mv_bkM G a) (hl : 0 ≤ a 0 3 ∧ a 0 3 ≤ 150) (p w x : Int) : mv_Kp (ff_X12_notes [.inr (100, 0), .inl p, .inl w, .inl x] G) (fun _ G' => st_bp G a G' (st_wr a p w x) ∧ mv_ch [110] [(101, 1)] G G') := by
  refine mv_Kp.of (mv_JP.of (rg_X12_notes_0 p w x G) (mv_J.i (fun e5 => mv_J.ck (by decide) ?_) (fun e5 => mv_J.ret ⟨⟨fun h => absurd h e5, fun _ => ⟨rfl, rfl⟩⟩, mv_ch.rf⟩)))
  obtain ⟨h3, h4⟩ := hb e5
  obtain ⟨L, hL⟩ : ∃ L : Nat, a 0 3 = L := ⟨(a 0 3).toNat, by omega⟩
  rw [hL] at h3
  have u1 : ∀ {G3 : mv_G} {i j : Nat} {v : Int}, (mv_up G3 110 i j v) 101 = G3 101 := mv_up_k (by decide)
  repeat rw [u1]
  rw [h3, hh]
  refine mv_J.i (fun h => mv_J.ret ⟨⟨fun _ hb2 => ?_, fun h1 => by omega⟩, mv_ch.rf⟩) (fun h => ?_)
  · have : st_wr a p w x = a := if_neg (by omega)
    rw [this]; exact hb2
  · rw [mv_ws (x := 4 * (L : Int)) (by omega), mv_ws (x := 4 * (L : Int) + 1) (by omega), mv_ws (x := 4 * (L : Int) + 2) (by omega), mv_ws (x := 4 * (L : Int) + 3) (by omega), mv_ws (x := (L : Int) + 1) (by omega), show Int.toNat (4 * (L : Int)) = 4 * L by omega, show Int.toNat (4 * (L : Int) + 1) = 4 * L + 1 by omega, show Int.toNat (4 * (L : Int) + 2) = 4 * L + 2 by omega, show Int.toNat (4 * (L : Int) + 3) = 4 * L + 3 by omega]
    rw [mv_ckp (n := 600) (by omega), mv_ckp (n := 600) (by omega), mv_ckp (n := 600) (by omega), mv_ckp (n := 600) (by omega)]
    refine mv_J.ck (by decide) (mv_J.ck (by decide) (mv_J.ck (by decide) (mv_J.ck (by decide) (mv_J.ret ⟨⟨fun _ _ => ?_, fun h1 => by omega⟩, ((((mv_ch.rf.uc rfl).uc rfl).uc rfl).uc rfl).up rfl⟩))))
    have e : st_wr a p w x = st_s1 (st_set (st_set (st_set (st_set a 9 (mv_sp (a 9) (a 0 3).toNat (a 0 2))) 10 (mv_sp (a 10) (a 0 3).toNat p)) 11 (mv_sp (a 11) (a 0 3).toNat w)) 12 (mv_sp (a 12) (a 0 3).toNat x)) 3 (a 0 3 + 1) := if_pos (by omega)
    rw [e]
    refine ⟨?_, fun i hi => ?_⟩
    · rw [mv_ups_eq, st_s1_0, hL]
    · rw [st_s1_0] at hi
      rw [hL, Int.toNat_natCast]
      show _ = mv_sp (a 9) L (a 0 2) i ∧ _ = mv_sp (a 10) L p i ∧ _ = mv_sp (a 11) L w i ∧ _ = mv_sp (a 12) L x i
      unfold mv_sp
      rw [mv_up_k (by decide)]
      by_cases e : i = L
      · subst e
        rw [if_pos rfl, if_pos rfl, if_pos rfl, if_pos rfl, mv_up_j (by omega), mv_up_j (by omega), mv_up_j (by omega), mv_ups_eq, mv_up_j (by omega), mv_up_j (by omega), mv_ups_eq, mv_up_j (by omega), mv_ups_eq, mv_ups_eq]
        exact ⟨rfl, rfl, rfl, rfl⟩
      · rw [if_neg e, if_neg e, if_neg e, if_neg e]
        have o : ∀ j, j ≠ 4 * L → j ≠ 4 * L + 1 → j ≠ 4 * L + 2 → j ≠ 4 * L + 3 → (mv_up (mv_up (mv_up (mv_up G 110 0 (4 * L) (a 0 2)) 110 0 (4 * L + 1) p) 110 0 (4 * L + 2) w) 110 0 (4 * L + 3) x) 110 0 j = G 110 0 j := fun j h1 h2 h3 h4 => by rw [mv_up_j h4, mv_up_j h3, mv_up_j h2, mv_up_j h1]
        rw [o _ (by omega) (by omega) (by omega) (by omega), o _ (by omega) (by omega) (by omega) (by omega), o _ (by omega) (by omega) (by omega) (by omega), o _ (by omega) (by omega) (by omega) (by omega)]
        exact h4 i (by omega)
theorem gx_standsNow (x h : Int) (hh : G 101 0 0 = h) : mv_Kp (ff_X12_standsNow [.inr (100, 0), .inl x] G) (fun _ G' => st_mS G' = st_sd x h (st_mS G) ∧ mv_ch [] [(100, 51), (100, 52)] G G') := by
  refine mv_Kp.of (mv_JP.of (rg_X12_standsNow_0 x G) ?_)
  rw [mv_up_j (show (52 : Nat) ≠ 51 by decide), mv_up_k (show (101 : Nat) ≠ 100 by decide), hh]
  unfold st_sd
  refine mv_J.i (fun e => ?_) (fun e => mv_J.ret ⟨(if_neg e).symm, mv_ch.rf⟩)
  rw [if_pos e]
  refine mv_J.i (fun c => mv_J.ck (by decide) (mv_J.ret ⟨?_, (mv_ch.rf.up rfl).up rfl⟩)) (fun c => mv_J.ret ⟨?_, mv_ch.rf.up rfl⟩)
  · unfold st_mS
    rw [mv_ups_eq, mv_up_j (by decide), mv_ups_eq, if_pos c]
  · unfold st_mS
    rw [mv_ups_eq, mv_up_j (by decide), if_neg c]
/-- what an act of the reference leaves -/
def st_ma (G : mv_G) (a : mv_a) (G2 : mv_G) (b : mv_a) : Prop := mv_mY G2 b ∧ st_bp G a G2 b ∧ st_mS G2 = st_mS G ∧ st_fm G G2
theorem gx_comes (hY : mv_mY G a) (hi : mv_iX a) (h5 : G 100 0 5 = 0 ∨ G 100 0 5 = 1) (hb : G 100 0 5 = 0 → mv_bkM G a) (p : Nat) (hp : p < mv_P a) (h0 : a 3 p = -1) : mv_Kp (ff_X12_comes [.inr (100, 0), .inl p] G) (fun v G' => v = mv_cm a p ∧ st_ma G a G' (st_ca a p)) := by
  obtain ⟨hP, hPe⟩ := mv_P_le hi.1
  have b1 := hi.1.1
  have cb := mv_cm_b hi.1 (p := p)
  refine mv_Kp.of (mv_JP.of (rg_X12_comes_0 p G) (mv_J.ce (gx_everyone hY.1) (mv_J.cn (gx_lists hY.1 hi.1 _) (fun _ G1 h1 => ?_))))
  rw [mv_all_ev hi.1] at h1
  have hY1 := hY.cg h1.2 (by decide) (by decide)
  refine mv_J.cn (gx_asksFor hY1.1 p (by omega)) (fun _ G2 h2 => ?_)
  have hY2 := hY1.cg h2.2 (by decide) (by decide)
  have hR1 : mv_mR G1 (mv_all a).1 (mv_all a).2 := h1.1
  refine mv_J.cn (gx_bestInch hY2.1 hi.1 (hR1.ch h2.2 (by decide) rfl) h2.1 (mv_all_ok hi.1) (mv_ask_ok hi.1 p (by omega)) hY2.2.1 hi.2.1) (fun v G3 h3 => ?_)
  have c3 := h3.2
  have h3 : v = mv_cm a p := h3.1
  subst h3
  have hY3 := hY2.cg c3 (by decide) (by decide)
  have f3 : st_fm G G3 := ((h1.2.mono rfl rfl).tr (h2.2.mono rfl rfl)).tr (c3.mono rfl rfl)
  have n3 : st_mS G3 = st_mS G := by unfold st_mS; rw [c3.cell 100 rfl, h2.2.slot 100 51 rfl, h2.2.slot 100 52 rfl, h1.2.slot 100 51 rfl, h1.2.slot 100 52 rfl]
  have p3 : st_bp G a G3 a := st_bp.rf (by rw [c3.cell 110 rfl, h2.2.cell 110 rfl, h1.2.cell 110 rfl]) (by rw [c3.cell 101 rfl, h2.2.cell 101 rfl, h1.2.cell 101 rfl]) rfl ⟨rfl, rfl, rfl, rfl⟩
  have i4 : mv_iB (st_cs a p) := st_cs_i hi.1 hp h0
  rw [mv_ws (x := 2 + (p : Int)) (by omega), mv_ws (x := mv_cm a p + 1) (by omega), show Int.toNat (2 + (p : Int)) = 2 + p by omega]
  refine mv_J.ck (by omega) ?_
  have hY4 : mv_mY (mv_up G3 101 0 (2 + p) (mv_cm a p + 1)) (st_cs a p) := hY3.s (fun q hq => by
      rw [mv_up_at]
      show _ = (if q = p then mv_cm a p else a 3 q) + 1
      by_cases e : q = p
      · rw [if_pos (by omega), if_pos e]
      · rw [if_neg (by omega), if_neg e]; exact hY3.1.2.2.2.1 q hq) (fun j h1 h2 => by rw [mv_up_j (by omega)]) (fun k hk => mv_up_k hk)
  have f4 : st_fm G (mv_up G3 101 0 (2 + p) (mv_cm a p + 1)) := f3.uc rfl
  have n4 : st_mS (mv_up G3 101 0 (2 + p) (mv_cm a p + 1)) = st_mS G := by rw [← n3]; unfold st_mS; rw [mv_up_k (by decide)]
  have p4 : st_bp G a (mv_up G3 101 0 (2 + p) (mv_cm a p + 1)) (st_cs a p) := p3.tr (f3.slot 100 5 rfl) (st_bp.rf (mv_up_k (by decide)) (mv_up_j (by omega)) rfl ⟨rfl, rfl, rfl, rfl⟩)
  have e5 : (mv_up G3 101 0 (2 + p) (mv_cm a p + 1)) 100 0 5 = G 100 0 5 := f4.slot 100 5 rfl
  generalize mv_up G3 101 0 (2 + p) (mv_cm a p + 1) = G4 at hY4 f4 n4 p4 e5
  have fin : ∀ (w : Int) (G5 : mv_G), st_bp G4 (st_cs a p) G5 (st_wr (st_cs a p) p w (mv_cm a p)) → mv_ch [110] [(101, 1)] G4 G5 → st_ma G a G5 (st_wr (st_cs a p) p w (mv_cm a p)) := fun w G5 h h2 =>
    ⟨hY4.w h2, p4.tr e5 h, by rw [← n4]; unfold st_mS; rw [h2.cell 100 rfl], f4.tr (h2.mono rfl rfl)⟩
  refine mv_J.i (fun c => ?_) (fun c => ?_)
  · refine mv_J.cn (gx_notes hY4.1.1.2.2.1 (by rw [e5]; exact h5) (fun e => p4.1 (e5.symm.trans e) (hb (e5.symm.trans e))) (by have := i4.1; omega) p 1 (mv_cm a p)) (fun _ G5 h6 => mv_J.ret ⟨rfl, ?_⟩)
    unfold st_ca
    rw [if_pos c]
    exact fin 1 G5 h6.1 h6.2
  · refine mv_J.cn (gx_notes hY4.1.1.2.2.1 (by rw [e5]; exact h5) (fun e => p4.1 (e5.symm.trans e) (hb (e5.symm.trans e))) (by have := i4.1; omega) p 0 (mv_cm a p)) (fun _ G5 h6 => mv_J.ret ⟨rfl, ?_⟩)
    unfold st_ca
    rw [if_neg c]
    exact fin 0 G5 h6.1 h6.2
theorem st_ga_e {p : Nat} : st_set (st_wr a p 2 (a 3 p)) 3 (mv_sp (a 3) p (-1)) = st_ga a p := by
  unfold st_ga st_gs st_wr
  have e3 : st_set a 3 (mv_sp (a 3) p (-1)) 0 3 = a 0 3 := rfl
  rw [e3]
  by_cases c : a 0 3 < 150
  · rw [if_pos c, if_pos c]
    refine funext fun o => ?_
    by_cases h3 : o = 3
    · subst h3; rfl
    · by_cases h9 : o = 0
      · subst h9; rfl
      · rw [st_set_o h3, st_s1_o h9, st_s1_o h9]
        unfold st_set
        cases Nat.beq o 12 <;> cases Nat.beq o 11 <;> cases Nat.beq o 10 <;> cases Nat.beq o 9 <;> try rfl
        show a o = bif Nat.beq o 3 then _ else a o
        rw [show Nat.beq o 3 = false from Bool.eq_false_iff.mpr (fun e => h3 (Nat.eq_of_beq_eq_true e))]
        rfl
  · rw [if_neg c, if_neg c]
theorem gx_goes (hY : mv_mY G a) (hi : mv_iX a) (h5 : G 100 0 5 = 0 ∨ G 100 0 5 = 1) (hb : G 100 0 5 = 0 → mv_bkM G a) (p : Nat) (hp : p < mv_P a) : mv_Kp (ff_X12_goes [.inr (100, 0), .inl p] G) (fun _ G' => st_ma G a G' (st_ga a p)) := by
  obtain ⟨hP, hPe⟩ := mv_P_le hi.1
  have b1 := hi.1.1
  refine mv_Kp.of (mv_JP.of (rg_X12_goes_0 p G) (mv_J.ce (gx_inchOf hY.1 hi.1 p (by omega)) (mv_J.cn (gx_notes hY.1.1.2.2.1 h5 hb (by omega) p 2 (a 3 p)) (fun _ G1 h1 => ?_))))
  have hY1 := hY.w (p := p) (w := 2) (x := a 3 p) h1.2
  rw [mv_ws (x := 2 + (p : Int)) (by omega), show Int.toNat (2 + (p : Int)) = 2 + p by omega]
  refine mv_J.ck (by omega) (mv_J.ret ?_)
  have s3 : ∀ q, st_wr a p 2 (a 3 p) 3 q = a 3 q := fun q => by rw [st_wr_o (by decide) (by decide)]
  rw [← st_ga_e]
  refine ⟨hY1.s (fun q hq => ?_) (fun j h1 h2 => by rw [mv_up_j (by omega)]) (fun k hk => mv_up_k hk), h1.1.tr (by rw [h1.2.cell 100 rfl]) (st_bp.rf (mv_up_k (by decide)) (mv_up_j (by omega)) rfl ⟨rfl, rfl, rfl, rfl⟩), ?_, mv_ch.uc (h1.2.mono rfl rfl) rfl⟩
  · rw [mv_up_at]
    show _ = (if q = p then -1 else a 3 q) + 1
    by_cases e : q = p
    · rw [if_pos (by omega), if_pos e]; rfl
    · rw [if_neg (by omega), if_neg e, hY1.1.2.2.2.1 q hq, s3]
  · unfold st_mS
    rw [mv_up_k (by decide), h1.2.cell 100 rfl]
set_option maxHeartbeats 1000000 in
theorem gx_begs (hY : mv_mY G a) (hi : mv_iX a) (h5 : G 100 0 5 = 0 ∨ G 100 0 5 = 1) (hb : G 100 0 5 = 0 → mv_bkM G a) (p : Nat) (hp : p < mv_P a) (h0 : a 3 p = -1) : mv_Kp (ff_X12_begs [.inr (100, 0), .inl p] G) (fun v G' => v = (st_ba a p).1 ∧ st_ma G a G' (st_ba a p).2) := by
  obtain ⟨hP, hPe⟩ := mv_P_le hi.1
  have b1 := hi.1.1
  refine mv_Kp.of (mv_JP.of (rg_X12_begs_0 p G) (mv_J.ce (gx_everyone hY.1) (mv_J.cn (gx_findsRoom hY.1 hi.1 hY.2.2.1 hi.2.2.1 (by omega) h0 _) (fun v G2 h2 => ?_))))
  rw [mv_all_ev hi.1] at h2
  obtain ⟨h2, cF, c2⟩ := h2
  have h2 : v = mv_b (mv_bd a p ≠ none) := h2
  have cF : mv_mF G2 a (mv_all a).1 (mv_all a).2 p (mv_bd a p) := cF
  subst h2
  have hY2 := hY.cg c2 (by decide) (by decide)
  have f2 : st_fm G G2 := c2.mono rfl rfl
  have n2 : st_mS G2 = st_mS G := by unfold st_mS; rw [c2.slot 100 51 rfl, c2.slot 100 52 rfl]
  have p2 : st_bp G a G2 a := st_bp.rf (c2.cell 110 rfl) (by rw [c2.cell 101 rfl]) rfl ⟨rfl, rfl, rfl, rfl⟩
  have e5 : G2 100 0 5 = G 100 0 5 := f2.slot 100 5 rfl
  cases hbd : mv_bd a p with
  | none =>
    have eb : st_ba a p = (-1, st_wr a p 4 (-1)) := by unfold st_ba; rw [hbd]
    rw [eb]
    refine mv_J.t (mv_b0 (fun h => h rfl)) (mv_J.t rfl (mv_J.cn (gx_notes hY2.1.1.2.2.1 (by rw [e5]; exact h5) (fun e => p2.1 (e5.symm.trans e) (hb (e5.symm.trans e))) (by omega) p 4 (-1)) (fun _ G3 h3 => mv_J.ret ⟨rfl, hY2.w h3.2, p2.tr e5 h3.1, ?_, f2.tr (h3.2.mono rfl rfl)⟩)))
    rw [← n2]; unfold st_mS; rw [h3.2.cell 100 rfl]
  | some u =>
    rw [hbd] at cF
    obtain ⟨l1, l2, l3, l4⟩ := mv_bs_l hi.1 hp h0 hbd
    have eb : st_ba a p = (mv_bs a p u.2 p, st_wr (st_bs a p u.2) p 3 (mv_bs a p u.2 p)) := by unfold st_ba; rw [hbd]
    rw [eb]
    obtain ⟨m46, -, m128, m131⟩ := cF
    have off : ∀ q, ¬ (q < mv_P a ∧ (q = p ∨ a 3 q ≠ -1)) → mv_bs a p u.2 q = a 3 q := fun q h => if_neg h
    have iB4 := st_bs_i hi.1 hp h0 hbd
    refine mv_J.f (by rw [mv_b1 (fun h => by cases h)]; decide) (mv_J.cut ?_)
    have hn : (mv_all a).1 ≤ 9 := mv_all_le hi.1 (by omega) h0
    have key : ∀ k i : Nat, i + k = (mv_all a).1 + 1 → ∀ G3 : mv_G, (∀ k2, k2 ≠ 101 → G3 k2 = G2 k2) → (∀ j, j < 2 ∨ 12 ≤ j → G3 101 0 j = G2 101 0 j) → (∀ q, q < 10 → ((∃ i2, i2 < i ∧ mv_itg (mv_all a).2 p u.2 i2 = q) → G3 101 0 (2 + q) = mv_bs a p u.2 q + 1) ∧ (¬ (∃ i2, i2 < i ∧ mv_itg (mv_all a).2 p u.2 i2 = q) → G3 101 0 (2 + q) = a 3 q + 1)) → (∀ b c d, b ≠ 101 ∨ c ≠ 0 → G3 b c d = G2 b c d) → mv_JP mm_X12_begs (fun v G' => v = mv_bs a p u.2 p ∧ st_ma G a G' (st_wr (st_bs a p u.2) p 3 (mv_bs a p u.2 p))) 16 [some (.inr (100, 0)), some (.inl (p : Int)), none, some (.inl (i : Int))] G3 := by
      intro k
      induction k with
      | zero =>
        intro i hik G3 hk ho hs hx
        have hY3 : mv_mY G3 (st_bs a p u.2) := hY2.s (fun q hq => by
          by_cases c : ∃ i2, i2 < i ∧ mv_itg (mv_all a).2 p u.2 i2 = q
          · exact (hs q hq).1 c
          · rw [(hs q hq).2 c, off q (fun h => c ?_)]
            obtain ⟨i2, j1, j2, -⟩ := l1 q h.1 h.2
            exact ⟨i2, by omega, j2⟩) (fun j h1 h2 => ho j h1) hk
        have e53 : G3 100 0 5 = G 100 0 5 := by rw [hk 100 (by decide)]; exact e5
        have p3 : st_bp G a G3 (st_bs a p u.2) := p2.tr e5 (st_bp.rf (hk 110 (by decide)) (ho 1 (by omega)) rfl ⟨rfl, rfl, rfl, rfl⟩)
        have bsp : mv_bs a p u.2 p ≠ -1 := by
          obtain ⟨i2, j1, j2, j3⟩ := l1 p hp (Or.inl rfl)
          rw [j3]; omega
        refine mv_JP.of (rg_X12_begs_16 _ _ G3) ?_
        rw [hk 100 (by decide), m46]
        refine mv_J.t (by omega) (mv_J.ce (gx_inchOf hY3.1 iB4 p (by omega)) ?_)
        have ev : st_bs a p u.2 3 p = mv_bs a p u.2 p := rfl
        rw [ev]
        refine mv_J.f bsp (mv_J.cn (gx_notes hY3.1.1.2.2.1 (by rw [e53]; exact h5) (fun e => p3.1 (e53.symm.trans e) (hb (e53.symm.trans e))) (by have := iB4.1; omega) p 3 (mv_bs a p u.2 p)) (fun _ G4 h4 => mv_J.ret ⟨rfl, hY3.w h4.2, p3.tr e53 h4.1, ?_, ?_⟩))
        · rw [← n2]; unfold st_mS; rw [h4.2.cell 100 rfl, hk 100 (by decide)]
        · refine f2.tr ?_
          intro k2 i2 j2 g1 g2
          have g3 : k2 ≠ 101 := fun h => by subst h; revert g1; decide
          have g4 : k2 ≠ 110 := fun h => by subst h; revert g1; decide
          rw [h4.2.cell k2 (by simp; omega), hk k2 g3]
      | succ k ih =>
        intro i hik G3 hk ho hs hx
        have hil : i < (mv_all a).1 + 1 := by omega
        obtain ⟨⟨q1, q2⟩, q3⟩ := l4 i hil
        have w2 := l2 i hil
        have t := hi.1.2.2.2.2.1 (mv_itg (mv_all a).2 p u.2 i) (by omega)
        have tk : mv_tk a (mv_itg (mv_all a).2 p u.2 i) = a 4 (mv_itg (mv_all a).2 p u.2 i) + a 6 (mv_itg (mv_all a).2 p u.2 i) := rfl
        refine mv_JP.of (rg_X12_begs_16 _ _ G3) ?_
        rw [hk 100 (by decide), hk 128 (by decide), hk 131 (by decide), m46, Int.toNat_natCast, m128 i hil, m131 i hil, ← q3, mv_ws (x := (i : Int) + 1) (by omega), mv_ws (x := mv_bs a p u.2 (mv_itg (mv_all a).2 p u.2 i) + 1) (by omega), mv_ws (x := 2 + ((mv_itg (mv_all a).2 p u.2 i : Nat) : Int)) (by omega), show Int.toNat (2 + ((mv_itg (mv_all a).2 p u.2 i : Nat) : Int)) = 2 + mv_itg (mv_all a).2 p u.2 i by omega]
        refine mv_J.f (by omega) (mv_J.ck (by omega) (mv_J.ck (by omega) (mv_J.ck (by omega) (mv_J.cut ?_))))
        refine ih (i + 1) (by omega) _ (fun k2 h => by rw [mv_up_k h]; exact hk k2 h) (fun j hj => by rw [mv_up_j (by omega)]; exact ho j hj) (fun q hq => ⟨fun h => ?_, fun h => ?_⟩) (fun b c d h => ?_)
        · rw [mv_up_at]
          by_cases e : q = mv_itg (mv_all a).2 p u.2 i
          · rw [if_pos (by omega), e]
          · rw [if_neg (by omega)]
            obtain ⟨i2, j1, j2⟩ := h
            refine (hs q hq).1 ⟨i2, ?_, j2⟩
            by_cases e2 : i2 = i
            · subst e2; exact absurd j2.symm e
            · omega
        · rw [mv_up_at]
          have e : q ≠ mv_itg (mv_all a).2 p u.2 i := fun e => h ⟨i, by omega, e.symm⟩
          rw [if_neg (by omega)]
          exact (hs q hq).2 (fun ⟨i2, j1, j2⟩ => h ⟨i2, by omega, j2⟩)
        · rcases h with h | h
          · rw [mv_up_k h]; exact hx b c d (Or.inl h)
          · by_cases e : b = 101
            · subst e
              rw [mv_up_i h]; exact hx 101 c d (Or.inr h)
            · rw [mv_up_k e]; exact hx b c d (Or.inl e)
    have := key ((mv_all a).1 + 1) 0 (Nat.zero_add _) G2 (fun _ _ => rfl) (fun _ _ => rfl) (fun q hq => ⟨fun ⟨i2, h, _⟩ => absurd h (Nat.not_lt_zero i2), fun _ => hY2.1.2.2.2.1 q hq⟩) (fun _ _ _ _ => rfl)
    exact this
end MA
