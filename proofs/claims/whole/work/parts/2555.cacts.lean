/-! The acts, the class. -/
def st_wr (a : mv_a) (p w x : Int) : mv_a := if a 0 3 < 150 then st_s1 (st_set (st_set (st_set (st_set a 9 (mv_sp (a 9) (a 0 3).toNat (a 0 2))) 10 (mv_sp (a 10) (a 0 3).toNat p)) 11 (mv_sp (a 11) (a 0 3).toNat w)) 12 (mv_sp (a 12) (a 0 3).toNat x)) 3 (a 0 3 + 1) else a
theorem st_wr_o {a : mv_a} {p w x : Int} {o : Nat} (h0 : o ≠ 0) (h : o < 9 ∨ 12 < o) : st_wr a p w x o = a o := by
  unfold st_wr
  split
  · rw [st_s1_o h0, st_set_o (by omega), st_set_o (by omega), st_set_o (by omega), st_set_o (by omega)]
  · rfl
theorem st_wr_0 {a : mv_a} {p w x : Int} {j : Nat} (h : j ≠ 3) : st_wr a p w x 0 j = a 0 j := by
  unfold st_wr
  split
  · rw [st_s1_j h, st_set_o (by decide), st_set_o (by decide), st_set_o (by decide), st_set_o (by decide)]
  · rfl
theorem st_wr_3 {a : mv_a} {p w x : Int} (h : 0 ≤ a 0 3 ∧ a 0 3 ≤ 150) : a 0 3 ≤ st_wr a p w x 0 3 ∧ 0 ≤ st_wr a p w x 0 3 ∧ st_wr a p w x 0 3 ≤ 150 := by
  unfold st_wr
  split
  · rw [st_s1_0]; omega
  · omega
theorem st_wr_i {a : mv_a} {p w x : Int} (h : mv_iB a) : mv_iB (st_wr a p w x) := by
  have l := st_wr_3 (p := p) (w := w) (x := x) (show 0 ≤ a 0 3 ∧ a 0 3 ≤ 150 by have := h.1; omega)
  obtain ⟨i1, i2, i3, i4, i5, i6, i7⟩ := h
  unfold mv_iB
  rw [st_wr_0 (by decide), st_wr_0 (by decide), st_wr_0 (by decide), st_wr_o (o := 1) (by decide) (by decide), st_wr_o (o := 2) (by decide) (by decide), st_wr_o (o := 3) (by decide) (by decide), st_wr_o (o := 4) (by decide) (by decide), st_wr_o (o := 5) (by decide) (by decide), st_wr_o (o := 6) (by decide) (by decide), st_wr_o (o := 7) (by decide) (by decide), st_wr_o (o := 8) (by decide) (by decide)]
  exact ⟨by omega, i2, i3, i4, i5, i6, i7⟩
section CA
variable {G G2 : mv_G} {a : mv_a}
set_option maxRecDepth 100000 in
theorem fx_write (hb : mv_bkC G a) (hh : G 1 0 2 = a 0 2) (hl : 0 ≤ a 0 3 ∧ a 0 3 ≤ 150) (p w x : Int) : mv_Kp (ff_X2_write [.inr (1, 0), .inl p, .inl w, .inl x] G) (fun _ G' => mv_bkC G' (st_wr a p w x) ∧ mv_ch [7] [(1, 3)] G G') := by
  obtain ⟨h3, h4⟩ := hb
  obtain ⟨L, hL⟩ : ∃ L : Nat, a 0 3 = L := ⟨(a 0 3).toNat, by omega⟩
  rw [hL] at h3
  have u1 : ∀ {G3 : mv_G} {i j : Nat} {v : Int}, (mv_up G3 7 i j v) 1 = G3 1 := mv_up_k (by decide)
  refine mv_Kp.of (mv_JP.of (rg_X2_write_0 p w x G) ?_)
  repeat rw [u1]
  rw [h3, hh, Int.toNat_natCast]
  unfold st_wr
  refine mv_J.i (fun h => ?_) (fun h => mv_J.ret ⟨?_, mv_ch.rf⟩)
  · rw [if_pos (by omega), mv_ws (by omega)]
    refine mv_J.ck (by decide) (mv_J.ck (by omega) (mv_J.ck (by decide) (mv_J.ck (by omega) (mv_J.ck (by decide) (mv_J.ck (by omega) (mv_J.ck (by decide) (mv_J.ck (by omega) (mv_J.ret ⟨⟨?_, fun i hi => ?_⟩, ((((mv_ch.rf.uc rfl).uc rfl).uc rfl).uc rfl).up rfl⟩))))))))
    · rw [mv_ups_eq, st_s1_0, hL]
    · rw [st_s1_0] at hi
      rw [hL, Int.toNat_natCast, mv_up_k (by decide), mv_up_i (show (1 : Nat) ≠ 4 by decide), mv_up_i (show (1 : Nat) ≠ 3 by decide), mv_up_i (show (1 : Nat) ≠ 2 by decide), mv_up_i (show (2 : Nat) ≠ 4 by decide), mv_up_i (show (2 : Nat) ≠ 3 by decide), mv_up_i (show (3 : Nat) ≠ 4 by decide), mv_up_at, mv_up_at, mv_up_at, mv_up_at, mv_up_i (show (2 : Nat) ≠ 1 by decide), mv_up_i (show (3 : Nat) ≠ 2 by decide), mv_up_i (show (3 : Nat) ≠ 1 by decide), mv_up_i (show (4 : Nat) ≠ 3 by decide), mv_up_i (show (4 : Nat) ≠ 2 by decide), mv_up_i (show (4 : Nat) ≠ 1 by decide)]
      show _ = mv_sp (a 9) L (a 0 2) i ∧ _ = mv_sp (a 10) L p i ∧ _ = mv_sp (a 11) L w i ∧ _ = mv_sp (a 12) L x i
      unfold mv_sp
      by_cases e : i = L
      · rw [if_pos e, if_pos e, if_pos e, if_pos e, if_pos e, if_pos e, if_pos e, if_pos e]; exact ⟨rfl, rfl, rfl, rfl⟩
      · rw [if_neg e, if_neg e, if_neg e, if_neg e, if_neg e, if_neg e, if_neg e, if_neg e]
        exact h4 i (by omega)
  · rw [if_neg (by omega)]
    exact ⟨h3.trans hL.symm, h4⟩
theorem mv_cX.s {f : Nat → Int} (h : mv_cX G a) (h6 : G2 6 0 = f) (hk : ∀ k, k ∈ mv_cXl → k ≠ 6 → G2 k = G k) : mv_cX G2 (st_set a 3 f) := by
  obtain ⟨⟨b1, b2, b3, b4, b5, b6, b7, b8, b9, b10⟩, l1, l2, bk, dy⟩ := h
  unfold mv_cL at l1 l2
  unfold mv_bkC at bk
  unfold mv_dyC at dy
  refine ⟨⟨?_, ?_, ?_, h6, ?_, ?_, ?_, ?_, ?_, ?_⟩, ?_, ?_, ?_, ?_⟩
  · rw [hk 1 (by decide) (by decide)]; exact b1
  · rw [hk 2 (by decide) (by decide)]; exact b2
  · rw [hk 4 (by decide) (by decide)]; exact b3
  · rw [hk 5 (by decide) (by decide)]; exact b5
  · rw [hk 5 (by decide) (by decide)]; exact b6
  · rw [hk 5 (by decide) (by decide)]; exact b7
  · rw [hk 5 (by decide) (by decide)]; exact b8
  · rw [hk 5 (by decide) (by decide)]; exact b9
  · rw [hk 3 (by decide) (by decide)]; exact b10
  · unfold mv_cL
    rw [hk 8 (by decide) (by decide), hk (8 + 1) (by decide) (by decide), hk (8 + 2) (by decide) (by decide), hk (8 + 3) (by decide) (by decide), hk (8 + 4) (by decide) (by decide)]
    exact l1
  · unfold mv_cL
    rw [hk 14 (by decide) (by decide), hk (14 + 1) (by decide) (by decide), hk (14 + 2) (by decide) (by decide), hk (14 + 3) (by decide) (by decide), hk (14 + 4) (by decide) (by decide)]
    exact l2
  · unfold mv_bkC
    rw [hk 1 (by decide) (by decide), hk 7 (by decide) (by decide)]
    exact bk
  · unfold mv_dyC
    rw [hk 20 (by decide) (by decide), hk 21 (by decide) (by decide), hk 22 (by decide) (by decide), hk 23 (by decide) (by decide)]
    exact dy
theorem mv_cX.w {p w x : Int} (h : mv_cX G a) (hb : mv_bkC G2 (st_wr a p w x)) (hc : mv_ch [7] [(1, 3)] G G2) : mv_cX G2 (st_wr a p w x) := by
  obtain ⟨⟨b1, b2, b3, b4, b5, b6, b7, b8, b9, b10⟩, l1, l2, bk, dy⟩ := h
  have hk : ∀ k, k ≠ 7 → k ≠ 1 → G2 k = G k := fun k h1 h2 => hc.cell k (by simp; omega)
  unfold mv_cL at l1 l2
  unfold mv_dyC at dy
  refine ⟨⟨?_, ?_, ?_, ?_, ?_, ?_, ?_, ?_, ?_, ?_⟩, ?_, ?_, hb, ?_⟩
  · rw [hc.slot 1 0 rfl, hc.slot 1 1 rfl, hc.slot 1 2 rfl, st_wr_0 (by decide), st_wr_0 (by decide), st_wr_0 (by decide)]; exact b1
  · rw [hk 2 (by decide) (by decide), st_wr_o (by decide) (by decide)]; exact b2
  · rw [hk 4 (by decide) (by decide), st_wr_o (by decide) (by decide)]; exact b3
  · rw [hk 6 (by decide) (by decide), st_wr_o (by decide) (by decide)]; exact b4
  · rw [hk 5 (by decide) (by decide), st_wr_o (by decide) (by decide)]; exact b5
  · rw [hk 5 (by decide) (by decide), st_wr_o (by decide) (by decide)]; exact b6
  · rw [hk 5 (by decide) (by decide), st_wr_o (by decide) (by decide)]; exact b7
  · rw [hk 5 (by decide) (by decide), st_wr_o (by decide) (by decide)]; exact b8
  · rw [hk 5 (by decide) (by decide), st_wr_o (by decide) (by decide)]; exact b9
  · rw [hk 3 (by decide) (by decide), st_wr_0 (by decide), st_wr_o (by decide) (by decide)]; exact b10
  · unfold mv_cL
    rw [hk 8 (by decide) (by decide), hk (8 + 1) (by decide) (by decide), hk (8 + 2) (by decide) (by decide), hk (8 + 3) (by decide) (by decide), hk (8 + 4) (by decide) (by decide), st_wr_o (o := 17) (by decide) (by decide), st_wr_o (o := 17 + 1) (by decide) (by decide), st_wr_o (o := 17 + 2) (by decide) (by decide), st_wr_o (o := 17 + 3) (by decide) (by decide), st_wr_o (o := 17 + 4) (by decide) (by decide)]
    exact l1
  · unfold mv_cL
    rw [hk 14 (by decide) (by decide), hk (14 + 1) (by decide) (by decide), hk (14 + 2) (by decide) (by decide), hk (14 + 3) (by decide) (by decide), hk (14 + 4) (by decide) (by decide), st_wr_o (o := 22) (by decide) (by decide), st_wr_o (o := 22 + 1) (by decide) (by decide), st_wr_o (o := 22 + 2) (by decide) (by decide), st_wr_o (o := 22 + 3) (by decide) (by decide), st_wr_o (o := 22 + 4) (by decide) (by decide)]
    exact l2
  · unfold mv_dyC
    rw [hk 20 (by decide) (by decide), hk 21 (by decide) (by decide), hk 22 (by decide) (by decide), hk 23 (by decide) (by decide), st_wr_0 (by decide), st_wr_o (o := 13) (by decide) (by decide), st_wr_o (o := 14) (by decide) (by decide), st_wr_o (o := 15) (by decide) (by decide)]
    exact dy
/-- those who stand are counted -/
def st_sd (x h : Int) (c : Int × Int) : Int × Int := if x = -1 then (mv_w (c.1 + 1), if c.2 = -1 then h else c.2) else c
def st_cS (G : mv_G) : Int × Int := (G 90 0 0, G 90 0 1)
/-- the frame of an act -/
def st_fa (G G2 : mv_G) : Prop := mv_ch [6, 7, 13, 19, 67, 68, 69, 70, 71, 73, 75, 76, 77, 78, 79, 80] [(1, 3), (66, 0), (66, 6), (66, 7), (66, 8), (66, 9), (74, 8), (90, 0), (90, 1)] G G2
theorem fx_countStanding (h : Int) (hh : G 1 0 2 = h) : mv_Kp (ff_X0_countStanding [.inr (90, 0)] G) (fun _ G' => st_cS G' = st_sd (-1) h (st_cS G) ∧ mv_ch [] [(90, 0), (90, 1)] G G') := by
  refine mv_Kp.of (mv_JP.of (rg_X0_countStanding_0 G) ?_)
  rw [mv_up_j (show (1 : Nat) ≠ 0 by decide), mv_up_k (show (1 : Nat) ≠ 90 by decide), hh]
  have e : st_sd (-1) h (st_cS G) = (mv_w (G 90 0 0 + 1), if G 90 0 1 = -1 then h else G 90 0 1) := if_pos rfl
  rw [e]
  refine mv_J.i (fun c => mv_J.ret ⟨?_, (mv_ch.rf.up rfl).up rfl⟩) (fun c => mv_J.ret ⟨?_, mv_ch.rf.up rfl⟩)
  · unfold st_cS
    rw [mv_ups_eq, mv_up_j (by decide), mv_ups_eq, if_pos c]
  · unfold st_cS
    rw [mv_ups_eq, mv_up_j (by decide), if_neg c]
noncomputable def st_ca (a : mv_a) (p : Nat) : mv_a := st_wr (st_cs a p) p (if mv_cm a p = -1 then 1 else 0) (mv_cm a p)
def st_ga (a : mv_a) (p : Nat) : mv_a := st_wr (st_gs a p) p 2 (a 3 p)
theorem fx_comes (hX : mv_cX G a) (hi : mv_iX a) (p : Nat) (hp : p < mv_P a) (h0 : a 3 p = -1) : mv_Kp (ff_X0_comes [.inr (90, 0), .inl p] G) (fun v G' => v = mv_cm a p ∧ mv_cX G' (st_ca a p) ∧ st_cS G' = st_sd (mv_cm a p) (a 0 2) (st_cS G) ∧ st_fa G G') := by
  obtain ⟨hP, hPe⟩ := mv_P_le hi.1
  have b1 := hi.1.1
  refine mv_Kp.of (mv_JP.of (rg_X0_comes_0 p G) (mv_J.ce (fx_isAside hX.1 hi.1 p) (mv_J.bt (fun h => absurd ⟨by omega, by omega, by rw [Int.toNat_natCast]; exact h0⟩ h) (fun _ => ?_))))
  refine mv_J.cn (fx_gather hX.1 hi.1 1023) (fun _ G1 h1 => ?_)
  have hX1 : mv_cX G1 a := hX.cg (fun k hk => h1.2.cell k (by
    have : ∀ k ∈ mv_cXl, (([67, 68, 69, 70, 71] : List Nat).contains k || ([(66, 0)] : List (Nat × Nat)).any fun q => q.1 == k) = false := by decide
    exact this k hk))
  refine mv_J.cn (fx_askFor hX1.1 hi.1 p (by omega)) (fun _ G2 h2 => ?_)
  have hX2 : mv_cX G2 a := hX1.cg (fun k hk => h2.2.cell k (by
    have : ∀ k ∈ mv_cXl, (([] : List Nat).contains k || ([(66, 6), (66, 7), (66, 8), (66, 9)] : List (Nat × Nat)).any fun q => q.1 == k) = false := by decide
    exact this k hk))
  have hR1 : mv_cR G1 (mv_all a).1 (mv_all a).2 := h1.1
  refine mv_J.cn (fx_best hX2.1 hi.1 (hR1.ch h2.2 (by decide) rfl) h2.1 (mv_all_ok hi.1) (mv_ask_ok hi.1 p (by omega)) hX2.2.1 hi.2.1) (fun v G3 h3 => ?_)
  obtain ⟨h3, c3⟩ := h3
  have h3 : v = mv_cm a p := h3
  subst h3
  have hX3 : mv_cX G3 a := hX2.cg (fun k hk => c3.cell k (by
    have : ∀ k ∈ mv_cXl, (([73, 13] : List Nat).contains k || ([] : List (Nat × Nat)).any fun q => q.1 == k) = false := by decide
    exact this k hk))
  have f3 : st_fa G G3 := ((h1.2.mono rfl rfl).tr (h2.2.mono rfl rfl)).tr (c3.mono rfl rfl)
  have n3 : st_cS G3 = st_cS G := by unfold st_cS; rw [c3.cell 90 rfl, h2.2.cell 90 rfl, h1.2.cell 90 rfl]
  have hX4 : mv_cX (mv_up G3 6 0 p (mv_cm a p)) (st_cs a p) := hX3.s (funext fun j => by rw [mv_up_at, hX3.1.2.2.2.1]; rfl) (fun k hk h6 => mv_up_k h6)
  have f4 : st_fa G (mv_up G3 6 0 p (mv_cm a p)) := f3.uc rfl
  have n4 : st_cS (mv_up G3 6 0 p (mv_cm a p)) = st_cS G := by rw [← n3]; unfold st_cS; rw [mv_up_k (by decide)]
  have i4 : mv_iB (st_cs a p) := st_cs_i hi.1 hp h0
  rw [Int.toNat_natCast]
  generalize mv_up G3 6 0 p (mv_cm a p) = G4 at hX4 f4 n4
  refine mv_J.ck (by omega) (mv_J.i (fun c => ?_) (fun c => ?_))
  · refine mv_J.cn (fx_write hX4.2.2.2.1 hX4.1.1.2.2.1 (by have := i4.1; omega) p 1 (mv_cm a p)) (fun _ G5 h5 => mv_J.t c ?_)
    have hX5 := hX4.w h5.1 h5.2
    have f5 : st_fa G G5 := f4.tr (h5.2.mono rfl rfl)
    refine mv_J.cn (fx_countStanding (a 0 2) (by rw [h5.2.slot 1 2 rfl]; exact hX4.1.1.2.2.1)) (fun _ G6 h6 => mv_J.ret ⟨rfl, ?_, ?_, f5.tr (h6.2.mono rfl rfl)⟩)
    · have : mv_cX G6 (st_wr (st_cs a p) p 1 (mv_cm a p)) := hX5.cg (fun k hk => h6.2.cell k (by
        have : ∀ k ∈ mv_cXl, (([] : List Nat).contains k || ([(90, 0), (90, 1)] : List (Nat × Nat)).any fun q => q.1 == k) = false := by decide
        exact this k hk))
      unfold st_ca
      rw [if_pos c]
      exact this
    · rw [h6.1, c, ← n4]
      congr 1
      unfold st_cS
      rw [h5.2.cell 90 rfl]
  · refine mv_J.cn (fx_write hX4.2.2.2.1 hX4.1.1.2.2.1 (by have := i4.1; omega) p 0 (mv_cm a p)) (fun _ G5 h5 => mv_J.f c (mv_J.ret ⟨rfl, ?_, ?_, f4.tr (h5.2.mono rfl rfl)⟩))
    · unfold st_ca
      rw [if_neg c]
      exact hX4.w h5.1 h5.2
    · unfold st_sd
      rw [if_neg c, ← n4]
      unfold st_cS
      rw [h5.2.cell 90 rfl]
theorem fx_goes (hX : mv_cX G a) (hi : mv_iX a) (p : Nat) (hp : p < mv_P a) (h0 : a 3 p ≠ -1) : mv_Kp (ff_X0_goes [.inr (90, 0), .inl p] G) (fun _ G' => mv_cX G' (st_ga a p) ∧ st_cS G' = st_cS G ∧ st_fa G G') := by
  obtain ⟨hP, hPe⟩ := mv_P_le hi.1
  have b1 := hi.1.1
  refine mv_Kp.of (mv_JP.of (rg_X0_goes_0 p G) (mv_J.ce (fx_isSeated hX.1 hi.1 p) (mv_J.bt (fun h => absurd ⟨by omega, by omega, by rw [Int.toNat_natCast]; exact h0⟩ h) (fun _ => mv_J.ck (by omega) ?_))))
  rw [Int.toNat_natCast, hX.1.2.2.2.1]
  refine mv_J.cn (fx_write hX.2.2.2.1 hX.1.1.2.2.1 (by omega) p 2 (a 3 p)) (fun _ G5 h5 => mv_J.ck (by omega) (mv_J.ret ⟨?_, ?_, mv_ch.uc (h5.2.mono rfl rfl) rfl⟩))
  · have hX5 := hX.w h5.1 h5.2
    have hX6 : mv_cX (mv_up G5 6 0 p (-1)) (st_set (st_wr a p 2 (a 3 p)) 3 (mv_sp (a 3) p (-1))) := hX5.s (funext fun j => by
      rw [mv_up_at, hX5.1.2.2.2.1, st_wr_o (by decide) (by decide)]; rfl) (fun k hk h6 => mv_up_k h6)
    have e : st_set (st_wr a p 2 (a 3 p)) 3 (mv_sp (a 3) p (-1)) = st_ga a p := by
      unfold st_ga st_gs st_wr
      have e3 : st_set a 3 (mv_sp (a 3) p (-1)) 0 3 = a 0 3 := rfl
      rw [e3]
      by_cases c : a 0 3 < 150
      · rw [if_pos c, if_pos c]
        refine funext fun o => ?_
        by_cases h3 : o = 3
        · subst h3; rfl
        · by_cases h9 : o = 0
          · subst h9; rfl
          · rw [st_set_o h3, st_s1_o h9, st_s1_o h9]
            unfold st_set
            cases Nat.beq o 12 <;> cases Nat.beq o 11 <;> cases Nat.beq o 10 <;> cases Nat.beq o 9 <;> try rfl
            show a o = bif Nat.beq o 3 then _ else a o
            rw [show Nat.beq o 3 = false from Bool.eq_false_iff.mpr (fun e => h3 (Nat.eq_of_beq_eq_true e))]
            rfl
      · rw [if_neg c, if_neg c]
    rw [← e]
    exact hX6
  · unfold st_cS
    rw [mv_up_k (by decide), h5.2.cell 90 rfl]
noncomputable def st_ba (a : mv_a) (p : Nat) : Int × mv_a := match mv_bd a p with
  | none => (-1, st_wr a p 4 (-1))
  | some u => (mv_bs a p u.2 p, st_wr (st_bs a p u.2) p 3 (mv_bs a p u.2 p))
theorem fx_begs (hX : mv_cX G a) (hi : mv_iX a) (p : Nat) (hp : p < mv_P a) (h0 : a 3 p = -1) : mv_Kp (ff_X0_begs [.inr (90, 0), .inl p] G) (fun v G' => v = (st_ba a p).1 ∧ mv_cX G' (st_ba a p).2 ∧ st_cS G' = st_sd (st_ba a p).1 (a 0 2) (st_cS G) ∧ st_fa G G') := by
  obtain ⟨hP, hPe⟩ := mv_P_le hi.1
  have b1 := hi.1.1
  refine mv_Kp.of (mv_JP.of (rg_X0_begs_0 p G) (mv_J.ce (fx_isAside hX.1 hi.1 p) (mv_J.bt (fun h => absurd ⟨by omega, by omega, by rw [Int.toNat_natCast]; exact h0⟩ h) (fun _ => ?_))))
  refine mv_J.cn (fx_reckonCosts hX.1 hi.1 hX.2.2.1 hi.2.2.1) (fun _ G1 h1 => ?_)
  have hX1 : mv_cX G1 a := hX.cg (fun k hk => h1.2.cell k (by
    have : ∀ k ∈ mv_cXl, (([76, 77, 19] : List Nat).contains k || ([] : List (Nat × Nat)).any fun q => q.1 == k) = false := by decide
    exact this k hk))
  refine mv_J.cn (fx_find hX1.1 hi.1 h1.1 (by omega) h0 1023) (fun v G2 h2 => ?_)
  obtain ⟨h2, cF, c2⟩ := h2
  have hX2 : mv_cX G2 a := hX1.cg (fun k hk => c2.cell k (by
    have : ∀ k ∈ mv_cXl, (([67, 68, 69, 70, 71, 75, 78, 79, 80] : List Nat).contains k || ([(66, 0), (74, 8)] : List (Nat × Nat)).any fun q => q.1 == k) = false := by decide
    exact this k hk))
  have f2 : st_fa G G2 := (h1.2.mono rfl rfl).tr (c2.mono rfl rfl)
  have n2 : st_cS G2 = st_cS G := by unfold st_cS; rw [c2.cell 90 rfl, h1.2.cell 90 rfl]
  have h2 : v = mv_b (mv_bd a p ≠ none) := h2
  have cF : mv_cF G2 a (mv_all a).1 (mv_all a).2 p (mv_bd a p) := cF
  subst h2
  cases hbd : mv_bd a p with
  | none =>
    have eb : st_ba a p = (-1, st_wr a p 4 (-1)) := by unfold st_ba; rw [hbd]
    rw [eb]
    refine mv_J.t (mv_b0 (fun h => h rfl)) (mv_J.cn (fx_write hX2.2.2.2.1 hX2.1.1.2.2.1 (by omega) p 4 (-1)) (fun _ G3 h3 => ?_))
    have hX3 := hX2.w h3.1 h3.2
    refine mv_J.cn (fx_countStanding (a 0 2) (by rw [h3.2.slot 1 2 rfl]; exact hX2.1.1.2.2.1)) (fun _ G4 h4 => mv_J.ret ⟨rfl, ?_, ?_, (f2.tr (h3.2.mono rfl rfl)).tr (h4.2.mono rfl rfl)⟩)
    · exact hX3.cg (fun k hk => h4.2.cell k (by
        have : ∀ k ∈ mv_cXl, (([] : List Nat).contains k || ([(90, 0), (90, 1)] : List (Nat × Nat)).any fun q => q.1 == k) = false := by decide
        exact this k hk))
    · rw [h4.1, ← n2]
      congr 1
      unfold st_cS
      rw [h3.2.cell 90 rfl]
  | some u =>
    rw [hbd] at cF
    obtain ⟨l1, l2, l3, l4⟩ := mv_bs_l hi.1 hp h0 hbd
    have eb : st_ba a p = (mv_bs a p u.2 p, st_wr (st_bs a p u.2) p 3 (mv_bs a p u.2 p)) := by unfold st_ba; rw [hbd]
    rw [eb]
    have e75 : ∀ q, q < mv_P a → (q = p ∨ a 3 q ≠ -1) → G2 75 0 q = mv_bs a p u.2 q := fun q hq h => by
      obtain ⟨i, i1, i2, i3⟩ := l1 q hq h
      have := cF.2 i i1
      rw [i2] at this
      rw [i3]
      exact this
    have off : ∀ q, ¬ (q < mv_P a ∧ (q = p ∨ a 3 q ≠ -1)) → mv_bs a p u.2 q = a 3 q := fun q h => if_neg h
    refine mv_J.f (by rw [mv_b1 (fun h => by cases h)]; decide) (mv_J.cut ?_)
    have iB4 := st_bs_i hi.1 hp h0 hbd
    have key : ∀ k q : Nat, q + k = mv_P a → ∀ G3 : mv_G, (∀ k2, k2 ≠ 6 → G3 k2 = G2 k2) → (∀ r, G3 6 0 r = if r < q then mv_bs a p u.2 r else a 3 r) → mv_JP mm_X0_begs (fun v G' => v = mv_bs a p u.2 p ∧ mv_cX G' (st_wr (st_bs a p u.2) p 3 (mv_bs a p u.2 p)) ∧ st_cS G' = st_sd (mv_bs a p u.2 p) (a 0 2) (st_cS G) ∧ st_fa G G') 52 [some (.inr (90, 0)), some (.inl (p : Int)), some (.inl (q : Int))] G3 := by
      intro k
      induction k with
      | zero =>
        intro q hq G3 hk h6
        refine mv_JP.of (rg_X0_begs_52 _ _ G3) ?_
        rw [hk 1 (by decide), hX2.1.1.2.1, Int.toNat_natCast]
        have e6 : G3 6 0 = mv_bs a p u.2 := funext fun r => by
          rw [h6 r]
          by_cases c : r < q
          · rw [if_pos c]
          · rw [if_neg c, off r (fun h => by omega)]
        have hX3 : mv_cX G3 (st_bs a p u.2) := hX2.s e6 (fun k2 _ h => hk k2 h)
        rw [e6]
        refine mv_J.f (by omega) (mv_J.ck (by omega) (mv_J.cn (fx_write hX3.2.2.2.1 hX3.1.1.2.2.1 (by have := iB4.1; omega) p 3 (mv_bs a p u.2 p)) (fun _ G4 h4 => mv_J.ck (by omega) (mv_J.ret ⟨?_, hX3.w h4.1 h4.2, ?_, ?_⟩))))
        · rw [h4.2.cell 6 rfl, e6, Int.toNat_natCast]
        · obtain ⟨i, i1, i2, i3⟩ := l1 p hp (Or.inl rfl)
          unfold st_sd
          rw [if_neg (by rw [i3]; omega), ← n2]
          unfold st_cS
          rw [h4.2.cell 90 rfl, hk 90 (by decide)]
        · refine f2.tr ?_
          intro k2 i j g1 g2
          have e1 : G4 k2 i j = G3 k2 i j := h4.2 k2 i j (by
            cases hc : ([7] : List Nat).contains k2 with
            | false => rfl
            | true => have : k2 = 7 := by simpa using hc
                      subst this; revert g1; decide) (by
            cases hc : ([(1, 3)] : List (Nat × Nat)).contains (k2, j) with
            | false => rfl
            | true => have : k2 = 1 ∧ j = 3 := by simpa using hc
                      obtain ⟨rfl, rfl⟩ := this; revert g2; decide)
          rw [e1, hk k2 (fun h => by subst h; revert g1; decide)]
      | succ k ih =>
        intro q hq G3 hk h6
        have nx := ih (q + 1) (by omega)
        have put : (q = p ∨ a 3 q ≠ -1) → mv_JP mm_X0_begs (fun v G' => v = mv_bs a p u.2 p ∧ mv_cX G' (st_wr (st_bs a p u.2) p 3 (mv_bs a p u.2 p)) ∧ st_cS G' = st_sd (mv_bs a p u.2 p) (a 0 2) (st_cS G) ∧ st_fa G G') 52 [some (.inr (90, 0)), some (.inl (p : Int)), some (.inl ((q : Int) + 1))] (mv_up G3 6 0 q (G3 75 0 q)) := fun h => by
          refine nx _ (fun k2 h2 => by rw [mv_up_k h2]; exact hk k2 h2) (fun r => ?_)
          rw [mv_up_at, hk 75 (by decide), e75 q (by omega) h, h6 r]
          by_cases e : r = q
          · rw [if_pos e, if_pos (by omega), e]
          · rw [if_neg e]
            by_cases c : r < q
            · rw [if_pos c, if_pos (by omega)]
            · rw [if_neg c, if_neg (by omega)]
        refine mv_JP.of (rg_X0_begs_52 _ _ G3) ?_
        rw [hk 1 (by decide), hX2.1.1.2.1, Int.toNat_natCast, mv_ws (x := (q : Int) + 1) (by omega)]
        refine mv_J.t (by omega) (mv_J.i (fun h => mv_J.ck (by omega) (mv_J.ck (by omega) (mv_J.cut (put (Or.inl (by omega)))))) (fun h => ?_))
        -- does he sit: his place is the old one yet
        have sit : ff_X2_isSeated [.inr (1, 0), .inl (q : Int)] G3 = some (mv_b (a 3 q ≠ -1), G3) := by
          have per : ff_X2_isPerson [.inr (1, 0), .inl (q : Int)] G3 = some (1, G3) := by
            refine mv_Kp.eq (mv_Kp.of (mv_JP.of (rg_X2_isPerson_0 q G3) ?_))
            rw [hk 1 (by decide), hX2.1.1.2.1]
            exact mv_J.f (by omega) (mv_J.t (by omega) (mv_J.t (by omega) (mv_J.r0 (Or.inr rfl) ⟨rfl, rfl⟩)))
          refine mv_Kp.eq (mv_Kp.of (mv_JP.of (rg_X2_isSeated_0 q G3) (mv_J.ce per (mv_J.f (by decide) (mv_J.ck (by omega) ?_)))))
          rw [Int.toNat_natCast, h6 q, if_neg (Nat.lt_irrefl q)]
          exact mv_J.i (fun h2 => mv_J.r0 (Or.inl rfl) ⟨(mv_b0 (fun h3 => h3 h2)).symm, rfl⟩) (fun h2 => mv_J.r0 (Or.inr rfl) ⟨(mv_b1 h2).symm, rfl⟩)
        refine mv_J.ce sit (mv_J.bt (fun h2 => mv_J.cut ?_) (fun h2 => mv_J.ck (by omega) (mv_J.ck (by omega) (mv_J.cut (put (Or.inr h2))))))
        refine nx G3 hk (fun r => ?_)
        rw [h6 r]
        by_cases e : r = q
        · subst e
          rw [if_neg (Nat.lt_irrefl r), if_pos (Nat.lt_succ_self r), off r (fun h3 => h3.2.elim (fun h4 => h (by omega)) h2)]
        · by_cases c : r < q
          · rw [if_pos c, if_pos (by omega)]
          · rw [if_neg c, if_neg (by omega)]
    have := key (mv_P a) 0 (Nat.zero_add _) G2 (fun _ _ => rfl) (fun r => by rw [if_neg (Nat.not_lt_zero r), hX2.1.2.2.2.1])
    exact this
end CA
