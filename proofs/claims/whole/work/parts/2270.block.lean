/-! BLOCK and GIVES, both sides. -/
/-- what the most come to beside the asker at x -/
noncomputable def mv_bm (a : mv_a) (p w k x : Nat) : Int := mv_tal 1 w k a ((mv_all a).1 + 1) (mv_ins (mv_all a).1 (mv_all a).2 (mv_e5 (x : Int) ((x : Int) + a 4 p + a 6 p) (a 5 p) (a 7 p) (-1))) ((mv_all a).1 + 1 + 1) 0
def mv_ppl (a : mv_a) (p x : Nat) : Prop := mv_pl a (mv_all a).1 (mv_all a).2 (a 4 p) (a 5 p) (a 6 p) (a 7 p) x
noncomputable def mv_bk (a : mv_a) (p w k : Nat) : Nat → Int × Int
  | 0 => (-1, -1)
  | x + 1 => @ite _ (mv_ppl a p x ∧ ((mv_bk a p w k x).1 = -1 ∨ mv_bm a p w k x < (mv_bk a p w k x).2)) (Classical.propDecidable _) ((x : Int), mv_bm a p w k x) (mv_bk a p w k x)
noncomputable def mv_blo (a : mv_a) (p w k : Int) : Int := @ite _ ((0 ≤ p ∧ p < a 0 1 ∧ a 3 p.toNat = -1) ∧ mv_alk w k) (Classical.propDecidable _) (mv_bk a p.toNat w.toNat k.toNat (a 0 0).toNat).1 (-1)
noncomputable def mv_gm (a : mv_a) (w k p : Nat) : Int := mv_tal 1 w k a (mv_but a p).1 (mv_but a p).2 ((mv_but a p).1 + 1) 0
noncomputable def mv_ggv (a : mv_a) (w k : Nat) : Nat → Int × Int
  | 0 => (-1, -1)
  | p + 1 => if a 3 p = -1 then mv_ggv a w k p else if (mv_ggv a w k p).1 = -1 ∨ (mv_ggv a w k p).2 < mv_gm a w k p then ((p : Int), mv_gm a w k p) else mv_ggv a w k p
noncomputable def mv_giv (a : mv_a) (w k : Int) : Int := @ite _ (mv_alk w k) (Classical.propDecidable _) (mv_ggv a w.toNat k.toNat (a 0 1).toNat).1 (-1)
theorem mv_ggv_n {a : mv_a} {w k : Nat} : ∀ p, (mv_ggv a w k p).1 = -1 → (mv_ggv a w k p).2 = -1
  | 0, _ => rfl
  | p + 1, h => by
    unfold mv_ggv at h ⊢
    by_cases h1 : a 3 p = -1
    · rw [if_pos h1] at h ⊢
      exact mv_ggv_n p h
    · rw [if_neg h1] at h ⊢
      split at h
      · have h : (p : Int) = -1 := h
        omega
      · next h2 => rw [if_neg h2]; exact mv_ggv_n p h
theorem mv_tal_b {a : mv_a} {n : Nat} {r : mv_a} {w k : Nat} {what : Int} (hi : mv_iB a) (hr : mv_rok (a 0 0) n r) (hw : 1 ≤ w) (hk : k ≤ 15) (q : Nat) : 0 ≤ mv_tal what w k a n r q 0 ∧ mv_tal what w k a n r q 0 ≤ q * 60000 := by
  have b1 := hi.1
  exact mv_sm_b (g := fun gp => mv_Tw what w k (fun x => mv_clr a x w) (mv_gf k r gp).toNat (mv_gt (a 0 0) n k r gp)) (B := 60000) q 0 (fun x _ _ => mv_Tw_b hw (by have := mv_gt_b (k := k) (gp := x) hr (by omega); omega))
section BG
variable {G : mv_G} {a : mv_a}
theorem mv_all_le {p : Nat} (hi : mv_iB a) (hp : (p : Int) < a 0 1) (h0 : a 3 p = -1) : (mv_all a).1 ≤ 9 := by
  have b1 := hi.1
  have hle := mv_gat_le2 (s := 1023) h0 (a 0 1).toNat
  rw [if_pos (by omega)] at hle
  unfold mv_all
  omega
theorem mv_but_ok (hi : mv_iB a) (p : Nat) : mv_rok (a 0 0) (mv_but a p).1 (mv_but a p).2 := mv_gat_ok hi _ (by have := hi.1; omega)
theorem mv_but_10 (hi : mv_iB a) (p : Nat) : (mv_but a p).1 ≤ 10 := by
  have b1 := hi.1
  have := mv_gat_le (a := a) (s := mv_sb p) (a 0 1).toNat
  unfold mv_but
  omega
set_option maxHeartbeats 1000000 in
theorem fx_block (hB : mv_cB G a) (hi : mv_iB a) (p w k : Int) : mv_Kp (ff_X11_block [.inr (0, 0), .inl p, .inl w, .inl k] G) (fun v G' => v = mv_blo a p w k ∧ mv_ch [67, 68, 69, 70, 71, 83, 84, 85] [(66, 0), (66, 6), (66, 7), (66, 8), (66, 9), (81, 6), (81, 7)] G G') := by
  have b1 := hi.1
  obtain ⟨P, hP⟩ : ∃ P : Int → mv_G → Prop, P = (fun v G' => v = mv_blo a p w k ∧ mv_ch [67, 68, 69, 70, 71, 83, 84, 85] [(66, 0), (66, 6), (66, 7), (66, 8), (66, 9), (81, 6), (81, 7)] G G') := ⟨_, rfl⟩
  rw [← hP]
  have dead : ∀ G1, ¬ ((0 ≤ p ∧ p < a 0 1 ∧ a 3 p.toNat = -1) ∧ mv_alk w k) → mv_ch [67, 68, 69, 70, 71, 83, 84, 85] [(66, 0), (66, 6), (66, 7), (66, 8), (66, 9), (81, 6), (81, 7)] G G1 → mv_J mm_X11_block P (some (.inl (-1, G1))) := fun G1 h1 h2 => by
    refine mv_J.ret ?_
    rw [hP]
    exact ⟨(if_neg h1).symm, h2⟩
  refine mv_Kp.of (mv_JP.of (rg_X11_block_0 p w k G) (mv_J.ce (fx_allowed _ _ _) (mv_J.bt (fun h1 => dead _ (fun h => h1 ((mv_alw_0 w).mpr h.2.1)) mv_ch.rf) (fun h1 => mv_J.ce (fx_allowed _ _ _) (mv_J.bt (fun h2 => dead _ (fun h => h2 ((mv_alw_1 k).mpr h.2.2)) mv_ch.rf) (fun h2 => mv_J.ce (fx_isAside hB hi p) (mv_J.bt (fun h3 => dead _ (fun h => h3 h.1) mv_ch.rf) (fun h3 => ?_))))))))
  have hwk : mv_alk w k := ⟨(mv_alw_0 w).mp h1, (mv_alw_1 k).mp h2⟩
  have er : mv_blo a p w k = (mv_bk a p.toNat w.toNat k.toNat (a 0 0).toNat).1 := if_pos ⟨h3, hwk⟩
  obtain ⟨⟨w1, w2⟩, k1, k2⟩ := id hwk
  obtain ⟨u, rfl⟩ : ∃ u : Nat, p = u := ⟨p.toNat, by omega⟩
  obtain ⟨x, rfl⟩ : ∃ x : Nat, w = x := ⟨w.toNat, by omega⟩
  obtain ⟨y, rfl⟩ : ∃ y : Nat, k = y := ⟨k.toNat, by omega⟩
  rw [Int.toNat_natCast, Int.toNat_natCast, Int.toNat_natCast] at er
  rw [Int.toNat_natCast] at h3
  have hle := mv_all_le hi h3.2.1 h3.2.2
  have ha := mv_ask_ok hi u h3.2.1
  refine mv_J.cn (fx_ofAlike G x y (by omega)) (fun v G1 h7 => mv_J.cut ?_)
  obtain ⟨e6, e7, c1⟩ := h7
  have key : ∀ (q i : Nat) (G2 : mv_G), (i : Int) + q = a 0 0 → mv_ch [67, 68, 69, 70, 71, 83, 84, 85] [(66, 0), (66, 6), (66, 7), (66, 8), (66, 9), (81, 6), (81, 7)] G G2 → G2 81 0 6 = x → G2 81 0 7 = y → mv_JP mm_X11_block P 47 [some (.inr (0, 0)), some (.inl (u : Int)), none, none, some (.inl (mv_bk a u x y i).1), some (.inl (mv_bk a u x y i).2), some (.inl (i : Int)), none] G2 := by
    intro q
    induction q with
    | zero =>
      intro i G2 hq hc e6 e7
      have hB2 := hB.ch hc (by decide)
      refine mv_JP.of (rg_X11_block_47 _ _ _ _ G2) ?_
      rw [hB2.1.1]
      refine mv_J.f (by omega) (mv_J.ret ?_)
      rw [hP]
      exact ⟨by rw [er, show (a 0 0).toNat = i by omega], hc⟩
    | succ q ih =>
      intro i G2 hq hc e6 e7
      have hB2 := hB.ch hc (by decide)
      refine mv_JP.of (rg_X11_block_47 _ _ _ _ G2) ?_
      rw [hB2.1.1, mv_ws (x := (i : Int) + 1) (by omega)]
      have nx := fun G3 hc e6 e7 => ih (i + 1) G3 (by omega) hc e6 e7
      refine mv_J.t (by omega) (mv_J.cn (fx_gather hB2 hi 1023) (fun v G3 h4 => ?_))
      have hB3 := hB2.ch h4.2 (by decide)
      refine mv_J.cn (fx_askFor hB3 hi u h3.2.1) (fun v G4 h5 => ?_)
      have hB4 := hB3.ch h5.2 (by decide)
      have hR4 : mv_cR G4 (mv_all a).1 (mv_all a).2 := mv_cR.ch h4.1 h5.2 (by decide) rfl
      have c4 : mv_ch [67, 68, 69, 70, 71, 83, 84, 85] [(66, 0), (66, 6), (66, 7), (66, 8), (66, 9), (81, 6), (81, 7)] G G4 := (hc.tr (h4.2.mono rfl rfl)).tr (h5.2.mono rfl rfl)
      have e64 : G4 81 0 6 = x := by rw [h5.2.cell 81 rfl, h4.2.cell 81 rfl]; exact e6
      have e74 : G4 81 0 7 = y := by rw [h5.2.cell 81 rfl, h4.2.cell 81 rfl]; exact e7
      refine mv_J.ce (fx_isPlace hB4 hi hR4 h5.1 (mv_all_ok hi) ha i) (mv_J.bt (fun h6 => mv_J.cut ?_) (fun h6 => ?_))
      · have est : mv_bk a u x y (i + 1) = mv_bk a u x y i := if_neg (fun h => h6 h.1)
        rw [est] at nx
        exact nx G4 c4 e64 e74
      · have hs := fx_seatAsker (i : Int) (by omega) hR4 (by rw [h5.1.1, h5.1.2.2.1]; have := ha.1; have := ha.2.2.1; omega)
        rw [h5.1.1, h5.1.2.1, h5.1.2.2.1, h5.1.2.2.2] at hs
        refine mv_J.cn hs (fun v G5 h7 => ?_)
        have hB5 := hB4.ch h7.2 (by decide)
        have e65 : G5 81 0 6 = x := by rw [h7.2.cell 81 rfl]; exact e64
        have e75 : G5 81 0 7 = y := by rw [h7.2.cell 81 rfl]; exact e74
        refine mv_J.cn (fx_total hB5 hi h7.1 (mv_pl_ins hi (mv_all_ok hi) ha h6 (-1)).2 e65 e75 (by omega) (by omega) 1) (fun v G6 h8 => ?_)
        obtain ⟨h8, c6⟩ := h8
        have h8 : v = mv_bm a u x y i := h8
        subst h8
        have c6' := (c4.tr (h7.2.mono rfl rfl)).tr (c6.mono (S2 := [67, 68, 69, 70, 71, 83, 84, 85]) (T2 := [(66, 0), (66, 6), (66, 7), (66, 8), (66, 9), (81, 6), (81, 7)]) rfl rfl)
        have nx := nx G6 c6' (by rw [c6.cell 81 rfl]; exact e65) (by rw [c6.cell 81 rfl]; exact e75)
        have take : ((mv_bk a u x y i).1 = -1 ∨ mv_bm a u x y i < (mv_bk a u x y i).2) → mv_bk a u x y (i + 1) = ((i : Int), mv_bm a u x y i) := fun h => if_pos ⟨h6, h⟩
        have keep : ¬ ((mv_bk a u x y i).1 = -1 ∨ mv_bm a u x y i < (mv_bk a u x y i).2) → mv_bk a u x y (i + 1) = mv_bk a u x y i := fun h => if_neg (fun h2 => h h2.2)
        refine mv_J.i (fun h9 => mv_J.cut ?_) (fun h9 => mv_J.i (fun h10 => mv_J.cut ?_) (fun h10 => mv_J.cut ?_))
        · rw [take (Or.inl h9)] at nx; exact nx
        · rw [take (Or.inr h10)] at nx; exact nx
        · rw [keep (fun h => h.elim h9 h10)] at nx; exact nx
  have := key (a 0 0).toNat 0 G1 (by omega) (c1.mono rfl rfl) e6 e7
  exact this
set_option maxHeartbeats 1000000 in
theorem gx_block (hB : mv_mB G a) (hi : mv_iB a) (p w k : Int) : mv_Kp (ff_X12_block [.inr (100, 0), .inl p, .inl w, .inl k] G) (fun v G' => v = mv_blo a p w k ∧ mv_ch [123, 124, 125, 126, 127, 132, 133, 134] [(100, 0), (100, 46), (100, 47), (100, 48), (100, 49), (100, 50), (100, 61), (100, 62), (100, 63)] G G') := by
  have b1 := hi.1
  obtain ⟨P, hP⟩ : ∃ P : Int → mv_G → Prop, P = (fun v G' => v = mv_blo a p w k ∧ mv_ch [123, 124, 125, 126, 127, 132, 133, 134] [(100, 0), (100, 46), (100, 47), (100, 48), (100, 49), (100, 50), (100, 61), (100, 62), (100, 63)] G G') := ⟨_, rfl⟩
  rw [← hP]
  have c0 : mv_ch [123, 124, 125, 126, 127, 132, 133, 134] [(100, 0), (100, 46), (100, 47), (100, 48), (100, 49), (100, 50), (100, 61), (100, 62), (100, 63)] G (mv_up G 100 0 0 0) := mv_ch.rf.up rfl
  refine mv_Kp.of (mv_JP.of (rg_X12_block_0 p w k G) ?_)
  generalize mv_up G 100 0 0 0 = G0 at c0
  have hB0 := hB.ch c0 (by decide) rfl rfl
  have dead : ∀ G1, ¬ ((0 ≤ p ∧ p < a 0 1 ∧ a 3 p.toNat = -1) ∧ mv_alk w k) → mv_ch [123, 124, 125, 126, 127, 132, 133, 134] [(100, 0), (100, 46), (100, 47), (100, 48), (100, 49), (100, 50), (100, 61), (100, 62), (100, 63)] G G1 → mv_J mm_X12_block P (some (.inl (-1, G1))) := fun G1 h1 h2 => by
    refine mv_J.ret ?_
    rw [hP]
    exact ⟨(if_neg h1).symm, h2⟩
  refine mv_J.ce (gx_isAside hB0 hi p) (mv_J.bt (fun h3 => dead _ (fun h => h3 h.1) c0) (fun h3 => mv_J.ce (gx_areAlike _ _ _) (mv_J.bt (fun h1 => dead _ (fun h => h1 h.2) c0) (fun hwk => ?_))))
  have er : mv_blo a p w k = (mv_bk a p.toNat w.toNat k.toNat (a 0 0).toNat).1 := if_pos ⟨h3, hwk⟩
  obtain ⟨⟨w1, w2⟩, k1, k2⟩ := id hwk
  obtain ⟨u, rfl⟩ : ∃ u : Nat, p = u := ⟨p.toNat, by omega⟩
  obtain ⟨x, rfl⟩ : ∃ x : Nat, w = x := ⟨w.toNat, by omega⟩
  obtain ⟨y, rfl⟩ : ∃ y : Nat, k = y := ⟨k.toNat, by omega⟩
  rw [Int.toNat_natCast, Int.toNat_natCast, Int.toNat_natCast] at er
  rw [Int.toNat_natCast] at h3
  have hle := mv_all_le hi h3.2.1 h3.2.2
  have ha := mv_ask_ok hi u h3.2.1
  have tku : mv_tk a u = a 4 u + a 6 u := rfl
  refine mv_J.cn (gx_findsStretches hB0 hi (by omega) (by omega)) (fun v G1 h7 => mv_J.cut ?_)
  obtain ⟨hS, c1⟩ := h7
  have key : ∀ (q i : Nat) (G2 : mv_G), (i : Int) + q = a 0 0 → mv_ch [123, 124, 125, 126, 127, 132, 133, 134] [(100, 0), (100, 46), (100, 47), (100, 48), (100, 49), (100, 50), (100, 61), (100, 62), (100, 63)] G G2 → mv_sA G2 x y a → mv_JP mm_X12_block P 41 [some (.inr (100, 0)), some (.inl (u : Int)), none, some (.inl (y : Int)), some (.inl (mv_bk a u x y i).1), some (.inl (mv_r6 (mv_bk a u x y i))), some (.inl (i : Int))] G2 := by
    intro q
    induction q with
    | zero =>
      intro i G2 hq hc hS2
      have hB2 := hB.ch hc (by decide) rfl rfl
      refine mv_JP.of (rg_X12_block_41 _ _ _ _ _ G2) (mv_J.ce (gx_length hB2 hi) (mv_J.f (by omega) (mv_J.ret ?_)))
      rw [hP]
      exact ⟨by rw [er, show (a 0 0).toNat = i by omega], hc⟩
    | succ q ih =>
      intro i G2 hq hc hS2
      have hB2 := hB.ch hc (by decide) rfl rfl
      refine mv_JP.of (rg_X12_block_41 _ _ _ _ _ G2) (mv_J.ce (gx_length hB2 hi) ?_)
      rw [mv_ws (x := (i : Int) + 1) (by omega)]
      have nx := fun G3 hc h => ih (i + 1) G3 (by omega) hc h
      refine mv_J.t (by omega) (mv_J.ce (gx_everyone hB2) (mv_J.cn (gx_lists hB2 hi _) (fun v G3 h4 => ?_)))
      rw [mv_all_ev hi] at h4
      have hB3 := hB2.ch h4.2 (by decide) rfl rfl
      refine mv_J.cn (gx_asksFor hB3 u (by omega)) (fun v G4 h5 => ?_)
      have hB4 := hB3.ch h5.2 (by decide) rfl rfl
      have hR4 : mv_mR G4 (mv_all a).1 (mv_all a).2 := mv_mR.ch h4.1 h5.2 (by decide) rfl
      have c4 : mv_ch [123, 124, 125, 126, 127, 132, 133, 134] [(100, 0), (100, 46), (100, 47), (100, 48), (100, 49), (100, 50), (100, 61), (100, 62), (100, 63)] G G4 := (hc.tr (h4.2.mono rfl rfl)).tr (h5.2.mono rfl rfl)
      have hS4 := (hS2.ch h4.2 rfl).ch h5.2 rfl
      refine mv_J.ce (gx_canSit hB4 hi hR4 h5.1 (mv_all_ok hi) ha i) (mv_J.bt (fun h6 => mv_J.cut ?_) (fun h6 => mv_J.ce (gx_takesOf hB4 hi u h3.2.1) (mv_J.ck (by omega) (mv_J.ck (by omega) ?_))))
      · have est : mv_bk a u x y (i + 1) = mv_bk a u x y i := if_neg (fun h => h6 h.1)
        rw [est] at nx
        exact nx G4 c4 hS4
      · have pb := mv_pl_b h6
        have ha1 := ha.1
        have ha3 := ha.2.2.1
        rw [Int.toNat_natCast, hB4.2.2.2.2.2.1 u (by omega), hB4.2.2.2.2.2.2.2.1 u (by omega), mv_ws (x := (i : Int) + mv_tk a u) (by omega)]
        refine mv_J.cn (gx_seats (u : Int) (i : Int) ((i : Int) + mv_tk a u) (a 5 u) (a 7 u) (by omega) hR4) (fun v G5 h7 => ?_)
        have hB5 := hB4.ch h7.2 (by decide) rfl rfl
        have hro := (mv_pl_ins hi (mv_all_ok hi) ha h6 (u : Int)).2
        rw [show (i : Int) + a 4 u + a 6 u = (i : Int) + mv_tk a u by omega] at hro
        refine mv_J.cn (gx_fills hB5 hi h7.1 hro (by omega) (by omega) (hS4.ch h7.2 rfl)) (fun v G6 h8 => ?_)
        obtain ⟨⟨f0, f1, f2⟩, c6⟩ := h8
        have em : mv_tal 1 x y a ((mv_all a).1 + 1) (mv_ins (mv_all a).1 (mv_all a).2 (mv_e5 (i : Int) ((i : Int) + mv_tk a u) (a 5 u) (a 7 u) (u : Int))) ((mv_all a).1 + 1 + 1) 0 = mv_bm a u x y i := by
          unfold mv_bm
          rw [show (i : Int) + a 4 u + a 6 u = (i : Int) + mv_tk a u by omega]
          rfl
        rw [em] at f1
        have bt := mv_tal_b (what := 1) hi hro (show 1 ≤ x by omega) (show y ≤ 15 by omega) ((mv_all a).1 + 1 + 1)
        rw [em] at bt
        rw [f1]
        have c6' := (c4.tr (h7.2.mono rfl rfl)).tr (c6.mono (S2 := [123, 124, 125, 126, 127, 132, 133, 134]) (T2 := [(100, 0), (100, 46), (100, 47), (100, 48), (100, 49), (100, 50), (100, 61), (100, 62), (100, 63)]) rfl rfl)
        have nx := nx G6 c6' ((hS4.ch h7.2 rfl).ch c6 rfl)
        have take : ((mv_bk a u x y i).1 = -1 ∨ mv_bm a u x y i < (mv_bk a u x y i).2) → mv_bk a u x y (i + 1) = ((i : Int), mv_bm a u x y i) := fun h => if_pos ⟨h6, h⟩
        have keep : ¬ ((mv_bk a u x y i).1 = -1 ∨ mv_bm a u x y i < (mv_bk a u x y i).2) → mv_bk a u x y (i + 1) = mv_bk a u x y i := fun h => if_neg (fun h2 => h h2.2)
        have ni : ¬ (i : Int) = -1 := by omega
        refine mv_J.i (fun h9 => mv_J.t h9 (mv_J.cut ?_)) (fun h9 => mv_J.f h9 (mv_J.cut ?_))
        · have hor : (mv_bk a u x y i).1 = -1 ∨ mv_bm a u x y i < (mv_bk a u x y i).2 := by
            by_cases h10 : (mv_bk a u x y i).1 = -1
            · exact Or.inl h10
            · unfold mv_r6 at h9; rw [if_neg h10] at h9; exact Or.inr h9
          rw [take hor, show mv_r6 ((i : Int), mv_bm a u x y i) = mv_bm a u x y i from if_neg ni] at nx
          exact nx
        · have hno : ¬ ((mv_bk a u x y i).1 = -1 ∨ mv_bm a u x y i < (mv_bk a u x y i).2) := by
            intro hor
            by_cases h10 : (mv_bk a u x y i).1 = -1
            · unfold mv_r6 at h9; rw [if_pos h10] at h9; omega
            · unfold mv_r6 at h9; rw [if_neg h10] at h9; exact hor.elim h10 h9
          rw [keep hno] at nx
          exact nx
  have := key (a 0 0).toNat 0 G1 (by omega) (c0.tr (c1.mono rfl rfl)) hS
  exact this
set_option maxHeartbeats 1000000 in
theorem fx_gives (hB : mv_cB G a) (hi : mv_iB a) (w k : Int) : mv_Kp (ff_X11_gives [.inr (0, 0), .inl w, .inl k] G) (fun v G' => v = mv_giv a w k ∧ mv_ch [67, 68, 69, 70, 71, 83, 84, 85] [(66, 0), (81, 6), (81, 7)] G G') := by
  have b1 := hi.1
  obtain ⟨P, hP⟩ : ∃ P : Int → mv_G → Prop, P = (fun v G' => v = mv_giv a w k ∧ mv_ch [67, 68, 69, 70, 71, 83, 84, 85] [(66, 0), (81, 6), (81, 7)] G G') := ⟨_, rfl⟩
  rw [← hP]
  have dead : ∀ G1, ¬ mv_alk w k → mv_ch [67, 68, 69, 70, 71, 83, 84, 85] [(66, 0), (81, 6), (81, 7)] G G1 → mv_J mm_X11_gives P (some (.inl (-1, G1))) := fun G1 h1 h2 => by
    refine mv_J.ret ?_
    rw [hP]
    exact ⟨(if_neg h1).symm, h2⟩
  refine mv_Kp.of (mv_JP.of (rg_X11_gives_0 w k G) (mv_J.ce (fx_allowed _ _ _) (mv_J.bt (fun h1 => dead _ (fun h => h1 ((mv_alw_0 w).mpr h.1)) mv_ch.rf) (fun h1 => mv_J.ce (fx_allowed _ _ _) (mv_J.bt (fun h2 => dead _ (fun h => h2 ((mv_alw_1 k).mpr h.2)) mv_ch.rf) (fun h2 => ?_))))))
  have hwk : mv_alk w k := ⟨(mv_alw_0 w).mp h1, (mv_alw_1 k).mp h2⟩
  have er : mv_giv a w k = (mv_ggv a w.toNat k.toNat (a 0 1).toNat).1 := if_pos hwk
  obtain ⟨⟨w1, w2⟩, k1, k2⟩ := id hwk
  obtain ⟨x, rfl⟩ : ∃ x : Nat, w = x := ⟨w.toNat, by omega⟩
  obtain ⟨y, rfl⟩ : ∃ y : Nat, k = y := ⟨k.toNat, by omega⟩
  rw [Int.toNat_natCast, Int.toNat_natCast] at er
  refine mv_J.cn (fx_ofAlike G x y (by omega)) (fun v G1 h7 => mv_J.cut ?_)
  obtain ⟨e6, e7, c1⟩ := h7
  have key : ∀ (q i : Nat) (G2 : mv_G), i + q = (a 0 1).toNat → mv_ch [67, 68, 69, 70, 71, 83, 84, 85] [(66, 0), (81, 6), (81, 7)] G G2 → G2 81 0 6 = x → G2 81 0 7 = y → mv_JP mm_X11_gives P 35 [some (.inr (0, 0)), none, none, some (.inl (mv_ggv a x y i).1), some (.inl (mv_ggv a x y i).2), some (.inl (i : Int)), none] G2 := by
    intro q
    induction q with
    | zero =>
      intro i G2 hq hc e6 e7
      have hB2 := hB.ch hc (by decide)
      refine mv_JP.of (rg_X11_gives_35 _ _ _ G2) ?_
      rw [hB2.1.2.1]
      refine mv_J.f (by omega) (mv_J.ret ?_)
      rw [hP]
      exact ⟨by rw [er, show (a 0 1).toNat = i by omega], hc⟩
    | succ q ih =>
      intro i G2 hq hc e6 e7
      have hB2 := hB.ch hc (by decide)
      refine mv_JP.of (rg_X11_gives_35 _ _ _ G2) ?_
      rw [hB2.1.2.1, mv_ws (x := (i : Int) + 1) (by omega)]
      have nx := fun G3 hc e6 e7 => ih (i + 1) G3 (by omega) hc e6 e7
      have est : mv_ggv a x y (i + 1) = if a 3 i = -1 then mv_ggv a x y i else if (mv_ggv a x y i).1 = -1 ∨ (mv_ggv a x y i).2 < mv_gm a x y i then ((i : Int), mv_gm a x y i) else mv_ggv a x y i := rfl
      rw [est] at nx
      clear est
      refine mv_J.t (by omega) (mv_J.ce (fx_isSeated hB2 hi i) (mv_J.bt (fun h3 => mv_J.cut ?_) (fun h3 => mv_J.cn (fx_gather hB2 hi _) (fun v G3 h4 => ?_))))
      · have hs : a 3 i = -1 := Classical.byContradiction fun h8 => h3 ⟨by omega, by omega, by rw [Int.toNat_natCast]; exact h8⟩
        rw [if_pos hs] at nx
        exact nx G2 hc e6 e7
      · have hs := h3.2.2
        rw [Int.toNat_natCast] at hs
        rw [if_neg hs] at nx
        have hR3 : mv_cR G3 (mv_but a i).1 (mv_but a i).2 := h4.1
        have hB3 := hB2.ch h4.2 (by decide)
        have e63 : G3 81 0 6 = x := by rw [h4.2.cell 81 rfl]; exact e6
        have e73 : G3 81 0 7 = y := by rw [h4.2.cell 81 rfl]; exact e7
        refine mv_J.cn (fx_total hB3 hi hR3 (mv_but_ok hi i) e63 e73 (by omega) (by omega) 1) (fun v G4 h8 => ?_)
        obtain ⟨h8, c4⟩ := h8
        have h8 : v = mv_gm a x y i := h8
        subst h8
        have nx := nx G4 ((hc.tr (h4.2.mono rfl rfl)).tr (c4.mono rfl rfl)) (by rw [c4.cell 81 rfl]; exact e63) (by rw [c4.cell 81 rfl]; exact e73)
        refine mv_J.i (fun h9 => mv_J.cut ?_) (fun h9 => mv_J.i (fun h10 => mv_J.cut ?_) (fun h10 => mv_J.cut ?_))
        · rw [if_pos (Or.inl h9)] at nx; exact nx
        · rw [if_pos (Or.inr h10)] at nx; exact nx
        · rw [if_neg (fun h => h.elim h9 h10)] at nx; exact nx
  have := key (a 0 1).toNat 0 G1 (by omega) (c1.mono rfl rfl) e6 e7
  exact this
set_option maxHeartbeats 1000000 in
theorem gx_gives (hB : mv_mB G a) (hi : mv_iB a) (w k : Int) : mv_Kp (ff_X12_gives [.inr (100, 0), .inl w, .inl k] G) (fun v G' => v = mv_giv a w k ∧ mv_ch [123, 124, 125, 126, 127, 132, 133, 134] [(100, 0), (100, 46), (100, 61), (100, 62), (100, 63)] G G') := by
  have b1 := hi.1
  obtain ⟨P, hP⟩ : ∃ P : Int → mv_G → Prop, P = (fun v G' => v = mv_giv a w k ∧ mv_ch [123, 124, 125, 126, 127, 132, 133, 134] [(100, 0), (100, 46), (100, 61), (100, 62), (100, 63)] G G') := ⟨_, rfl⟩
  rw [← hP]
  have c0 : mv_ch [123, 124, 125, 126, 127, 132, 133, 134] [(100, 0), (100, 46), (100, 61), (100, 62), (100, 63)] G (mv_up G 100 0 0 0) := mv_ch.rf.up rfl
  refine mv_Kp.of (mv_JP.of (rg_X12_gives_0 w k G) ?_)
  generalize mv_up G 100 0 0 0 = G0 at c0
  have hB0 := hB.ch c0 (by decide) rfl rfl
  have dead : ∀ G1, ¬ mv_alk w k → mv_ch [123, 124, 125, 126, 127, 132, 133, 134] [(100, 0), (100, 46), (100, 61), (100, 62), (100, 63)] G G1 → mv_J mm_X12_gives P (some (.inl (-1, G1))) := fun G1 h1 h2 => by
    refine mv_J.ret ?_
    rw [hP]
    exact ⟨(if_neg h1).symm, h2⟩
  refine mv_J.ce (gx_areAlike _ _ _) (mv_J.bt (fun h1 => dead _ h1 c0) (fun hwk => ?_))
  have er : mv_giv a w k = (mv_ggv a w.toNat k.toNat (a 0 1).toNat).1 := if_pos hwk
  obtain ⟨⟨w1, w2⟩, k1, k2⟩ := id hwk
  obtain ⟨x, rfl⟩ : ∃ x : Nat, w = x := ⟨w.toNat, by omega⟩
  obtain ⟨y, rfl⟩ : ∃ y : Nat, k = y := ⟨k.toNat, by omega⟩
  rw [Int.toNat_natCast, Int.toNat_natCast] at er
  refine mv_J.cn (gx_findsStretches hB0 hi (by omega) (by omega)) (fun v G1 h7 => mv_J.cut ?_)
  obtain ⟨hS, c1⟩ := h7
  have key : ∀ (q i : Nat) (G2 : mv_G), i + q = (a 0 1).toNat → mv_ch [123, 124, 125, 126, 127, 132, 133, 134] [(100, 0), (100, 46), (100, 61), (100, 62), (100, 63)] G G2 → mv_sA G2 x y a → mv_JP mm_X12_gives P 30 [some (.inr (100, 0)), none, some (.inl (y : Int)), some (.inl (mv_ggv a x y i).1), some (.inl (mv_ggv a x y i).2), some (.inl (i : Int))] G2 := by
    intro q
    induction q with
    | zero =>
      intro i G2 hq hc hS2
      have hB2 := hB.ch hc (by decide) rfl rfl
      refine mv_JP.of (rg_X12_gives_30 _ _ _ _ G2) ?_
      rw [hB2.1.2.1]
      refine mv_J.f (by omega) (mv_J.ret ?_)
      rw [hP]
      exact ⟨by rw [er, show (a 0 1).toNat = i by omega], hc⟩
    | succ q ih =>
      intro i G2 hq hc hS2
      have hB2 := hB.ch hc (by decide) rfl rfl
      refine mv_JP.of (rg_X12_gives_30 _ _ _ _ G2) ?_
      rw [hB2.1.2.1, mv_ws (x := (i : Int) + 1) (by omega)]
      have nx := fun G3 hc h => ih (i + 1) G3 (by omega) hc h
      have est : mv_ggv a x y (i + 1) = if a 3 i = -1 then mv_ggv a x y i else if (mv_ggv a x y i).1 = -1 ∨ (mv_ggv a x y i).2 < mv_gm a x y i then ((i : Int), mv_gm a x y i) else mv_ggv a x y i := rfl
      rw [est] at nx
      clear est
      refine mv_J.t (by omega) (mv_J.ce (gx_sits hB2 hi i (by omega)) (mv_J.bt (fun h3 => mv_J.cut ?_) (fun h3 => mv_J.ce (gx_everyone hB2) (mv_J.cn (gx_lists hB2 hi _) (fun v G3 h4 => ?_)))))
      · have hs : a 3 i = -1 := Classical.byContradiction h3
        rw [if_pos hs] at nx
        exact nx G2 hc hS2
      · rw [if_neg h3] at nx
        have eb : mv_gat a (mv_and (mv_w (mv_shl 1 (a 0 1) - 1)) (mv_xor (mv_shl 1 i) (-1))) (a 0 1).toNat = mv_but a i := mv_but_ev hi i (by omega)
        rw [eb] at h4
        have hB3 := hB2.ch h4.2 (by decide) rfl rfl
        have n10 := mv_but_10 (a := a) hi i
        refine mv_J.cn (gx_fills hB3 hi h4.1 (mv_but_ok hi i) (by omega) (by omega) (hS2.ch h4.2 rfl)) (fun v G4 h8 => ?_)
        obtain ⟨⟨f0, f1, f2⟩, c4⟩ := h8
        have f1 : G4 100 0 62 = mv_gm a x y i := f1
        have bt := mv_tal_b (what := 1) hi (mv_but_ok hi i) (show 1 ≤ x by omega) (show y ≤ 15 by omega) ((mv_but a i).1 + 1)
        have bt : 0 ≤ mv_gm a x y i ∧ _ := bt
        have nx := nx G4 ((hc.tr (h4.2.mono rfl rfl)).tr (c4.mono rfl rfl)) ((hS2.ch h4.2 rfl).ch c4 rfl)
        rw [f1]
        refine mv_J.i (fun h9 => mv_J.ce (gx_greater _ _ _) (mv_J.cut ?_)) (fun h9 => mv_J.ce (gx_greater _ _ _) (mv_J.cut ?_))
        · rw [if_pos (Or.inr h9)] at nx
          rw [if_neg (by omega)]
          exact nx
        · have hno : ¬ ((mv_ggv a x y i).1 = -1 ∨ (mv_ggv a x y i).2 < mv_gm a x y i) := by
            intro hor
            rcases hor with h10 | h10
            · have := mv_ggv_n i h10
              omega
            · exact h9 h10
          rw [if_neg hno] at nx
          by_cases h11 : mv_gm a x y i < (mv_ggv a x y i).2
          · rw [if_pos h11]; exact nx
          · rw [if_neg h11, show mv_gm a x y i = (mv_ggv a x y i).2 by omega]; exact nx
  have := key (a 0 1).toNat 0 G1 (by omega) (c0.tr (c1.mono rfl rfl)) hS
  exact this
end BG
