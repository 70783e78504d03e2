/-! TEXT: what is taken. -/
def st_z (a : mv_a) (f p : Int) : mv_a := fun o j => if o = 0 then (if j = 6 then 0 else if j = 7 then f else if j = 8 then p else a 0 j) else a o j
theorem st_z_o {a : mv_a} {f p : Int} {o : Nat} (h : o ≠ 0) : st_z a f p o = a o := funext fun j => if_neg h
theorem st_z_0 {a : mv_a} {f p : Int} {j : Nat} (h : j < 6 ∨ 8 < j) : st_z a f p 0 j = a 0 j := by
  unfold st_z
  rw [if_pos rfl, if_neg (by omega), if_neg (by omega), if_neg (by omega)]
theorem st_z_X {a : mv_a} {f p : Int} : ag_X a (st_z a f p) ∧ ag_U a (st_z a f p) ∧ ag_I a (st_z a f p) := ⟨⟨fun j hj => st_z_0 (by omega), fun o h1 _ _ => st_z_o (by omega)⟩, ⟨st_z_0 (by decide), fun o h1 _ => st_z_o (by omega)⟩, st_z_0 (by decide), fun o h => st_z_o (by omega)⟩
def st_lw (a : mv_a) (o : Nat) (j sz : Int) (F W T code : Nat → Int) : mv_a := fun q i => if q = o then (if i = 0 then j else if i = 1 then sz else a o i) else if q = o + 1 then F i else if q = o + 2 then W i else if q = o + 3 then T i else if q = o + 4 then code i else a q i
theorem st_lw_o {a : mv_a} {o q : Nat} {j sz : Int} {F W T code : Nat → Int} (h : q < o ∨ o + 4 < q) : st_lw a o j sz F W T code q = a q := funext fun i => by
  unfold st_lw
  rw [if_neg (by omega), if_neg (by omega), if_neg (by omega), if_neg (by omega), if_neg (by omega)]
theorem st_lw_e {a : mv_a} {o : Nat} {j sz : Int} {F W T code : Nat → Int} : st_lw a o j sz F W T code o 0 = j ∧ st_lw a o j sz F W T code o 1 = sz ∧ st_lw a o j sz F W T code (o + 1) = F ∧ st_lw a o j sz F W T code (o + 2) = W ∧ st_lw a o j sz F W T code (o + 3) = T ∧ st_lw a o j sz F W T code (o + 4) = code := by
  unfold st_lw
  refine ⟨?_, ?_, funext fun i => ?_, funext fun i => ?_, funext fun i => ?_, funext fun i => ?_⟩
  · rw [if_pos rfl, if_pos rfl]
  · rw [if_pos rfl, if_neg (by decide), if_pos rfl]
  · rw [if_neg (by omega), if_pos rfl]
  · rw [if_neg (by omega), if_neg (by omega), if_pos rfl]
  · rw [if_neg (by omega), if_neg (by omega), if_neg (by omega), if_pos rfl]
  · rw [if_neg (by omega), if_neg (by omega), if_neg (by omega), if_neg (by omega), if_pos rfl]
def st_dd (a : mv_a) (j : Int) (A W H : Nat → Int) : mv_a := fun q i => if q = 0 then (if i = 4 then j else if i = 5 then 0 else a 0 i) else if q = 13 then A i else if q = 14 then W i else if q = 15 then H i else a q i
theorem st_dd_o {a : mv_a} {q : Nat} {j : Int} {A W H : Nat → Int} (h0 : q ≠ 0) (h : q < 13 ∨ 15 < q) : st_dd a j A W H q = a q := funext fun i => by
  unfold st_dd
  rw [if_neg h0, if_neg (by omega), if_neg (by omega), if_neg (by omega)]
theorem st_dd_0 {a : mv_a} {i : Nat} {j : Int} {A W H : Nat → Int} (h : i ≠ 4 ∧ i ≠ 5) : st_dd a j A W H 0 i = a 0 i := by
  unfold st_dd
  rw [if_pos rfl, if_neg h.1, if_neg h.2]
theorem st_dd_e {a : mv_a} {j : Int} {A W H : Nat → Int} : st_dd a j A W H 0 4 = j ∧ st_dd a j A W H 0 5 = 0 ∧ st_dd a j A W H 13 = A ∧ st_dd a j A W H 14 = W ∧ st_dd a j A W H 15 = H := ⟨rfl, rfl, rfl, rfl, rfl⟩
section TK
variable {G G2 : mv_G} {a b : mv_a}
theorem tx_cX (h : mv_cX G a) (hk : ∀ k, 1 ≤ k → k ≤ 7 → G2 k = G k) (e0 : ∀ j, j < 4 → b 0 j = a 0 j) (e : ∀ o, 1 ≤ o → o ≤ 12 → b o = a o) (l1 : mv_cL G2 8 b 17) (l2 : mv_cL G2 14 b 22) (dy : mv_dyC G2 b) : mv_cX G2 b := by
  obtain ⟨hB, -, -, bk, -⟩ := h
  refine ⟨?_, l1, l2, ?_, dy⟩
  · unfold mv_cB at hB ⊢
    rw [hk 1 (by decide) (by decide), hk 2 (by decide) (by decide), hk 3 (by decide) (by decide), hk 4 (by decide) (by decide), hk 5 (by decide) (by decide), hk 6 (by decide) (by decide), e0 0 (by decide), e0 1 (by decide), e0 2 (by decide), e 1 (by decide) (by decide), e 2 (by decide) (by decide), e 3 (by decide) (by decide), e 4 (by decide) (by decide), e 5 (by decide) (by decide), e 6 (by decide) (by decide), e 7 (by decide) (by decide), e 8 (by decide) (by decide)]
    exact hB
  · unfold mv_bkC at bk ⊢
    rw [hk 1 (by decide) (by decide), hk 7 (by decide) (by decide), e0 3 (by decide), e 9 (by decide) (by decide), e 10 (by decide) (by decide), e 11 (by decide) (by decide), e 12 (by decide) (by decide)]
    exact bk
theorem tx_mX (h : mv_mX G a) (hk : ∀ k, 101 ≤ k → k ≤ 110 → G2 k = G k) (hs : G2 100 0 6 = G 100 0 6 ∧ G2 100 0 8 = G 100 0 8) (e0 : ∀ j, j < 4 → b 0 j = a 0 j) (e : ∀ o, 1 ≤ o → o ≤ 12 → b o = a o) (l1 : mv_mL G2 0 b 17) (l2 : mv_mL G2 1 b 22) (dy : mv_dyM G2 b) : mv_mX G2 b := by
  obtain ⟨hB, -, -, bk, -⟩ := h
  refine ⟨?_, l1, l2, ?_, dy⟩
  · unfold mv_mB at hB ⊢
    rw [hs.1, hs.2, hk 101 (by decide) (by decide), hk 104 (by decide) (by decide), hk 105 (by decide) (by decide), hk 106 (by decide) (by decide), hk 107 (by decide) (by decide), hk 108 (by decide) (by decide), hk 109 (by decide) (by decide), e0 0 (by decide), e0 1 (by decide), e0 2 (by decide), e 1 (by decide) (by decide), e 2 (by decide) (by decide), e 3 (by decide) (by decide), e 4 (by decide) (by decide), e 5 (by decide) (by decide), e 6 (by decide) (by decide), e 7 (by decide) (by decide), e 8 (by decide) (by decide)]
    exact hB
  · unfold mv_bkM at bk ⊢
    rw [hk 101 (by decide) (by decide), hk 110 (by decide) (by decide), e0 3 (by decide), e 9 (by decide) (by decide), e 10 (by decide) (by decide), e 11 (by decide) (by decide), e 12 (by decide) (by decide)]
    exact bk
theorem tx_iX (h : mv_iX a) (e0 : ∀ j, j < 4 → b 0 j = a 0 j) (e : ∀ o, 1 ≤ o → o ≤ 12 → b o = a o) (l1 : mv_iL mv_qs b 17) (l2 : mv_iL mv_qm b 22) (dy : mv_iD b) : mv_iX b :=
  ⟨h.1.ag (fun j hj => e0 j hj) (fun o h1 h2 => e o h1 (by omega)), l1, l2, dy⟩
theorem st_cW.tx (h : st_cW G a) (hx : mv_cX G2 b) (hu : mv_unC G2 b) (tp : mv_tpC G2 b) (hk : ∀ k, 24 ≤ k → k ≤ 46 → G2 k = G k) (h10 : G2 0 0 10 = G 0 0 10) (eI : ag_I a b) : st_cW G2 b := by
  obtain ⟨g1, g2, g3, g4, g5⟩ := h
  refine ⟨hx, hu, tp, by rw [h10, eI.1]; exact g4, fun h9 => ?_⟩
  rw [eI.1] at h9
  rw [mv_im.ag eI]
  refine (g5 h9).cg (fun k hk2 => ?_)
  have hl : ∀ k ∈ mv_cXl, 24 ≤ k + 23 ∧ k + 23 ≤ 46 := by decide
  exact hk (k + 23) (hl k hk2).1 (hl k hk2).2
theorem st_mW.tx (h : st_mW G a) (hx : mv_mX G2 b) (hu : mv_unM G2 b) (tp : mv_tpM G2 b) (hk : ∀ k, k = 112 ∨ k = 137 → G2 k = G k) (hs : ∀ j, j = 5 ∨ j = 68 → G2 100 0 j = G 100 0 j) (eI : ag_I a b) : st_mW G2 b := by
  obtain ⟨g1, g2, g3, g4, g5, g6, g7⟩ := h
  refine ⟨hx, hu, tp, ?_, fun h9 => ?_, ?_, ?_⟩
  · rw [hs 68 (by omega), eI.1]; exact g4
  · rw [eI.1] at h9
    rw [mv_im.ag eI, hk 137 (by omega)]
    exact g5 h9
  · rw [hs 5 (by omega)]; exact g6
  · rw [hk 112 (by omega)]; exact g7
theorem st_iW.tx (h : st_iW a) (hx : mv_iX b) (hu : mv_iU b) (h6 : b 0 6 = 0) (eI : ag_I a b) : st_iW b := by
  obtain ⟨h1, h2, h3, h4, h5⟩ := h
  refine ⟨hx, hu, ⟨by rw [h6]; decide, fun j hj => by rw [h6] at hj; omega⟩, by rw [eI.1]; exact h4, fun h9 => ?_⟩
  rw [eI.1] at h9
  rw [mv_im.ag eI]
  exact h5 h9
/-- the reference takes a law -/
def tk_r (G G2 : mv_G) (k o n s : Nat) : Prop := ∀ q, G2 k 0 q = if o ≤ q ∧ q < o + n then G k 0 (q - o + s) else G k 0 q
set_option maxRecDepth 100000 in
theorem gx_takesLaw (kd j z : Nat) (hkd : kd ≤ 1) (hj : j ≤ 16) (hz : z ≤ 400) (h28 : G 100 0 28 = kd) (h29 : G 100 0 29 = z) : mv_Kp (ff_X12_takesLaw [.inr (100, 0), .inl j] G) (fun _ G' => tk_r G G' 114 (16 * kd) j 32 ∧ tk_r G G' 115 (16 * kd) j 32 ∧ tk_r G G' 116 (16 * kd) j 32 ∧ tk_r G G' 117 (400 * kd) z 800 ∧ tk_r G G' 118 (400 * kd) z 800 ∧ (∀ q, G' 113 0 q = if q = kd then (j : Int) else G 113 0 q) ∧ mv_ch [113, 114, 115, 116, 117, 118] [] G G') := by
  have lp2 : ∀ (k c : Nat) (G1 : mv_G), c + k = z → tk_r G G1 114 (16 * kd) j 32 → tk_r G G1 115 (16 * kd) j 32 → tk_r G G1 116 (16 * kd) j 32 → tk_r G G1 117 (400 * kd) c 800 → tk_r G G1 118 (400 * kd) c 800 → mv_ch [114, 115, 116, 117, 118] [] G G1 → mv_JP mm_X12_takesLaw (fun _ G' => tk_r G G' 114 (16 * kd) j 32 ∧ tk_r G G' 115 (16 * kd) j 32 ∧ tk_r G G' 116 (16 * kd) j 32 ∧ tk_r G G' 117 (400 * kd) z 800 ∧ tk_r G G' 118 (400 * kd) z 800 ∧ (∀ q, G' 113 0 q = if q = kd then (j : Int) else G 113 0 q) ∧ mv_ch [113, 114, 115, 116, 117, 118] [] G G') 84 [some (.inr (100, 0)), some (.inl (j : Int)), some (.inl (c : Int))] G1 := by
    intro k
    induction k with
    | zero =>
      intro c G1 hk r1 r2 r3 r4 r5 hc
      have e : c = z := by omega
      subst e
      refine mv_JP.of (rg_X12_takesLaw_84 _ _ G1) ?_
      rw [hc.cell 100 rfl, h28, h29, Int.toNat_natCast]
      refine mv_J.f (by omega) (mv_J.ck (by omega) (mv_J.ret ⟨?_, ?_, ?_, ?_, ?_, fun q => ?_, mv_ch.uc (hc.mono rfl rfl) rfl⟩))
      · unfold tk_r at r1 ⊢; rw [mv_up_k (by decide)]; exact r1
      · unfold tk_r at r2 ⊢; rw [mv_up_k (by decide)]; exact r2
      · unfold tk_r at r3 ⊢; rw [mv_up_k (by decide)]; exact r3
      · unfold tk_r at r4 ⊢; rw [mv_up_k (by decide)]; exact r4
      · unfold tk_r at r5 ⊢; rw [mv_up_k (by decide)]; exact r5
      · rw [mv_up_at, hc.cell 113 rfl]
    | succ k ih =>
      intro c G1 hk r1 r2 r3 r4 r5 hc
      refine mv_JP.of (rg_X12_takesLaw_84 _ _ G1) ?_
      have u1 : ∀ {G3 : mv_G} {q : Nat} {v : Int}, (mv_up G3 117 0 q v) 100 = G3 100 := mv_up_k (by decide)
      have u2 : ∀ {G3 : mv_G} {q : Nat} {v : Int}, (mv_up G3 117 0 q v) 118 = G3 118 := mv_up_k (by decide)
      repeat rw [u1]
      repeat rw [u2]
      rw [hc.cell 100 rfl, h28, h29, mv_ws (x := 400 * (kd : Int)) (by omega), mv_ws (x := 400 * (kd : Int) + c) (by omega), mv_ws (x := 800 + (c : Int)) (by omega), show mv_w ((c : Int) + 1) = ((c + 1 : Nat) : Int) from mv_ws (by omega), show Int.toNat (400 * (kd : Int) + c) = 400 * kd + c by omega, show Int.toNat (800 + (c : Int)) = 800 + c by omega]
      rw [mv_ckp (n := 1200) (by omega), mv_ckp (n := 1200) (by omega), mv_ckp (n := 1200) (by omega), mv_ckp (n := 1200) (by omega)]
      refine mv_J.t (by omega) (mv_J.cut (ih (c + 1) _ (by omega) ?_ ?_ ?_ (fun q => ?_) (fun q => ?_) ((hc.uc rfl).uc rfl)))
      · unfold tk_r at r1 ⊢; rw [mv_up_k (by decide), mv_up_k (by decide)]; exact r1
      · unfold tk_r at r2 ⊢; rw [mv_up_k (by decide), mv_up_k (by decide)]; exact r2
      · unfold tk_r at r3 ⊢; rw [mv_up_k (by decide), mv_up_k (by decide)]; exact r3
      · rw [mv_up_k (by decide), mv_up_at]
        by_cases e : q = 400 * kd + c
        · rw [if_pos e, if_pos (by omega), r4 (800 + c), if_neg (by omega), show q - 400 * kd + 800 = 800 + c by omega]
        · rw [if_neg e, r4 q]
          by_cases e2 : 400 * kd ≤ q ∧ q < 400 * kd + c
          · rw [if_pos e2, if_pos (by omega)]
          · rw [if_neg e2, if_neg (by omega)]
      · rw [mv_up_at, mv_up_k (by decide)]
        by_cases e : q = 400 * kd + c
        · rw [if_pos e, if_pos (by omega), r5 (800 + c), if_neg (by omega), show q - 400 * kd + 800 = 800 + c by omega]
        · rw [if_neg e, r5 q]
          by_cases e2 : 400 * kd ≤ q ∧ q < 400 * kd + c
          · rw [if_pos e2, if_pos (by omega)]
          · rw [if_neg e2, if_neg (by omega)]
  have lp1 : ∀ (k l : Nat) (G1 : mv_G), l + k = j → tk_r G G1 114 (16 * kd) l 32 → tk_r G G1 115 (16 * kd) l 32 → tk_r G G1 116 (16 * kd) l 32 → mv_ch [114, 115, 116] [] G G1 → mv_JP mm_X12_takesLaw (fun _ G' => tk_r G G' 114 (16 * kd) j 32 ∧ tk_r G G' 115 (16 * kd) j 32 ∧ tk_r G G' 116 (16 * kd) j 32 ∧ tk_r G G' 117 (400 * kd) z 800 ∧ tk_r G G' 118 (400 * kd) z 800 ∧ (∀ q, G' 113 0 q = if q = kd then (j : Int) else G 113 0 q) ∧ mv_ch [113, 114, 115, 116, 117, 118] [] G G') 2 [some (.inr (100, 0)), some (.inl (j : Int)), some (.inl (l : Int))] G1 := by
    intro k
    induction k with
    | zero =>
      intro l G1 hk r1 r2 r3 hc
      have e : l = j := by omega
      subst e
      refine mv_JP.of (rg_X12_takesLaw_2 _ _ G1) (mv_J.f (by omega) (mv_J.cut (lp2 z 0 G1 (by omega) r1 r2 r3 (fun q => ?_) (fun q => ?_) (hc.mono rfl rfl))))
      · rw [if_neg (by omega), hc.cell 117 rfl]
      · rw [if_neg (by omega), hc.cell 118 rfl]
    | succ k ih =>
      intro l G1 hk r1 r2 r3 hc
      refine mv_JP.of (rg_X12_takesLaw_2 _ _ G1) ?_
      have u1 : ∀ {G3 : mv_G} {q : Nat} {v : Int}, (mv_up G3 114 0 q v) 100 = G3 100 := mv_up_k (by decide)
      have u2 : ∀ {G3 : mv_G} {q : Nat} {v : Int}, (mv_up G3 115 0 q v) 100 = G3 100 := mv_up_k (by decide)
      have u3 : ∀ {G3 : mv_G} {q : Nat} {v : Int}, (mv_up G3 114 0 q v) 115 = G3 115 := mv_up_k (by decide)
      have u4 : ∀ {G3 : mv_G} {q : Nat} {v : Int}, (mv_up G3 114 0 q v) 116 = G3 116 := mv_up_k (by decide)
      have u5 : ∀ {G3 : mv_G} {q : Nat} {v : Int}, (mv_up G3 115 0 q v) 116 = G3 116 := mv_up_k (by decide)
      repeat rw [u2]
      repeat rw [u1]
      repeat rw [u5]
      repeat rw [u4]
      repeat rw [u3]
      rw [hc.cell 100 rfl, h28, mv_ws (x := 16 * (kd : Int)) (by omega), mv_ws (x := 16 * (kd : Int) + l) (by omega), mv_ws (x := 32 + (l : Int)) (by omega), show mv_w ((l : Int) + 1) = ((l + 1 : Nat) : Int) from mv_ws (by omega), show Int.toNat (16 * (kd : Int) + l) = 16 * kd + l by omega, show Int.toNat (32 + (l : Int)) = 32 + l by omega]
      rw [mv_ckp (n := 48) (by omega), mv_ckp (n := 48) (by omega), mv_ckp (n := 48) (by omega), mv_ckp (n := 48) (by omega), mv_ckp (n := 48) (by omega), mv_ckp (n := 48) (by omega)]
      refine mv_J.t (by omega) (mv_J.cut (ih (l + 1) _ (by omega) (fun q => ?_) (fun q => ?_) (fun q => ?_) (((hc.uc rfl).uc rfl).uc rfl)))
      · rw [mv_up_k (by decide), mv_up_k (by decide), mv_up_at]
        by_cases e : q = 16 * kd + l
        · rw [if_pos e, if_pos (by omega), r1 (32 + l), if_neg (by omega), show q - 16 * kd + 32 = 32 + l by omega]
        · rw [if_neg e, r1 q]
          by_cases e2 : 16 * kd ≤ q ∧ q < 16 * kd + l
          · rw [if_pos e2, if_pos (by omega)]
          · rw [if_neg e2, if_neg (by omega)]
      · rw [mv_up_k (by decide), mv_up_at, mv_up_k (by decide)]
        by_cases e : q = 16 * kd + l
        · rw [if_pos e, if_pos (by omega), r2 (32 + l), if_neg (by omega), show q - 16 * kd + 32 = 32 + l by omega]
        · rw [if_neg e, r2 q]
          by_cases e2 : 16 * kd ≤ q ∧ q < 16 * kd + l
          · rw [if_pos e2, if_pos (by omega)]
          · rw [if_neg e2, if_neg (by omega)]
      · rw [mv_up_at, mv_up_k (by decide), mv_up_k (by decide)]
        by_cases e : q = 16 * kd + l
        · rw [if_pos e, if_pos (by omega), r3 (32 + l), if_neg (by omega), show q - 16 * kd + 32 = 32 + l by omega]
        · rw [if_neg e, r3 q]
          by_cases e2 : 16 * kd ≤ q ∧ q < 16 * kd + l
          · rw [if_pos e2, if_pos (by omega)]
          · rw [if_neg e2, if_neg (by omega)]
  exact mv_Kp.of (mv_JP.of (rg_X12_takesLaw_0 _ G) (mv_J.cut (lp1 j 0 G (by omega) (fun q => (if_neg (by omega)).symm) (fun q => (if_neg (by omega)).symm) (fun q => (if_neg (by omega)).symm) mv_ch.rf)))
set_option maxRecDepth 100000 in
theorem gx_takesDay (j : Nat) (hj : j ≤ 24) : mv_Kp (ff_X12_takesDay [.inr (100, 0), .inl j] G) (fun _ G' => tk_r G G' 120 0 (3 * j) 72 ∧ G' 100 0 37 = j ∧ G' 100 0 3 = 0 ∧ mv_ch [120] [(100, 37), (100, 3)] G G') := by
  have lp : ∀ (k i : Nat) (G1 : mv_G), i + k = 3 * j → tk_r G G1 120 0 i 72 → mv_ch [120] [] G G1 → mv_JP mm_X12_takesDay (fun _ G' => tk_r G G' 120 0 (3 * j) 72 ∧ G' 100 0 37 = j ∧ G' 100 0 3 = 0 ∧ mv_ch [120] [(100, 37), (100, 3)] G G') 2 [some (.inr (100, 0)), some (.inl (j : Int)), some (.inl (i : Int))] G1 := by
    intro k
    induction k with
    | zero =>
      intro i G1 hk r hc
      have e : i = 3 * j := by omega
      subst e
      refine mv_JP.of (rg_X12_takesDay_2 _ _ G1) ?_
      rw [mv_ws (x := 3 * (j : Int)) (by omega)]
      refine mv_J.f (by omega) (mv_J.ret ⟨?_, ?_, mv_ups_eq, mv_ch.up (mv_ch.up (hc.mono rfl rfl) rfl) rfl⟩)
      · unfold tk_r at r ⊢; rw [mv_up_k (by decide), mv_up_k (by decide)]; exact r
      · rw [mv_up_j (by decide), mv_ups_eq]
    | succ k ih =>
      intro i G1 hk r hc
      refine mv_JP.of (rg_X12_takesDay_2 _ _ G1) ?_
      rw [mv_ws (x := 3 * (j : Int)) (by omega), mv_ws (x := 72 + (i : Int)) (by omega), show mv_w ((i : Int) + 1) = ((i + 1 : Nat) : Int) from mv_ws (by omega), Int.toNat_natCast, show Int.toNat (72 + (i : Int)) = 72 + i by omega]
      rw [mv_ckp (n := 144) (by omega), mv_ckp (n := 144) (by omega)]
      refine mv_J.t (by omega) (mv_J.cut (ih (i + 1) _ (by omega) (fun q => ?_) (hc.uc rfl)))
      rw [mv_up_at]
      by_cases e : q = i
      · rw [if_pos e, if_pos (by omega), r (72 + i), if_neg (by omega), show q - 0 + 72 = 72 + i by omega]
      · rw [if_neg e, r q]
        by_cases e2 : 0 ≤ q ∧ q < 0 + i
        · rw [if_pos e2, if_pos (by omega)]
        · rw [if_neg e2, if_neg (by omega)]
  exact mv_Kp.of (mv_JP.of (rg_X12_takesDay_0 _ G) (mv_J.cut (lp (3 * j) 0 G (by omega) (fun q => (if_neg (by omega)).symm) mv_ch.rf)))
end TK
