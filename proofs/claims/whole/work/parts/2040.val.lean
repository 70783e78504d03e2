/-! The value of a law: the first line that is so. -/
def mv_fw (f : Nat → Int) (l : Nat) : Nat := (f l).toNat
/-- a law's numbers, at attributes o ..: lines and size; from; when; stop; code -/
def mv_iL (q : Nat → Bool) (a : mv_a) (o : Nat) : Prop := (0 ≤ a o 0 ∧ a o 0 ≤ 16 ∧ 0 ≤ a o 1 ∧ a o 1 ≤ 400) ∧ ∀ l : Nat, (l : Int) < a o 0 → 0 ≤ a (o + 1) l ∧ a (o + 1) l ≤ a (o + 2) l ∧ a (o + 2) l ≤ a (o + 3) l ∧ a (o + 3) l ≤ a o 1 ∧
  mv_sg q (a (o + 4)) (a (o + 1) l).toNat (a (o + 2) l).toNat ∧ (a (o + 2) l = a (o + 3) l ∨ mv_sg q (a (o + 4)) (a (o + 2) l).toNat (a (o + 3) l).toNat)
def mv_li (a : mv_a) (o : Nat) (tm : Nat → Int) : Nat → Nat → Option Nat
  | 0, _ => none
  | k + 1, l => if a (o + 2) l = a (o + 3) l ∨ mv_vl (a (o + 4)) tm (a (o + 2) l).toNat (a (o + 3) l).toNat ≠ 0 then some l else mv_li a o tm k (l + 1)
def mv_lx (a : mv_a) (o : Nat) (tm : Nat → Int) (w : Int) (x : Option Nat) : Int := match x with
  | some l => mv_vl (a (o + 4)) tm (a (o + 1) l).toNat (a (o + 2) l).toNat
  | none => w
/-- what a law says; w, if it says nothing -/
def mv_lv (a : mv_a) (o : Nat) (tm : Nat → Int) (w : Int) : Int := mv_lx a o tm w (mv_li a o tm (a o 0).toNat 0)
def mv_cL (G : mv_G) (k : Nat) (a : mv_a) (o : Nat) : Prop := G k 0 0 = a o 0 ∧ G k 0 1 = a o 1 ∧ (∀ j : Nat, (j : Int) < a o 1 → G (k + 1) 0 j = a (o + 4) j) ∧ ∀ l : Nat, (l : Int) < a o 0 → G (k + 2) 0 l = a (o + 1) l ∧ G (k + 3) 0 l = a (o + 2) l ∧ G (k + 4) 0 l = a (o + 3) l
def mv_mL (G : mv_G) (w : Nat) (a : mv_a) (o : Nat) : Prop := G 113 0 w = a o 0 ∧ (∀ j : Nat, (j : Int) < a o 1 → G 117 0 (400 * w + j) = mv_opk (a (o + 4) j) ∧ G 118 0 (400 * w + j) = mv_ark (a (o + 4) j)) ∧ ∀ l : Nat, (l : Int) < a o 0 → G 114 0 (16 * w + l) = a (o + 1) l ∧ G 115 0 (16 * w + l) = a (o + 2) l ∧ G 116 0 (16 * w + l) = a (o + 3) l
section VA
variable {G : mv_G} {a : mv_a}
set_option maxHeartbeats 1000000 in
set_option maxRecDepth 100000 in
theorem fx_value_8 {q : Nat → Bool} {o : Nat} {tmv : Nat → Int} (h : mv_cL G 8 a o) (hi : mv_iL q a o) (ht : ∀ j, j < 12 → q j = true → G 73 0 j = tmv j) (hti : ∀ j, j < 12 → mv_in (tmv j)) (w : Int) : mv_Kp (ff_X5_value [.inr (8, 0), .inr (73, 0), .inl w] G) (fun r G' => r = mv_lv a o tmv w ∧ mv_ch [13] [] G G') := by
  obtain ⟨⟨b1, b2, b3, b4⟩, hl⟩ := hi
  obtain ⟨c1, c2, c3, c4⟩ := h
  have key : ∀ (k l : Nat) (G1 : mv_G), l + k = (a o 0).toNat → mv_ch [13] [] G G1 → mv_JP mm_X5_value (fun r G' => r = mv_lx a o tmv w (mv_li a o tmv k l) ∧ mv_ch [13] [] G G') 2 [some (.inr (8, 0)), some (.inr (73, 0)), some (.inl w), some (.inl (l : Int))] G1 := by
    intro k
    induction k with
    | zero =>
      intro l G1 hk hc
      have eK : G1 8 = G 8 := hc.cell 8 rfl
      refine mv_JP.of (rg_X5_value_2_8_73 w l G1) ?_
      rw [eK, c1]
      exact mv_J.f (by omega) (mv_J.ret ⟨rfl, hc⟩)
    | succ k ih =>
      intro l G1 hk hc
      have eK : G1 8 = G 8 := hc.cell 8 rfl
      have eC : G1 9 = G 9 := hc.cell 9 rfl
      have eF : G1 10 = G 10 := hc.cell 10 rfl
      have eW : G1 11 = G 11 := hc.cell 11 rfl
      have eS : G1 12 = G 12 := hc.cell 12 rfl
      have eT : G1 73 = G 73 := hc.cell 73 rfl
      obtain ⟨l1, l2, l3, l4, l5, l6⟩ := hl l (by omega)
      obtain ⟨d1, d2, d3⟩ := c4 l (by omega)
      have d1 : G 10 0 l = a (o + 1) l := d1
      have d2 : G 11 0 l = a (o + 2) l := d2
      have d3 : G 12 0 l = a (o + 3) l := d3
      have rn : ∀ (G2 : mv_G) (x y : Int), mv_ch [13] [] G G2 → 0 ≤ x → 0 ≤ y → y ≤ a o 1 → mv_sg q (a (o + 4)) x.toNat y.toNat → mv_Kp (ff_X5_run [.inr (8, 0), .inl x, .inl y, .inr (73, 0)] G2) (fun r G' => r = mv_vl (a (o + 4)) tmv x.toNat y.toNat ∧ mv_ch [13] [] G2 G') := fun G2 x y hc2 h0 h1 h2 h3 => by
        have := fx_run_8 (q := q) (G := G2) (code := a (o + 4)) (tmv := tmv) (c0 := x.toNat) (e := y.toNat) (sz := (a o 1).toNat) (fun j hj => by rw [hc2.cell 9 rfl]; exact c3 j (by omega)) (by rw [hc2.cell 8 rfl, c2]; omega) (by omega) (fun j hj hq => by rw [hc2.cell 73 rfl]; exact ht j hj hq) hti (by omega) h3
        rw [show ((x.toNat : Nat) : Int) = x by omega, show ((y.toNat : Nat) : Int) = y by omega] at this
        exact this
      refine mv_JP.of (rg_X5_value_2_8_73 w l G1) ?_
      rw [eK, eF, eW, eS, c1, Int.toNat_natCast, d1, d2, d3]
      have e1 : mv_w ((l : Int) + 1) = ((l + 1 : Nat) : Int) := by rw [mv_ws (by omega)]; omega
      rw [e1]
      clear e1
      unfold mv_li
      refine mv_J.t (by omega) (mv_J.t (by omega) (mv_J.ck (by omega) (mv_J.ck (by omega) (mv_J.i (fun h1 => ?_) (fun h1 => ?_)))))
      · rw [if_pos (Or.inl h1)]
        exact mv_J.ck (by omega) (mv_J.ck (by omega) (mv_J.cn (rn G1 _ _ hc (by omega) (by omega) (by omega) l5) (fun r G2 h2 => mv_J.ret ⟨h2.1, hc.tr h2.2⟩)))
      · refine mv_J.ck (by omega) (mv_J.ck (by omega) (mv_J.cn (rn G1 _ _ hc (by omega) (by omega) (by omega) (l6.resolve_left h1)) (fun r G2 h2 => ?_)))
        obtain ⟨rfl, h2⟩ := h2
        refine mv_J.i (fun h3 => mv_J.cut ?_) (fun h3 => mv_J.ck (by omega) (mv_J.ck (by omega) ?_))
        · rw [if_neg (fun h4 => by rcases h4 with h4 | h4; exact h1 h4; exact h4 h3)]
          exact ih (l + 1) G2 (by omega) (hc.tr h2)
        · rw [if_pos (Or.inr h3)]
          have hc2 := hc.tr h2
          rw [hc2.cell 10 rfl, hc2.cell 11 rfl, d1, d2]
          exact mv_J.cn (rn G2 _ _ hc2 (by omega) (by omega) (by omega) l5) (fun r G3 h5 => mv_J.ret ⟨h5.1, hc2.tr h5.2⟩)
  exact mv_Kp.of (mv_JP.of (rg_X5_value_0_8_73 w G) (mv_J.cut (key (a o 0).toNat 0 G (by omega) mv_ch.rf)))
set_option maxHeartbeats 1000000 in
set_option maxRecDepth 100000 in
theorem fx_value_14 {q : Nat → Bool} {o : Nat} {tmv : Nat → Int} (h : mv_cL G 14 a o) (hi : mv_iL q a o) (ht : ∀ j, j < 12 → q j = true → G 76 0 j = tmv j) (hti : ∀ j, j < 12 → mv_in (tmv j)) (w : Int) : mv_Kp (ff_X5_value [.inr (14, 0), .inr (76, 0), .inl w] G) (fun r G' => r = mv_lv a o tmv w ∧ mv_ch [19] [] G G') := by
  obtain ⟨⟨b1, b2, b3, b4⟩, hl⟩ := hi
  obtain ⟨c1, c2, c3, c4⟩ := h
  have key : ∀ (k l : Nat) (G1 : mv_G), l + k = (a o 0).toNat → mv_ch [19] [] G G1 → mv_JP mm_X5_value (fun r G' => r = mv_lx a o tmv w (mv_li a o tmv k l) ∧ mv_ch [19] [] G G') 2 [some (.inr (14, 0)), some (.inr (76, 0)), some (.inl w), some (.inl (l : Int))] G1 := by
    intro k
    induction k with
    | zero =>
      intro l G1 hk hc
      have eK : G1 14 = G 14 := hc.cell 14 rfl
      refine mv_JP.of (rg_X5_value_2_14_76 w l G1) ?_
      rw [eK, c1]
      exact mv_J.f (by omega) (mv_J.ret ⟨rfl, hc⟩)
    | succ k ih =>
      intro l G1 hk hc
      have eK : G1 14 = G 14 := hc.cell 14 rfl
      have eC : G1 15 = G 15 := hc.cell 15 rfl
      have eF : G1 16 = G 16 := hc.cell 16 rfl
      have eW : G1 17 = G 17 := hc.cell 17 rfl
      have eS : G1 18 = G 18 := hc.cell 18 rfl
      have eT : G1 76 = G 76 := hc.cell 76 rfl
      obtain ⟨l1, l2, l3, l4, l5, l6⟩ := hl l (by omega)
      obtain ⟨d1, d2, d3⟩ := c4 l (by omega)
      have d1 : G 16 0 l = a (o + 1) l := d1
      have d2 : G 17 0 l = a (o + 2) l := d2
      have d3 : G 18 0 l = a (o + 3) l := d3
      have rn : ∀ (G2 : mv_G) (x y : Int), mv_ch [19] [] G G2 → 0 ≤ x → 0 ≤ y → y ≤ a o 1 → mv_sg q (a (o + 4)) x.toNat y.toNat → mv_Kp (ff_X5_run [.inr (14, 0), .inl x, .inl y, .inr (76, 0)] G2) (fun r G' => r = mv_vl (a (o + 4)) tmv x.toNat y.toNat ∧ mv_ch [19] [] G2 G') := fun G2 x y hc2 h0 h1 h2 h3 => by
        have := fx_run_14 (q := q) (G := G2) (code := a (o + 4)) (tmv := tmv) (c0 := x.toNat) (e := y.toNat) (sz := (a o 1).toNat) (fun j hj => by rw [hc2.cell 15 rfl]; exact c3 j (by omega)) (by rw [hc2.cell 14 rfl, c2]; omega) (by omega) (fun j hj hq => by rw [hc2.cell 76 rfl]; exact ht j hj hq) hti (by omega) h3
        rw [show ((x.toNat : Nat) : Int) = x by omega, show ((y.toNat : Nat) : Int) = y by omega] at this
        exact this
      refine mv_JP.of (rg_X5_value_2_14_76 w l G1) ?_
      rw [eK, eF, eW, eS, c1, Int.toNat_natCast, d1, d2, d3]
      have e1 : mv_w ((l : Int) + 1) = ((l + 1 : Nat) : Int) := by rw [mv_ws (by omega)]; omega
      rw [e1]
      clear e1
      unfold mv_li
      refine mv_J.t (by omega) (mv_J.t (by omega) (mv_J.ck (by omega) (mv_J.ck (by omega) (mv_J.i (fun h1 => ?_) (fun h1 => ?_)))))
      · rw [if_pos (Or.inl h1)]
        exact mv_J.ck (by omega) (mv_J.ck (by omega) (mv_J.cn (rn G1 _ _ hc (by omega) (by omega) (by omega) l5) (fun r G2 h2 => mv_J.ret ⟨h2.1, hc.tr h2.2⟩)))
      · refine mv_J.ck (by omega) (mv_J.ck (by omega) (mv_J.cn (rn G1 _ _ hc (by omega) (by omega) (by omega) (l6.resolve_left h1)) (fun r G2 h2 => ?_)))
        obtain ⟨rfl, h2⟩ := h2
        refine mv_J.i (fun h3 => mv_J.cut ?_) (fun h3 => mv_J.ck (by omega) (mv_J.ck (by omega) ?_))
        · rw [if_neg (fun h4 => by rcases h4 with h4 | h4; exact h1 h4; exact h4 h3)]
          exact ih (l + 1) G2 (by omega) (hc.tr h2)
        · rw [if_pos (Or.inr h3)]
          have hc2 := hc.tr h2
          rw [hc2.cell 16 rfl, hc2.cell 17 rfl, d1, d2]
          exact mv_J.cn (rn G2 _ _ hc2 (by omega) (by omega) (by omega) l5) (fun r G3 h5 => mv_J.ret ⟨h5.1, hc2.tr h5.2⟩)
  exact mv_Kp.of (mv_JP.of (rg_X5_value_0_14_76 w G) (mv_J.cut (key (a o 0).toNat 0 G (by omega) mv_ch.rf)))
theorem gx_runs2 {q : Nat → Bool} {o w : Nat} {tmv : Nat → Int} (hw : w ≤ 1) (h : mv_mL G w a o) (hi : mv_iL q a o) (ht : ∀ j, j < 12 → q j = true → G 121 0 j = tmv j) (hti : ∀ j, j < 12 → mv_in (tmv j)) (x y : Int) (h0 : 0 ≤ x) (h1 : 0 ≤ y) (h2 : y ≤ a o 1) (h3 : mv_sg q (a (o + 4)) x.toNat y.toNat) : mv_Kp (ff_X12_runs [.inr (100, 0), .inl w, .inl x, .inl y] G) (fun r G' => r = mv_vl (a (o + 4)) tmv x.toNat y.toNat ∧ mv_ch [122] [] G G') := by
  obtain ⟨⟨b1, b2, b3, b4⟩, hl⟩ := hi
  have := gx_runs (q := q) (G := G) (code := a (o + 4)) (tmv := tmv) (w := w) (c0 := x.toNat) (e := y.toNat) (sz := (a o 1).toNat) hw (fun j hj => h.2.1 j (by omega)) (by omega) ht hti (by omega) h3
  rw [show ((x.toNat : Nat) : Int) = x by omega, show ((y.toNat : Nat) : Int) = y by omega] at this
  exact this
theorem mv_mL.ch {S : List Nat} {T : List (Nat × Nat)} {G2 : mv_G} {w o : Nat} (h : mv_mL G w a o) (hc : mv_ch S T G G2) (hS : ([113, 114, 115, 116, 117, 118].any fun k => S.contains k || T.any fun q => q.1 == k) = false) : mv_mL G2 w a o := by
  have hk : ∀ k, k ∈ [113, 114, 115, 116, 117, 118] → G2 k = G k := fun k hk => hc.cell k (Bool.eq_false_iff.mpr (List.any_eq_false.mp hS k hk))
  unfold mv_mL
  rw [hk 113 (by decide), hk 114 (by decide), hk 115 (by decide), hk 116 (by decide), hk 117 (by decide), hk 118 (by decide)]
  exact h
set_option maxHeartbeats 1000000 in
set_option maxRecDepth 100000 in
theorem gx_lineOf {q : Nat → Bool} {o w : Nat} {tmv : Nat → Int} (hw : w ≤ 1) (h : mv_mL G w a o) (hi : mv_iL q a o) (ht : ∀ j, j < 12 → q j = true → G 121 0 j = tmv j) (hti : ∀ j, j < 12 → mv_in (tmv j)) : mv_Kp (ff_X12_lineOf [.inr (100, 0), .inl w] G) (fun r G' => r = (match mv_li a o tmv (a o 0).toNat 0 with | some l => ((16 * w + l : Nat) : Int) | none => -1) ∧ mv_ch [122] [] G G') := by
  have hi0 := hi
  obtain ⟨⟨b1, b2, b3, b4⟩, hl⟩ := hi
  have key : ∀ (k l : Nat) (G1 : mv_G), l + k = (a o 0).toNat → mv_ch [122] [] G G1 → mv_JP mm_X12_lineOf (fun r G' => r = (match mv_li a o tmv k l with | some l => ((16 * w + l : Nat) : Int) | none => -1) ∧ mv_ch [122] [] G G') 2 [some (.inr (100, 0)), some (.inl (w : Int)), some (.inl (l : Int)), none] G1 := by
    intro k
    induction k with
    | zero =>
      intro l G1 hk hc
      refine mv_JP.of (rg_X12_lineOf_2 w l G1) ?_
      rw [hc.cell 113 rfl, Int.toNat_natCast, h.1]
      exact mv_J.ck (by omega) (mv_J.f (by omega) (mv_J.ret ⟨rfl, hc⟩))
    | succ k ih =>
      intro l G1 hk hc
      obtain ⟨l1, l2, l3, l4, l5, l6⟩ := hl l (by omega)
      obtain ⟨d1, d2, d3⟩ := h.2.2 l (by omega)
      refine mv_JP.of (rg_X12_lineOf_2 w l G1) ?_
      have e1 : mv_w ((l : Int) + 1) = ((l + 1 : Nat) : Int) := by rw [mv_ws (by omega)]; omega
      rw [e1]
      clear e1
      have ew : mv_w (16 * (w : Int)) = ((16 * w : Nat) : Int) := by rw [mv_ws (by omega)]; omega
      rw [ew]
      clear ew
      have ee : mv_w (((16 * w : Nat) : Int) + (l : Int)) = ((16 * w + l : Nat) : Int) := by rw [mv_ws (by omega)]; omega
      rw [ee]
      clear ee
      rw [hc.cell 113 rfl, hc.cell 115 rfl, hc.cell 116 rfl, Int.toNat_natCast, Int.toNat_natCast, h.1, d2, d3]
      unfold mv_li
      refine mv_J.ck (by omega) (mv_J.t (by omega) (mv_J.ck (by omega) (mv_J.ck (by omega) (mv_J.i (fun h1 => ?_) (fun h1 => ?_)))))
      · rw [if_pos (Or.inl h1)]
        exact mv_J.ret ⟨rfl, hc⟩
      · refine mv_J.ck (by omega) (mv_J.ck (by omega) (mv_J.cn (gx_runs2 (q := q) (tmv := tmv) hw (h.ch hc (by decide)) hi0 (fun j hj hq => by rw [hc.cell 121 rfl]; exact ht j hj hq) hti _ _ (by omega) (by omega) (by omega) (l6.resolve_left h1)) (fun r G2 h2 => ?_)))
        obtain ⟨rfl, h2⟩ := h2
        refine mv_J.i (fun h3 => mv_J.cut ?_) (fun h3 => mv_J.ret ?_)
        · rw [if_neg (fun h4 => by rcases h4 with h4 | h4; exact h1 h4; exact h4 h3)]
          exact ih (l + 1) G2 (by omega) (hc.tr h2)
        · rw [if_pos (Or.inr h3)]
          exact ⟨rfl, hc.tr h2⟩
  exact mv_Kp.of (mv_JP.of (rg_X12_lineOf_0 w G) (mv_J.cut (key (a o 0).toNat 0 G (by omega) mv_ch.rf)))
theorem mv_li_lt {o : Nat} {tmv : Nat → Int} : ∀ (k l x : Nat), mv_li a o tmv k l = some x → x < l + k
  | 0, _, _, h => by cases h
  | k + 1, l, x, h => by
    unfold mv_li at h
    split at h
    · cases h; omega
    · have := mv_li_lt k (l + 1) x h
      omega
end VA
