/-! TEXT: a day. -/
abbrev pr_Y : Type := (Nat × (Nat → Int) × (Nat → Int) × (Nat → Int)) ⊕ (Int × Nat)
noncomputable def pr_dy (I : Nat → Int) (pp : Int) : Nat → Nat → Nat → (Nat → Int) → (Nat → Int) → (Nat → Int) → pr_Y
  | 0, _, k, _, _, _ => .inr (0, k)
  | f + 1, j, k, A, W, H => pr_if (I k = -2) (.inl (j, A, W, H)) (pr_if (¬ (20006 ≤ I k ∧ I k ≤ 20008)) (.inr (1, k)) (pr_if (24 ≤ j) (.inr (3, k))
      (pr_if (¬ pr_nb (I (k + 1))) (.inr (1, k + 1)) (pr_if (pp - 1 < I (k + 1)) (.inr (2, k + 1)) (pr_if (¬ I (k + 2) = 20014) (.inr (1, k + 2))
      (pr_if (¬ pr_nb (I (k + 3))) (.inr (1, k + 3)) (pr_if (999 < I (k + 3)) (.inr (2, k + 3)) (pr_if (¬ I (k + 4) = 30059) (.inr (1, k + 4))
      (pr_dy I pp f (j + 1) (k + 5) (mv_sp A j (I k - 20006)) (mv_sp W j (I (k + 1))) (mv_sp H j (I (k + 3))))))))))))
/-- the lines of a day are as they should be -/
def pr_yG (pp : Int) (j : Nat) (A W H : Nat → Int) : Prop := ∀ l, l < j → (0 ≤ A l ∧ A l ≤ 2) ∧ (0 ≤ W l ∧ W l < pp) ∧ 0 ≤ H l ∧ H l ≤ 999
theorem pr_dy_w {I : Nat → Int} {pp : Int} : ∀ (f j k : Nat) (A W H : Nat → Int) (j2 : Nat) (A2 W2 H2 : Nat → Int), pr_dy I pp f j k A W H = .inl (j2, A2, W2, H2) → j ≤ 24 → pr_yG pp j A W H → j2 ≤ 24 ∧ pr_yG pp j2 A2 W2 H2
  | 0, j, k, A, W, H, j2, A2, W2, H2, h, _, _ => by cases h
  | f + 1, j, k, A, W, H, j2, A2, W2, H2, h, hj, hG => by
    unfold pr_dy at h
    by_cases c1 : I k = -2
    · rw [pr_t c1] at h; cases h; exact ⟨hj, hG⟩
    rw [pr_f c1] at h
    have c2 : 20006 ≤ I k ∧ I k ≤ 20008 := Classical.byContradiction fun c => by
      rw [pr_t c] at h; cases h
    rw [pr_f (fun h => h c2)] at h
    by_cases c3 : 24 ≤ j
    · rw [pr_t c3] at h; cases h
    rw [pr_f c3] at h
    have c4 : pr_nb (I (k + 1)) := Classical.byContradiction fun c => by
      rw [pr_t c] at h; cases h
    rw [pr_f (fun h => h c4)] at h
    by_cases c5 : pp - 1 < I (k + 1)
    · rw [pr_t c5] at h; cases h
    rw [pr_f c5] at h
    have c6 : I (k + 2) = 20014 := Classical.byContradiction fun c => by
      rw [pr_t c] at h; cases h
    rw [pr_f (fun h => h c6)] at h
    have c7 : pr_nb (I (k + 3)) := Classical.byContradiction fun c => by
      rw [pr_t c] at h; cases h
    rw [pr_f (fun h => h c7)] at h
    by_cases c8 : 999 < I (k + 3)
    · rw [pr_t c8] at h; cases h
    rw [pr_f c8] at h
    have c9 : I (k + 4) = 30059 := Classical.byContradiction fun c => by
      rw [pr_t c] at h; cases h
    rw [pr_f (fun h => h c9)] at h
    refine pr_dy_w f (j + 1) (k + 5) _ _ _ j2 A2 W2 H2 h (by omega) (fun l hl => ?_)
    have n1 := c4.1
    have n3 := c7.1
    by_cases e : l = j
    · subst e
      have f1 : mv_sp A l (I k - 20006) l = I k - 20006 := if_pos rfl
      have f2 : mv_sp W l (I (k + 1)) l = I (k + 1) := if_pos rfl
      have f3 : mv_sp H l (I (k + 3)) l = I (k + 3) := if_pos rfl
      rw [f1, f2, f3]
      omega
    · have f1 : mv_sp A j (I k - 20006) l = A l := if_neg e
      have f2 : mv_sp W j (I (k + 1)) l = W l := if_neg e
      have f3 : mv_sp H j (I (k + 3)) l = H l := if_neg e
      rw [f1, f2, f3]
      exact hG l (by omega)
def pr_yS (G : mv_G) (k : Nat) : Prop := G 52 0 1 = 0 ∧ G 52 0 7 = (k : Int) ∧ G 52 0 2 = -1
def pr_yE (t : Nat → Int) (n m : Nat) (G : mv_G) (e : Int × Nat) : Prop := G 52 0 1 = e.1 ∧ e.1 ≠ 0 ∧ G 52 0 2 = ((mv_tbg t n e.2 : Nat) : Int) ∧ ∃ k : Nat, k ≤ m ∧ G 52 0 7 = k
def pr_yc (G G2 : mv_G) : Prop := mv_ch [60, 61, 62] [(52, 1), (52, 2), (52, 7), (59, 0)] G G2
/-- the lines of a day that the class reads -/
def pr_yN (G : mv_G) (j : Nat) (A W H : Nat → Int) : Prop := G 59 0 0 = (j : Int) ∧ ∀ l, l < j → G 60 0 l = A l ∧ G 61 0 l = W l ∧ G 62 0 l = H l
def pr_yV (t : Nat → Int) (n : Nat) (R : pr_Y) (G : mv_G) : Prop := match R with
  | .inl (j, A, W, H) => G 52 0 1 = 0 ∧ G 52 0 2 = -1 ∧ pr_yN G j A W H
  | .inr e => G 52 0 1 = e.1 ∧ e.1 ≠ 0 ∧ G 52 0 2 = ((mv_tbg t n e.2 : Nat) : Int)
section DY
variable {G : mv_G} {t : Nat → Int} {n m : Nat}
/-- the token's own slots alone -/
def pr_y0 (G G2 : mv_G) : Prop := mv_ch [] [(52, 1), (52, 2), (52, 7)] G G2
theorem pr_y0.c {G G2 : mv_G} (h : pr_y0 G G2) : pr_yc G G2 := h.mono rfl rfl
theorem pr_y0.T {G G2 : mv_G} (h : pr_y0 G G2) (hT : mv_cT G t n m) : mv_cT G2 t n m := hT.ch h rfl rfl
theorem fx_stepY (k : Nat) (h : pr_yS G k) (hT : mv_cT G t n m) (hn : n ≤ 400) (hk : k < m) : mv_Kp (ff_X7_step [.inr (52, 0)] G) (fun _ G' => pr_yS G' (k + 1) ∧ pr_y0 G G') := by
  obtain ⟨h1, h2, h3⟩ := h
  have hm := hT.2.1
  refine mv_Kp.of (mv_JP.of (rg_X7_step_0 G) ?_)
  rw [h2, hT.1, mv_ws (by omega)]
  refine mv_J.t (by omega) (mv_J.ret ⟨⟨?_, ?_, ?_⟩, mv_ch.rf.up rfl⟩)
  · rw [mv_up_j (by decide)]; exact h1
  · rw [mv_ups_eq]; omega
  · rw [mv_up_j (by decide)]; exact h3
set_option maxRecDepth 100000 in
theorem fx_failY (k : Nat) (h : pr_yS G k) (hT : mv_cT G t n m) (hn : n ≤ 400) (hk : k ≤ m) (e : Int) (he : e ≠ 0) : mv_Kp (ff_X7_fail [.inr (52, 0), .inl e] G) (fun _ G' => pr_yE t n m G' (e, k) ∧ pr_y0 G G') := by
  obtain ⟨h1, h2, h3⟩ := h
  have hm := hT.2.1
  refine mv_Kp.of (mv_JP.of (rg_X7_fail_0 e G) ?_)
  rw [mv_up_j (by decide), h1, h2, mv_up_k (by decide : (65 : Nat) ≠ 52), Int.toNat_natCast, (hT.2.2.2.2 k (by omega)).2]
  refine mv_J.t rfl ?_
  rw [mv_ckp (n := 401) (by omega)]
  refine mv_J.ret ⟨⟨?_, he, ?_, ⟨k, hk, ?_⟩⟩, (mv_ch.rf.up rfl).up rfl⟩
  · rw [mv_up_j (by decide), mv_ups_eq]
  · rw [mv_ups_eq]
  · rw [mv_up_j (by decide), mv_up_j (by decide)]; exact h2
variable {e : Int × Nat}
theorem fx_failYE (h : pr_yE t n m G e) (x : Int) : ff_X7_fail [.inr (52, 0), .inl x] G = some (0, G) :=
  mv_Kp.eq (mv_Kp.of (mv_JP.of (rg_X7_fail_0 x G) (mv_J.f (fun h2 => h.2.1 (h.1.symm.trans h2)) (mv_J.ret ⟨rfl, rfl⟩))))
theorem fx_takeYE (h : pr_yE t n m G e) (x : Int) : ff_X7_take [.inr (52, 0), .inl x] G = some (0, G) :=
  mv_Kp.eq (mv_Kp.of (mv_JP.of (rg_X7_take_0 x G) (mv_J.f (fun h2 => h.2.1 (h.1.symm.trans h2)) (mv_J.ce (fx_failYE h 1) (mv_J.ret ⟨rfl, rfl⟩)))))
theorem fx_readNumberYE (h : pr_yE t n m G e) (hT : mv_cT G t n m) (hn : n ≤ 400) (x : Int) : mv_Kp (ff_X7_readNumber [.inr (52, 0), .inl x] G) (fun _ G' => G' = G) := by
  have hm := hT.2.1
  have hh := h
  obtain ⟨h1, h2, h3, k, hk, h4⟩ := h
  have ne : ¬ G 52 0 1 = 0 := fun h => h2 (h1.symm.trans h)
  refine mv_Kp.of (mv_JP.of (rg_X7_readNumber_0 x G) ?_)
  rw [mv_ckp (n := 401) (by omega)]
  exact mv_J.i (fun _ => mv_J.ce (fx_failYE hh 1) (mv_J.f ne (mv_J.ret rfl))) (fun _ => mv_J.i (fun _ => mv_J.i (fun _ => mv_J.ce (fx_failYE hh 2) (mv_J.f ne (mv_J.ret rfl))) (fun _ => mv_J.f ne (mv_J.ret rfl))) (fun _ => mv_J.ce (fx_failYE hh 1) (mv_J.f ne (mv_J.ret rfl))))
/-- a number -/
theorem fx_readNumberY (k : Nat) (h : pr_yS G k) (hT : mv_cT G t n m) (hn : n ≤ 400) (hk : k ≤ m) (x : Int) : mv_Kp (ff_X7_readNumber [.inr (52, 0), .inl x] G) (fun r G' => pr_y0 G G' ∧ ((¬ pr_nb (pr_I t n k) ∧ pr_yE t n m G' (1, k)) ∨ (pr_nb (pr_I t n k) ∧ x < pr_I t n k ∧ pr_yE t n m G' (2, k)) ∨ (pr_nb (pr_I t n k) ∧ ¬ x < pr_I t n k ∧ r = pr_I t n k ∧ k < m ∧ pr_yS G' (k + 1)))) := by
  have hm := hT.2.1
  have hIm := pr_I_m hT
  have e64 : G 64 0 k = pr_I t n k := pr_tk hn hT k hk
  refine mv_Kp.of (mv_JP.of (rg_X7_readNumber_0 x G) ?_)
  rw [h.2.1, mv_ckp (n := 401) (by omega), Int.toNat_natCast, e64]
  have bad : ∀ y : Int, y ≠ 0 → ((¬ pr_nb (pr_I t n k) ∧ y = 1) ∨ (pr_nb (pr_I t n k) ∧ x < pr_I t n k ∧ y = 2)) → mv_J mm_X7_readNumber (fun r G' => pr_y0 G G' ∧ ((¬ pr_nb (pr_I t n k) ∧ pr_yE t n m G' (1, k)) ∨ (pr_nb (pr_I t n k) ∧ x < pr_I t n k ∧ pr_yE t n m G' (2, k)) ∨ (pr_nb (pr_I t n k) ∧ ¬ x < pr_I t n k ∧ r = pr_I t n k ∧ k < m ∧ pr_yS G' (k + 1)))) (mv_cn (ff_X7_fail [.inr (52, 0), .inl y] G) fun r0 G0 => if G0 52 0 1 = 0 then mv_cn (ff_X7_step [.inr (52, 0)] G0) fun r1 G1 => some (.inl (pr_I t n k, G1)) else some (.inl (pr_I t n k, G0))) := fun y hy hc => by
    refine mv_J.cn (fx_failY k h hT hn hk y hy) (fun _ G2 h2 => ?_)
    refine mv_J.f (fun h3 => h2.1.2.1 (h2.1.1.symm.trans h3)) (mv_J.ret ⟨h2.2, ?_⟩)
    rcases hc with ⟨g1, rfl⟩ | ⟨g1, g2, rfl⟩
    · exact Or.inl ⟨g1, h2.1⟩
    · exact Or.inr (Or.inl ⟨g1, g2, h2.1⟩)
  refine mv_J.i (fun g1 => bad 1 (by decide) (Or.inl ⟨fun g => by have := g.1; omega, rfl⟩)) (fun g1 => mv_J.i (fun g2 => ?_) (fun g2 => bad 1 (by decide) (Or.inl ⟨fun g => by have := g.2; omega, rfl⟩)))
  have hnb : pr_nb (pr_I t n k) := ⟨by omega, by omega⟩
  refine mv_J.i (fun g3 => bad 2 (by decide) (Or.inr ⟨hnb, g3, rfl⟩)) (fun g3 => mv_J.t h.1 ?_)
  have hkm : k < m := by
    rcases Nat.lt_or_eq_of_le hk with h | h
    · exact h
    · exfalso; rw [h, hIm] at g1; exact g1 (by decide)
  exact mv_J.cn (fx_stepY k h hT hn hkm) (fun _ G2 h2 => mv_J.ret ⟨h2.2, Or.inr (Or.inr ⟨hnb, g3, rfl, hkm, h2.1⟩)⟩)
theorem fx_takeY (k : Nat) (h : pr_yS G k) (hT : mv_cT G t n m) (hn : n ≤ 400) (hk : k ≤ m) (x : Int) (hx : x ≠ -2) : mv_Kp (ff_X7_take [.inr (52, 0), .inl x] G) (fun _ G' => pr_y0 G G' ∧ ((¬ pr_I t n k = x ∧ pr_yE t n m G' (1, k)) ∨ (pr_I t n k = x ∧ k < m ∧ pr_yS G' (k + 1)))) := by
  have hm := hT.2.1
  have hIm := pr_I_m hT
  have e64 : G 64 0 k = pr_I t n k := pr_tk hn hT k hk
  refine mv_Kp.of (mv_JP.of (rg_X7_take_0 x G) ?_)
  rw [h.1, h.2.1, mv_ckp (n := 401) (by omega), Int.toNat_natCast, e64]
  refine mv_J.t rfl (mv_J.i (fun g => ?_) (fun g => mv_J.cn (fx_failY k h hT hn hk 1 (by decide)) (fun _ G2 h2 => mv_J.ret ⟨h2.2, Or.inl ⟨g, h2.1⟩⟩)))
  have hkm : k < m := by
    rcases Nat.lt_or_eq_of_le hk with h | h
    · exact h
    · exfalso; rw [h, hIm] at g; exact hx g.symm
  exact mv_J.cn (fx_stepY k h hT hn hkm) (fun _ G2 h2 => mv_J.ret ⟨h2.2, Or.inr ⟨g, hkm, h2.1⟩⟩)
theorem fx_addY (j : Nat) (hj : j < 24) (h : G 59 0 0 = (j : Int)) (a b c : Int) : ff_X3_add [.inr (59, 0), .inl a, .inl b, .inl c] G = some (0, mv_up (mv_up (mv_up (mv_up G 60 0 j a) 61 0 j b) 62 0 j c) 59 0 0 ((j : Int) + 1)) := by
  refine mv_Kp.eq (mv_Kp.of (mv_JP.of (rg_X3_add_0 a b c G) ?_))
  rw [mv_up_k (by decide : (59 : Nat) ≠ 62), mv_up_k (by decide : (59 : Nat) ≠ 61), mv_up_k (by decide : (59 : Nat) ≠ 60), h, Int.toNat_natCast, mv_ws (by omega)]
  exact mv_J.t (by omega) (mv_J.ck (by omega) (mv_J.ck (by omega) (mv_J.ck (by omega) (mv_J.ret ⟨rfl, rfl⟩))))
set_option maxHeartbeats 2000000 in
set_option maxRecDepth 100000 in
theorem fx_readDay (hn : n ≤ 400) (hb : ∀ j, j < n → 0 ≤ t j ∧ t j ≤ 255) (hT : mv_cT G t n m) (pp : Int) (hpp : 0 ≤ pp ∧ pp ≤ 10) (h1 : G 52 0 1 = 0) (h2 : G 52 0 2 = -1) (h7 : G 52 0 7 = 0) : mv_Kp (ff_X7_readDay [.inr (52, 0), .inl pp] G) (fun _ G' => pr_yV t n (pr_dy (pr_I t n) pp 500 0 0 (fun _ => 0) (fun _ => 0) (fun _ => 0)) G' ∧ pr_yc G G') := by
  have hm := hT.2.1
  have hIm := pr_I_m hT
  have hI : ∀ k, -2 ≤ pr_I t n k ∧ pr_I t n k < 40000 := fun k => mv_tk1_b hb _
  obtain ⟨Q, hQ⟩ : ∃ Q : pr_Y → Int → mv_G → Prop, Q = (fun R _ G' => pr_yV t n R G' ∧ pr_yc G G') := ⟨_, rfl⟩
  have key : ∀ (f i j k : Nat) (A W H : Nat → Int) (G1 : mv_G), m < k + f → pr_yc G G1 → pr_yS G1 k → pr_yN G1 j A W H → k ≤ m → i ≤ k → j ≤ 24 → mv_JP mm_X7_readDay (Q (pr_dy (pr_I t n) pp f j k A W H)) 10 [some (.inr (52, 0)), some (.inl pp), some (.inl (i : Int)), none, none, none] G1 := by
    intro f
    induction f with
    | zero => intro i j k A W H G1 h1 _ _ _ h4; omega
    | succ f ih =>
      intro i j k A W H G1 hf hc hS hN hk hi hj
      have hT1 : mv_cT G1 t n m := hT.ch hc rfl rfl
      have e64 : G1 64 0 k = pr_I t n k := pr_tk hn hT1 k hk
      have hv := hI k
      have dead : ∀ (e : Int × Nat) (v : Int) (G3 : mv_G), pr_yc G G3 → (G3 52 0 1 = e.1 ∧ e.1 ≠ 0 ∧ G3 52 0 2 = ((mv_tbg t n e.2 : Nat) : Int)) → mv_JP mm_X7_readDay (Q (.inr e)) 10 [some (.inr (52, 0)), some (.inl pp), some (.inl v), none, none, none] G3 := fun e v G3 c3 h3 => by
        refine mv_JP.of (rg_X7_readDay_10 _ _ G3) ?_
        have fin : mv_J mm_X7_readDay (Q (.inr e)) (some (.inl (0, G3))) := mv_J.ret (by rw [hQ]; exact ⟨h3, c3⟩)
        exact mv_J.i (fun _ => mv_J.f (fun h4 => h3.2.1 (h3.1.symm.trans h4)) fin) (fun _ => fin)
      refine mv_JP.of (rg_X7_readDay_10 _ _ G1) ?_
      rw [hT1.1, hS.1, hS.2.1, Int.toNat_natCast, e64, mv_ws (x := pr_I t n k - 20006) (by omega), mv_ws (x := pp - 1) (by omega), hN.1]
      refine mv_J.t (by omega) (mv_J.t rfl ?_)
      rw [mv_ckp (n := 401) (by omega), mv_ckp (n := 401) (by omega)]
      have bad : ∀ x : Int, x ≠ 0 → pr_dy (pr_I t n) pp (f + 1) j k A W H = .inr (x, k) → mv_J mm_X7_readDay (Q (pr_dy (pr_I t n) pp (f + 1) j k A W H)) (mv_cn (ff_X7_fail [.inr (52, 0), .inl x] G1) fun r0 G0 => some (.inl (0, G0))) := fun x hx he => by
        rw [he]
        exact mv_J.cn (fx_failY k hS hT1 hn hk x hx) (fun _ G2 h2 => mv_J.ret (by rw [hQ]; exact ⟨⟨h2.1.1, h2.1.2.1, h2.1.2.2.1⟩, hc.tr h2.2.c⟩))
      have dy : pr_dy (pr_I t n) pp (f + 1) j k A W H = pr_if (pr_I t n k = -2) (.inl (j, A, W, H)) (pr_if (¬ (20006 ≤ pr_I t n k ∧ pr_I t n k ≤ 20008)) (.inr (1, k)) (pr_if (24 ≤ j) (.inr (3, k))
      (pr_if (¬ pr_nb (pr_I t n (k + 1))) (.inr (1, k + 1)) (pr_if (pp - 1 < pr_I t n (k + 1)) (.inr (2, k + 1)) (pr_if (¬ pr_I t n (k + 2) = 20014) (.inr (1, k + 2))
      (pr_if (¬ pr_nb (pr_I t n (k + 3))) (.inr (1, k + 3)) (pr_if (999 < pr_I t n (k + 3)) (.inr (2, k + 3)) (pr_if (¬ pr_I t n (k + 4) = 30059) (.inr (1, k + 4))
      (pr_dy (pr_I t n) pp f (j + 1) (k + 5) (mv_sp A j (pr_I t n k - 20006)) (mv_sp W j (pr_I t n (k + 1))) (mv_sp H j (pr_I t n (k + 3)))))))))))) := rfl
      refine mv_J.i (fun c1 => mv_J.ret ?_) (fun c1 => mv_J.i (fun c2 => bad 1 (by decide) ?_) (fun c2 => mv_J.i (fun c3 => bad 1 (by decide) ?_) (fun c3 => mv_J.i (fun c4 => ?_) (fun c4 => bad 3 (by decide) ?_))))
      · rw [dy, pr_t c1, hQ]
        exact ⟨⟨hS.1, hS.2.2, hN⟩, hc⟩
      · rw [dy, pr_f c1, pr_t (by omega)]
      · rw [dy, pr_f c1, pr_t (by omega)]
      · have hkm : k < m := by
          rcases Nat.lt_or_eq_of_le hk with h | h
          · exact h
          · exact absurd (h ▸ hIm) c1
        rw [dy, pr_f c1, pr_f (show ¬ ¬ (20006 ≤ pr_I t n k ∧ pr_I t n k ≤ 20008) by omega), pr_f (show ¬ 24 ≤ j by omega)]
        clear dy bad
        -- what a told fault does with the rest
        have e5 : ∀ (e : Int × Nat) (x r1 r3 : Int) (G3 : mv_G), pr_yc G G3 → G3 59 0 0 = (j : Int) → pr_yE t n m G3 e → mv_J mm_X7_readDay (Q (.inr e)) (mv_cn (ff_X3_add [.inr (59, 0), .inl x, .inl r1, .inl r3] G3) fun r5 G5 => some (.inr (10, [some (.inr (52, 0)), some (.inl pp), some (.inl (mv_w ((i : Int) + 1))), none, none, none], G5))) := fun e x r1 r3 G3 c3 h59 hE => by
          refine mv_J.ce (fx_addY j (by omega) h59 _ _ _) (mv_J.cut (dead e _ _ ((((mv_ch.uc c3 rfl).uc rfl).uc rfl).up rfl) ?_))
          rw [mv_up_k (by decide), mv_up_k (by decide), mv_up_k (by decide), mv_up_k (by decide)]
          exact ⟨hE.1, hE.2.1, hE.2.2.1⟩
        have e4 : ∀ (e : Int × Nat) (x r1 r3 : Int) (G3 : mv_G), pr_yc G G3 → G3 59 0 0 = (j : Int) → pr_yE t n m G3 e → mv_J mm_X7_readDay (Q (.inr e)) (mv_cn (ff_X7_take [.inr (52, 0), .inl 30059] G3) fun r4 G4 => mv_cn (ff_X3_add [.inr (59, 0), .inl x, .inl r1, .inl r3] G4) fun r5 G5 => some (.inr (10, [some (.inr (52, 0)), some (.inl pp), some (.inl (mv_w ((i : Int) + 1))), none, none, none], G5))) := fun e x r1 r3 G3 c3 h59 hE => mv_J.ce (fx_takeYE hE _) (e5 e x r1 r3 G3 c3 h59 hE)
        have e3 : ∀ (e : Int × Nat) (x r1 : Int) (G3 : mv_G), pr_yc G G3 → G3 59 0 0 = (j : Int) → pr_yE t n m G3 e → mv_J mm_X7_readDay (Q (.inr e)) (mv_cn (ff_X7_readNumber [.inr (52, 0), .inl 999] G3) fun r3 G3 => mv_cn (ff_X7_take [.inr (52, 0), .inl 30059] G3) fun r4 G4 => mv_cn (ff_X3_add [.inr (59, 0), .inl x, .inl r1, .inl r3] G4) fun r5 G5 => some (.inr (10, [some (.inr (52, 0)), some (.inl pp), some (.inl (mv_w ((i : Int) + 1))), none, none, none], G5))) := fun e x r1 G3 c3 h59 hE => mv_J.cn (fx_readNumberYE hE (hT.ch c3 rfl rfl) hn _) (fun r3 G4 h4 => by subst h4; exact e4 e x r1 r3 _ c3 h59 hE)
        have e2 : ∀ (e : Int × Nat) (x r1 : Int) (G3 : mv_G), pr_yc G G3 → G3 59 0 0 = (j : Int) → pr_yE t n m G3 e → mv_J mm_X7_readDay (Q (.inr e)) (mv_cn (ff_X7_take [.inr (52, 0), .inl 20014] G3) fun r2 G3 => mv_cn (ff_X7_readNumber [.inr (52, 0), .inl 999] G3) fun r3 G3 => mv_cn (ff_X7_take [.inr (52, 0), .inl 30059] G3) fun r4 G4 => mv_cn (ff_X3_add [.inr (59, 0), .inl x, .inl r1, .inl r3] G4) fun r5 G5 => some (.inr (10, [some (.inr (52, 0)), some (.inl pp), some (.inl (mv_w ((i : Int) + 1))), none, none, none], G5))) := fun e x r1 G3 c3 h59 hE => mv_J.ce (fx_takeYE hE _) (e3 e x r1 G3 c3 h59 hE)
        refine mv_J.cn (fx_stepY k hS hT1 hn hkm) (fun _ G2 h3 => ?_)
        obtain ⟨hS2, d2⟩ := h3
        have hT2 := d2.T hT1
        have hc2 := hc.tr d2.c
        have h592 : G2 59 0 0 = (j : Int) := (d2.slot 59 0 rfl).trans hN.1
        refine mv_J.cn (fx_readNumberY (k + 1) hS2 hT2 hn (by omega) (pp - 1)) (fun r1 G3 h3 => ?_)
        obtain ⟨d3, h3⟩ := h3
        have hT3 := d3.T hT2
        have hc3 := hc2.tr d3.c
        have h593 : G3 59 0 0 = (j : Int) := (d3.slot 59 0 rfl).trans h592
        rcases h3 with ⟨g1, g2⟩ | ⟨g1, g2, g3⟩ | ⟨g1, g2, g3, g4, g5⟩
        · rw [pr_t g1]; exact e2 _ _ _ G3 hc3 h593 g2
        · rw [pr_f (fun h => h g1), pr_t g2]; exact e2 _ _ _ G3 hc3 h593 g3
        rw [pr_f (fun h => h g1), pr_f g2, g3]
        refine mv_J.cn (fx_takeY (k + 2) g5 hT3 hn (by omega) 20014 (by decide)) (fun _ G4 h4 => ?_)
        obtain ⟨d4, h4⟩ := h4
        have hT4 := d4.T hT3
        have hc4 := hc3.tr d4.c
        have h594 : G4 59 0 0 = (j : Int) := (d4.slot 59 0 rfl).trans h593
        rcases h4 with ⟨q1, q2⟩ | ⟨q1, q2, q3⟩
        · rw [pr_t q1]; exact e3 _ _ _ G4 hc4 h594 q2
        rw [pr_f (fun h => h q1)]
        refine mv_J.cn (fx_readNumberY (k + 3) q3 hT4 hn (by omega) 999) (fun r3 G5 h5 => ?_)
        obtain ⟨d5, h5⟩ := h5
        have hT5 := d5.T hT4
        have hc5 := hc4.tr d5.c
        have h595 : G5 59 0 0 = (j : Int) := (d5.slot 59 0 rfl).trans h594
        rcases h5 with ⟨p1, p2⟩ | ⟨p1, p2, p3⟩ | ⟨p1, p2, p3, p4, p5⟩
        · rw [pr_t p1]; exact e4 _ _ _ _ G5 hc5 h595 p2
        · rw [pr_f (fun h => h p1), pr_t p2]; exact e4 _ _ _ _ G5 hc5 h595 p3
        rw [pr_f (fun h => h p1), pr_f p2, p3]
        refine mv_J.cn (fx_takeY (k + 4) p5 hT5 hn (by omega) 30059 (by decide)) (fun _ G6 h6 => ?_)
        obtain ⟨d6, h6⟩ := h6
        have hc6 := hc5.tr d6.c
        have h596 : G6 59 0 0 = (j : Int) := (d6.slot 59 0 rfl).trans h595
        rcases h6 with ⟨s1, s2⟩ | ⟨s1, s2, s3⟩
        · rw [pr_t s1]; exact e5 _ _ _ _ G6 hc6 h596 s2
        rw [pr_f (fun h => h s1)]
        have hN6 : pr_yN G6 j A W H := by
          refine ⟨h596, fun l hl => ?_⟩
          rw [d6.cell 60 rfl, d6.cell 61 rfl, d6.cell 62 rfl, d5.cell 60 rfl, d5.cell 61 rfl, d5.cell 62 rfl, d4.cell 60 rfl, d4.cell 61 rfl, d4.cell 62 rfl, d3.cell 60 rfl, d3.cell 61 rfl, d3.cell 62 rfl, d2.cell 60 rfl, d2.cell 61 rfl, d2.cell 62 rfl]
          exact hN.2 l hl
        rw [mv_ws (x := (i : Int) + 1) (by omega)]
        refine mv_J.ce (fx_addY j (by omega) h596 _ _ _) (mv_J.cut ?_)
        refine ih (i + 1) (j + 1) (k + 5) _ _ _ _ (by omega) ((((mv_ch.uc hc6 rfl).uc rfl).uc rfl).up rfl) ?_ ⟨mv_ups_eq, fun l hl => ?_⟩ (by omega) (by omega) (by omega)
        · unfold pr_yS
          rw [mv_up_k (by decide), mv_up_k (by decide), mv_up_k (by decide), mv_up_k (by decide)]
          exact s3
        · rw [mv_up_k (by decide : (60 : Nat) ≠ 59), mv_up_k (by decide : (61 : Nat) ≠ 59), mv_up_k (by decide : (62 : Nat) ≠ 59), mv_up_k (by decide : (60 : Nat) ≠ 62), mv_up_k (by decide : (61 : Nat) ≠ 62), mv_up_k (by decide : (60 : Nat) ≠ 61), mv_up_at, mv_up_at, mv_up_at]
          unfold mv_sp
          by_cases e : l = j
          · refine ⟨?_, ?_, ?_⟩ <;> rw [if_pos e, if_pos e]
          · rw [if_neg e, if_neg e, if_neg e, if_neg e, if_neg e, if_neg e]
            rw [mv_up_k (by decide : (61 : Nat) ≠ 60), mv_up_k (by decide : (62 : Nat) ≠ 61), mv_up_k (by decide : (62 : Nat) ≠ 60)]
            exact hN6.2 l (by omega)
      · rw [dy, pr_f c1, pr_f (show ¬ ¬ (20006 ≤ pr_I t n k ∧ pr_I t n k ≤ 20008) by omega), pr_t (by omega)]
  refine mv_Kp.mono (P := Q (pr_dy (pr_I t n) pp 500 0 0 (fun _ => 0) (fun _ => 0) (fun _ => 0))) (mv_Kp.of (mv_JP.of (rg_X7_readDay_0 pp G) (mv_J.cut ?_))) (fun r G' h => by rw [hQ] at h; exact h)
  refine key 500 0 0 0 _ _ _ _ (by omega) (mv_ch.rf.up rfl) ⟨?_, ?_, ?_⟩ ⟨mv_ups_eq, fun l hl => absurd hl (Nat.not_lt_zero l)⟩ (Nat.zero_le _) (Nat.le_refl _) (Nat.zero_le _)
  · rw [mv_up_k (by decide)]; exact h1
  · rw [mv_up_k (by decide)]; exact h7
  · rw [mv_up_k (by decide)]; exact h2
end DY
