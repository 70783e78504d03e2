/-! image. -/
section KQ
variable {G G0 G1 : mv_G} {a : mv_a} {t : Int}
set_option maxRecDepth 100000 in
theorem gx_keepsBench (h4 : t ≠ 0 → ∀ j, j < 60 → G0 104 0 j = 0 ∨ G0 104 0 j = 1) (h7 : t = 0 → ∀ j, j < 60 → G0 137 0 (73 + j) = 0 ∨ G0 137 0 (73 + j) = 1) (hI : kp_I t G0 72 G1) : mv_Kp (ff_X12_keepsBench [.inr (100, 0)] G1) (fun _ G2 => kp_I t G0 258 G2) := by
  have lpd : ∀ (k i : Nat) (G2 : mv_G), i + k = 72 → kp_I t G0 (186 + i) G2 → mv_JP mm_X12_keepsBench (fun _ G2 => kp_I t G0 258 G2) 179 [some (.inr (100, 0)), some (.inl (i : Int))] G2 := by
    intro k
    induction k with
    | zero =>
      intro i G2 hk h
      rw [show 186 + i = 258 by omega] at h
      exact mv_JP.of (rg_X12_keepsBench_179 _ _) (mv_J.f (by omega) (mv_J.ret h))
    | succ k ih =>
      intro i G2 hk h
      refine mv_JP.of (rg_X12_keepsBench_179 _ _) ?_
      rw [Int.toNat_natCast, show mv_w ((i : Int) + 1) = ((i + 1 : Nat) : Int) from mv_ws (by omega), mv_ckp (n := 144) (by omega)]
      refine mv_J.t (by omega) (mv_J.cn (kp_s h (by omega) (kp_d (by omega)) rfl _ (fun _ _ => rfl)) (fun r G3 h3 => ?_))
      rw [mv_ckp (n := 144) (by omega)]
      exact mv_J.cut (ih (i + 1) _ (by omega) (h3.2.1 r (fun _ => rfl)))
  have lpp : ∀ (k p : Nat) (G2 : mv_G), p + k = 10 → kp_I t G0 (135 + 5 * p) G2 → mv_JP mm_X12_keepsBench (fun _ G2 => kp_I t G0 258 G2) 73 [some (.inr (100, 0)), some (.inl (p : Int))] G2 := by
    intro k
    induction k with
    | zero =>
      intro p G2 hk h
      rw [show 135 + 5 * p = 185 by omega] at h
      exact mv_JP.of (rg_X12_keepsBench_73 _ _) (mv_J.f (by omega) (mv_J.cn (kp_s h (by omega) ⟨rfl, rfl⟩ (by decide) _ (fun _ _ => rfl)) (fun r G3 h3 => mv_J.cut (lpd 72 0 _ rfl (h3.2.1 r (fun _ => rfl))))))
    | succ k ih =>
      intro p G2 hk h
      refine mv_JP.of (rg_X12_keepsBench_73 _ _) ?_
      rw [Int.toNat_natCast, show mv_w ((p : Int) + 1) = ((p + 1 : Nat) : Int) from mv_ws (by omega)]
      refine mv_J.t (by omega) (mv_J.ck (by omega) (mv_J.cn (kp_s h (by omega) (kp_c (w := 0) (by omega) (by decide)) rfl _ (fun _ _ => rfl)) (fun r G3 h3 => mv_J.ck (by omega) (mv_J.ck (by omega) ?_))))
      refine mv_J.cn (kp_s (h3.2.1 r (fun _ => rfl)) (by omega) (kp_c (w := 1) (by omega) (by decide)) rfl _ (fun _ _ => rfl)) (fun r G4 h4 => mv_J.ck (by omega) (mv_J.ck (by omega) ?_))
      refine mv_J.cn (kp_s (h4.2.1 r (fun _ => rfl)) (by omega) (kp_c (w := 2) (by omega) (by decide)) rfl _ (fun _ _ => rfl)) (fun r G5 h5 => mv_J.ck (by omega) (mv_J.ck (by omega) ?_))
      refine mv_J.cn (kp_s (h5.2.1 r (fun _ => rfl)) (by omega) (kp_c (w := 3) (by omega) (by decide)) rfl _ (fun _ _ => rfl)) (fun r G6 h6 => mv_J.ck (by omega) (mv_J.ck (by omega) ?_))
      refine mv_J.cn (kp_s (h6.2.1 r (fun _ => rfl)) (by omega) (kp_c (w := 4) (by omega) (by decide)) rfl _ (fun _ _ => rfl)) (fun r G7 h7 => mv_J.ck (by omega) (mv_J.cut (ih (p + 1) _ (by omega) ?_)))
      have := h7.2.1 r (fun _ => rfl)
      rw [show 135 + 5 * (p + 1) = 135 + 5 * p + 4 + 1 by omega]
      exact this
  have lpr : ∀ (k i : Nat) (G2 : mv_G), i + k = 61 → kp_I t G0 (73 + i) G2 → mv_JP mm_X12_keepsBench (fun _ G2 => kp_I t G0 258 G2) 14 [some (.inr (100, 0)), some (.inl (i : Int))] G2 := by
    intro k
    induction k with
    | zero =>
      intro i G2 hk h
      rw [show 73 + i = 134 by omega] at h
      exact mv_JP.of (rg_X12_keepsBench_14 _ _) (mv_J.t (by omega) (mv_J.cn (kp_s h (by omega) ⟨rfl, rfl⟩ (by decide) _ (fun _ _ => rfl)) (fun r G3 h3 => mv_J.cut (lpp 10 0 _ rfl (h3.2.1 r (fun _ => rfl))))))
    | succ k ih =>
      intro i G2 hk h
      refine mv_JP.of (rg_X12_keepsBench_14 _ _) ?_
      rw [Int.toNat_natCast, show mv_w ((i : Int) + 1) = ((i + 1 : Nat) : Int) from mv_ws (by omega), mv_ckp (n := 61) (by omega)]
      have hr : mv_rel 104 i → i < 60 := fun h => by unfold mv_rel at h; omega
      have fin : ∀ (v : Int) (r : Int) (G3 : mv_G), (v = 0 ∨ v = 1) → (r = (if t = 0 then G2 137 0 (73 + i) else v) ∧ (∀ v', (mv_rel 104 i → v' = r) → kp_I t G0 (73 + i + 1) (mv_up G3 104 0 i v')) ∧ ∀ k2 j2, k2 ≠ 137 → (k2 = 100 → j2 ≠ 69) → G3 k2 0 j2 = G2 k2 0 j2) → mv_J mm_X12_keepsBench (fun _ G2 => kp_I t G0 258 G2) (if r = 1 then (mv_ck (i : Int) 61 (mv_ck 1 2 (some (.inr (14, [some (.inr (100, 0)), some (.inl ((i + 1 : Nat) : Int))], mv_up G3 104 0 i 1))))) else (mv_ck (i : Int) 61 (mv_ck 0 2 (some (.inr (14, [some (.inr (100, 0)), some (.inl ((i + 1 : Nat) : Int))], mv_up G3 104 0 i 0)))))) := fun v r G3 hv h3 => by
        rw [mv_ckp (n := 61) (by omega), mv_ckp (n := 61) (by omega)]
        refine mv_J.i (fun e => mv_J.ck (by decide) (mv_J.cut (ih (i + 1) _ (by omega) (h3.2.1 1 (fun _ => e.symm))))) (fun e => mv_J.ck (by decide) (mv_J.cut (ih (i + 1) _ (by omega) (h3.2.1 0 (fun hr2 => ?_)))))
        have e2 := h3.1
        by_cases c : t = 0
        · rw [if_pos c, h.2.2.1 c] at e2
          have := h7 c i (hr hr2)
          omega
        · rw [if_neg c] at e2
          omega
      refine mv_J.f (by omega) (mv_J.i (fun e => ?_) (fun e => ?_))
      · exact mv_J.cn (kp_s h (by omega) (kp_b (by omega)) rfl 0 (fun _ _ => e.symm)) (fun r G3 h3 => fin 0 r G3 (Or.inl rfl) h3)
      · refine mv_J.cn (kp_s h (by omega) (kp_b (by omega)) rfl 1 (fun ht hr2 => ?_)) (fun r G3 h3 => fin 1 r G3 (Or.inr rfl) h3)
        have := h4 ht i (hr hr2)
        have e2 := h.2.2.2.1 ht 104 i hr2
        omega
  exact mv_Kp.of (mv_JP.of (rg_X12_keepsBench_0 G1) (mv_J.cn (kp_s hI (by omega) ⟨rfl, rfl⟩ (by decide) _ (fun _ _ => rfl)) (fun r G3 h3 => mv_J.cut (lpr 61 0 _ rfl (h3.2.1 r (fun _ => rfl))))))
set_option maxRecDepth 100000 in
theorem gx_keepsLaw (w : Nat) (hw : w < 2) (hI : kp_I t G0 (858 + 849 * w) G1) : mv_Kp (ff_X12_keepsLaw [.inr (100, 0), .inl w] G1) (fun _ G2 => kp_I t G0 (858 + 849 * (w + 1)) G2) := by
  have lpc : ∀ (k c : Nat) (G2 : mv_G), c + k = 400 → kp_I t G0 (907 + 849 * w + 2 * c) G2 → mv_JP mm_X12_keepsLaw (fun _ G2 => kp_I t G0 (858 + 849 * (w + 1)) G2) 92 [some (.inr (100, 0)), some (.inl (w : Int)), some (.inl ((400 * w + c : Nat) : Int))] G2 := by
    intro k
    induction k with
    | zero =>
      intro c G2 hk h
      rw [show 907 + 849 * w + 2 * c = 858 + 849 * (w + 1) by omega] at h
      refine mv_JP.of (rg_X12_keepsLaw_92 _ _ _) ?_
      rw [mv_ws (x := 400 * (w : Int)) (by omega), mv_ws (x := 400 * (w : Int) + 400) (by omega)]
      exact mv_J.f (by omega) (mv_J.ret h)
    | succ k ih =>
      intro c G2 hk h
      refine mv_JP.of (rg_X12_keepsLaw_92 _ _ _) ?_
      rw [Int.toNat_natCast, show mv_w (((400 * w + c : Nat) : Int) + 1) = ((400 * w + (c + 1) : Nat) : Int) from mv_ws (by omega), mv_ws (x := 400 * (w : Int)) (by omega), mv_ws (x := 400 * (w : Int) + 400) (by omega), mv_ckp (n := 1200) (by omega)]
      refine mv_J.t (by omega) (mv_J.cn (kp_s h (by omega) (kp_h (x := 0) (by omega) (by decide)) rfl _ (fun _ _ => rfl)) (fun r G3 h3 => ?_))
      rw [mv_ckp (n := 1200) (by omega), mv_ckp (n := 1200) (by omega)]
      refine mv_J.cn (kp_s (h3.2.1 r (fun _ => rfl)) (by omega) (kp_h (x := 1) (by omega) (by decide)) rfl _ (fun _ _ => rfl)) (fun r G4 h4 => ?_)
      rw [mv_ckp (n := 1200) (by omega)]
      refine mv_J.cut (ih (c + 1) _ (by omega) ?_)
      rw [show 907 + 849 * w + 2 * (c + 1) = 907 + 849 * w + 2 * c + 1 + 1 by omega]
      exact h4.2.1 r (fun _ => rfl)
  have lpl : ∀ (k l : Nat) (G2 : mv_G), l + k = 16 → kp_I t G0 (859 + 849 * w + 3 * l) G2 → mv_JP mm_X12_keepsLaw (fun _ G2 => kp_I t G0 (858 + 849 * (w + 1)) G2) 21 [some (.inr (100, 0)), some (.inl (w : Int)), some (.inl ((16 * w + l : Nat) : Int))] G2 := by
    intro k
    induction k with
    | zero =>
      intro l G2 hk h
      rw [show 859 + 849 * w + 3 * l = 907 + 849 * w + 2 * 0 by omega] at h
      refine mv_JP.of (rg_X12_keepsLaw_21 _ _ _) ?_
      rw [mv_ws (x := 16 * (w : Int)) (by omega), mv_ws (x := 16 * (w : Int) + 16) (by omega), mv_ws (x := 400 * (w : Int)) (by omega), show 400 * (w : Int) = ((400 * w + 0 : Nat) : Int) by omega]
      exact mv_J.f (by omega) (mv_J.cut (lpc 400 0 G2 rfl h))
    | succ k ih =>
      intro l G2 hk h
      refine mv_JP.of (rg_X12_keepsLaw_21 _ _ _) ?_
      rw [Int.toNat_natCast, show mv_w (((16 * w + l : Nat) : Int) + 1) = ((16 * w + (l + 1) : Nat) : Int) from mv_ws (by omega), mv_ws (x := 16 * (w : Int)) (by omega), mv_ws (x := 16 * (w : Int) + 16) (by omega)]
      refine mv_J.t (by omega) (mv_J.ck (by omega) (mv_J.cn (kp_s h (by omega) (kp_g (x := 0) (by omega) (by decide)) rfl _ (fun _ _ => rfl)) (fun r G3 h3 => mv_J.ck (by omega) (mv_J.ck (by omega) ?_))))
      refine mv_J.cn (kp_s (h3.2.1 r (fun _ => rfl)) (by omega) (kp_g (x := 1) (by omega) (by decide)) rfl _ (fun _ _ => rfl)) (fun r G4 h4 => mv_J.ck (by omega) (mv_J.ck (by omega) ?_))
      refine mv_J.cn (kp_s (h4.2.1 r (fun _ => rfl)) (by omega) (kp_g (x := 2) (by omega) (by decide)) rfl _ (fun _ _ => rfl)) (fun r G5 h5 => mv_J.ck (by omega) (mv_J.cut (ih (l + 1) _ (by omega) ?_)))
      rw [show 859 + 849 * w + 3 * (l + 1) = 859 + 849 * w + 3 * l + 2 + 1 by omega]
      exact h5.2.1 r (fun _ => rfl)
  refine mv_Kp.of (mv_JP.of (rg_X12_keepsLaw_0 _ G1) (mv_J.ck (by omega) ?_))
  rw [Int.toNat_natCast, mv_ws (x := 16 * (w : Int)) (by omega), show 16 * (w : Int) = ((16 * w + 0 : Nat) : Int) by omega]
  refine mv_J.cn (kp_s hI (by omega) kp_f rfl _ (fun _ _ => rfl)) (fun r G3 h3 => mv_J.ck (by omega) (mv_J.cut (lpl 16 0 _ rfl ?_)))
  rw [show 859 + 849 * w + 3 * 0 = 858 + 849 * w + 1 by omega]
  exact h3.2.1 r (fun _ => rfl)
set_option maxRecDepth 100000 in
/-- from the start of the image on -/
theorem gx_image1 (h4 : t ≠ 0 → ∀ j, j < 60 → G0 104 0 j = 0 ∨ G0 104 0 j = 1) (h7 : t = 0 → ∀ j, j < 60 → G0 137 0 (73 + j) = 0 ∨ G0 137 0 (73 + j) = 1) (hI : kp_I t G0 0 G0) {Q : Int → mv_G → Prop} (hQ : ∀ G2, kp_I t G0 2556 G2 → Q 1 (if t = 0 then mv_up G2 100 0 3 0 else G2)) : mv_JP mm_X12_image Q 35 [some (.inr (100, 0)), some (.inl t), some (.inl 0)] G0 := by
  have lpb : ∀ (k i : Nat) (G2 : mv_G), i + k = 600 → kp_I t G0 (258 + i) G2 → mv_JP mm_X12_image Q 69 [some (.inr (100, 0)), some (.inl t), some (.inl (i : Int))] G2 := by
    intro k
    induction k with
    | zero =>
      intro i G2 hk h
      rw [show 258 + i = 858 + 849 * 0 by omega] at h
      refine mv_JP.of (rg_X12_image_69 _ _ _) (mv_J.f (by omega) (mv_J.cn (gx_keepsLaw 0 (by decide) h) (fun _ G3 h3 => mv_J.cn (gx_keepsLaw 1 (by decide) h3) (fun _ G4 h4 => ?_))))
      have hq := hQ G4 h4
      refine mv_J.i (fun e => mv_J.r0 (Or.inr rfl) ?_) (fun e => mv_J.r0 (Or.inr rfl) ?_)
      · rw [if_pos e] at hq; exact hq
      · rw [if_neg e] at hq; exact hq
    | succ k ih =>
      intro i G2 hk h
      refine mv_JP.of (rg_X12_image_69 _ _ _) ?_
      rw [Int.toNat_natCast, show mv_w ((i : Int) + 1) = ((i + 1 : Nat) : Int) from mv_ws (by omega), mv_ckp (n := 600) (by omega)]
      refine mv_J.t (by omega) (mv_J.cn (kp_s h (by omega) (kp_e (by omega)) rfl _ (fun _ _ => rfl)) (fun r G3 h3 => ?_))
      rw [mv_ckp (n := 600) (by omega)]
      exact mv_J.cut (ih (i + 1) _ (by omega) (h3.2.1 r (fun _ => rfl)))
  have lpn : ∀ (k i : Nat) (G2 : mv_G), i + k = 72 → kp_I t G0 i G2 → mv_JP mm_X12_image Q 35 [some (.inr (100, 0)), some (.inl t), some (.inl (i : Int))] G2 := by
    intro k
    induction k with
    | zero =>
      intro i G2 hk h
      rw [show i = 72 by omega] at h
      exact mv_JP.of (rg_X12_image_35 _ _ _) (mv_J.f (by omega) (mv_J.cn (gx_keepsBench h4 h7 h) (fun _ G3 h3 => mv_J.cut (lpb 600 0 G3 rfl h3))))
    | succ k ih =>
      intro i G2 hk h
      refine mv_JP.of (rg_X12_image_35 _ _ _) ?_
      rw [Int.toNat_natCast, show mv_w ((i : Int) + 1) = ((i + 1 : Nat) : Int) from mv_ws (by omega), mv_ckp (n := 72) (by omega)]
      refine mv_J.t (by omega) (mv_J.cn (kp_s h (by omega) (kp_a (by omega)) rfl _ (fun _ _ => rfl)) (fun r G3 h3 => ?_))
      rw [mv_ckp (n := 72) (by omega)]
      exact mv_J.cut (ih (i + 1) _ (by omega) (h3.2.1 r (fun _ => rfl)))
  exact lpn 72 0 G0 rfl hI
end KQ
