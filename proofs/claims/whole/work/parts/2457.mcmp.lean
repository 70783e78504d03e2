/-! TEXT: the reference reads sums and comparisons. -/
section MC
variable {G : mv_G} {t : Nat → Int} {n m kd : Nat}
theorem pr_ps_s {I : Nat → Int} (f : Nat) (sg : Int) (S : pr_S) : pr_ps I kd (f + 1) sg S = pr_bd (pr_pp I kd 500 0 S) fun S1 => pr_if (I S1.1 = 30043 ∨ I S1.1 = 30045) (pr_ps I kd f (I S1.1) (pr_st (pr_sg S1 sg))) (.inl (pr_sg S1 sg)) := rfl
set_option maxHeartbeats 2000000 in
theorem gx_readSum (hn : n ≤ 400) (hb : ∀ j, j < n → 0 ≤ t j ∧ t j ≤ 255) (hE : pr_mE G t n kd) (hkd : kd ≤ 1) (hIm : pr_I t n m = -2) (hm : m ≤ n) (S : pr_S) (h : pr_mS G t n S) (hk : S.1 ≤ m) (hz : S.2.1 ≤ S.1) : mv_Kp (ff_X12_readSum [.inr (100, 0)] G) (pr_M t n G (pr_ps (pr_I t n) kd 500 0 S)) := by
  have hlt : ∀ k, k ≤ m → pr_I t n k ≠ -2 → k < m := fun k h1 h2 => by
    rcases Nat.lt_or_eq_of_le h1 with h | h
    · exact h
    · exact absurd (h ▸ hIm) h2
  have key : ∀ (f : Nat) (U : pr_S) (G1 : mv_G), pr_mb G G1 → pr_mS G1 t n U → U.1 ≤ m → U.2.1 ≤ U.1 → m < U.1 + 1 + f → mv_JP mm_X12_readSum (pr_M t n G (pr_if (pr_I t n U.1 = 30043 ∨ pr_I t n U.1 = 30045) (pr_ps (pr_I t n) kd f (pr_I t n U.1) (pr_st U)) (.inl U))) 10 [some (.inr (100, 0)), none] G1 := by
    intro f
    induction f with
    | zero =>
      intro U G1 hc hU hk hz hf
      have e : U.1 = m := by omega
      have hno : ¬ (pr_I t n U.1 = 30043 ∨ pr_I t n U.1 = 30045) := fun h => by rw [e, hIm] at h; omega
      rw [pr_f hno]
      refine mv_JP.of (rg_X12_readSum_10 G1) (mv_J.ce (gx_isSign U.1 43 (by decide) hU.1) (mv_J.bt (fun _ => mv_J.ce (gx_isSign U.1 45 (by decide) hU.1) (mv_J.bt (fun _ => mv_J.ret ⟨⟨rfl, hU⟩, hc⟩) (fun h => absurd (Or.inr (by omega)) hno))) (fun h => absurd (Or.inl (by omega)) hno)))
    | succ f ih =>
      intro U G1 hc hU hk hz hf
      have go : ∀ (sg cc : Int), (sg = 30043 ∧ cc = 2 ∨ sg = 30045 ∧ cc = 3) → pr_I t n U.1 = sg → mv_J mm_X12_readSum (pr_M t n G (pr_ps (pr_I t n) kd (f + 1) sg (pr_st U))) (mv_cn (ff_X12_reads [.inr (100, 0)] G1) fun r2 G2 => mv_cn (ff_X12_readProduct [.inr (100, 0)] G2) fun r3 G3 => if r3 = -1 then some (.inl (-1, G3)) else mv_cn (ff_X12_emits [.inr (100, 0), .inl cc, .inl 0] G3) fun r4 G4 => some (.inr (10, [some (.inr (100, 0)), none], G4))) := by
        intro sg cc hsg hu
        have hkm := hlt U.1 hk (by omega)
        rw [pr_ps_s]
        refine mv_J.cn (gx_readsS hn hb (hE.mb hc) U hU) (fun _ G2 h3 => ?_)
        obtain ⟨hU2, c2⟩ := h3
        have hc2 := hc.tr c2
        refine mv_J.cn (gx_readProduct hn hb (hE.mb hc2) hkd hIm hm (pr_st U) hU2 (show U.1 + 1 ≤ m by omega) (show U.2.1 ≤ U.1 + 1 by omega)) (fun r G3 h3 => ?_)
        obtain ⟨h3, c3⟩ := h3
        cases hp : pr_pp (pr_I t n) kd 500 0 (pr_st U) with
        | inr e =>
          rw [hp] at h3
          exact mv_J.t h3.1 (mv_J.ret ⟨⟨rfl, h3.2⟩, hc2.tr c3⟩)
        | inl V =>
          rw [hp] at h3
          have b := pr_pp_b hIm 500 0 (pr_st U) V 1 (show U.1 + 1 ≤ m by omega) (show U.2.1 + 1 + 0 ≤ U.1 + 1 by omega) hp
          have e1 : (pr_st U).1 = U.1 + 1 := rfl
          have esg : pr_sg V sg = pr_ad V sg := if_neg (by omega)
          have y : (pr_sg V sg).1 = V.1 := pr_sg_1
          refine mv_J.f (by have := h3.1; omega) (mv_J.cn (gx_emits V h3.2 (by omega) cc 0 sg ?_ ?_) (fun _ G4 h4 => mv_J.cut ?_))
          · rcases hsg with ⟨rfl, rfl⟩ | ⟨rfl, rfl⟩ <;> decide
          · rcases hsg with ⟨rfl, rfl⟩ | ⟨rfl, rfl⟩ <;> decide
          · have := ih (pr_sg V sg) G4 ((hc2.tr c3).tr h4.2) (by rw [esg]; exact h4.1) (by omega) (by rw [esg]; show V.2.1 + 1 ≤ V.1; omega) (by omega)
            rw [y] at this
            exact this
      have v43 := (pr_tok_s U.1 43 (by decide) hU.1)
      have v45 := (pr_tok_s U.1 45 (by decide) hU.1)
      refine mv_JP.of (rg_X12_readSum_10 G1) (mv_J.ce (gx_isSign U.1 43 (by decide) hU.1) (mv_J.bt (fun h1 => mv_J.ce (gx_isSign U.1 45 (by decide) hU.1) (mv_J.bt (fun h2 => mv_J.ret ?_) (fun h2 => ?_))) (fun h1 => ?_)))
      · rw [pr_f (by omega)]
        exact ⟨⟨rfl, hU⟩, hc⟩
      · have hu : pr_I t n U.1 = 30045 := by omega
        rw [pr_t (Or.inr hu), hu]
        exact mv_J.f (by have := v45.mpr h2; omega) (go 30045 3 (Or.inr ⟨rfl, rfl⟩) hu)
      · have hu : pr_I t n U.1 = 30043 := by omega
        rw [pr_t (Or.inl hu), hu]
        exact mv_J.t (v43.mpr h1).2 (go 30043 2 (Or.inl ⟨rfl, rfl⟩) hu)
  refine mv_Kp.of (mv_JP.of (rg_X12_readSum_0 G) (mv_J.cn (gx_readProduct hn hb hE hkd hIm hm S h hk hz) (fun r G2 h2 => ?_)))
  obtain ⟨h2, c2⟩ := h2
  rw [pr_ps_s]
  cases hp : pr_pp (pr_I t n) kd 500 0 S with
  | inr e =>
    rw [hp] at h2
    exact mv_J.t h2.1 (mv_J.ret ⟨⟨rfl, h2.2⟩, c2⟩)
  | inl U =>
    rw [hp] at h2
    have b := pr_pp_b hIm 500 0 S U 0 hk (by rw [if_pos rfl]; omega) hp
    have esg : pr_sg U 0 = U := rfl
    refine mv_J.f (by have := h2.1; omega) (mv_J.cut ?_)
    show mv_JP _ (pr_M t n G (pr_if (pr_I t n U.1 = 30043 ∨ pr_I t n U.1 = 30045) (pr_ps (pr_I t n) kd 499 (pr_I t n U.1) (pr_st U)) (.inl U))) _ _ _
    exact key 499 U G2 c2 h2.2 b.2.1 (by omega) (by omega)
noncomputable def pr_cp (I : Nat → Int) (kd : Nat) (S : pr_S) : pr_R := pr_bd (pr_ps I kd 500 0 S) fun S1 => pr_if (pr_cmp (I S1.1)) (pr_bd (pr_ps I kd 500 0 (pr_st S1)) fun S2 => .inl (pr_ad S2 (I S1.1))) (.inr (1, S1.1))
set_option maxHeartbeats 1000000 in
theorem gx_readCompared (hn : n ≤ 400) (hb : ∀ j, j < n → 0 ≤ t j ∧ t j ≤ 255) (hE : pr_mE G t n kd) (hkd : kd ≤ 1) (hIm : pr_I t n m = -2) (hm : m ≤ n) (S : pr_S) (h : pr_mS G t n S) (hk : S.1 ≤ m) (hz : S.2.1 ≤ S.1) : mv_Kp (ff_X12_readCompared [.inr (100, 0)] G) (pr_M t n G (pr_cp (pr_I t n) kd S)) := by
  refine mv_Kp.of (mv_JP.of (rg_X12_readCompared_0 G) (mv_J.cn (gx_readSum hn hb hE hkd hIm hm S h hk hz) (fun r G2 h2 => ?_)))
  obtain ⟨h2, c2⟩ := h2
  unfold pr_cp
  cases hp : pr_ps (pr_I t n) kd 500 0 S with
  | inr e =>
    rw [hp] at h2
    exact mv_J.t h2.1 (mv_J.ret ⟨⟨rfl, h2.2⟩, c2⟩)
  | inl U =>
    rw [hp] at h2
    obtain ⟨h20, hU⟩ := h2
    have b := pr_ps_b hIm 500 0 S U 0 hk (by rw [if_pos rfl]; omega) hp
    show mv_J _ (pr_M t n G (pr_if (pr_cmp (pr_I t n U.1)) (pr_bd (pr_ps (pr_I t n) kd 500 0 (pr_st U)) fun S2 => .inl (pr_ad S2 (pr_I t n U.1))) (.inr (1, U.1)))) _
    have go : ∀ (sg cc : Int), (sg = 30060 ∧ cc = 6 ∨ sg = 30061 ∧ cc = 7 ∨ sg = 30062 ∧ cc = 8) → pr_I t n U.1 = sg → mv_J mm_X12_readCompared (pr_M t n G (pr_if (pr_cmp (pr_I t n U.1)) (pr_bd (pr_ps (pr_I t n) kd 500 0 (pr_st U)) fun S2 => .inl (pr_ad S2 (pr_I t n U.1))) (.inr (1, U.1)))) (mv_cn (ff_X12_reads [.inr (100, 0)] G2) fun r2 G2 => mv_cn (ff_X12_readSum [.inr (100, 0)] G2) fun r3 G3 => if r3 = -1 then some (.inl (-1, G3)) else mv_cn (ff_X12_emits [.inr (100, 0), .inl cc, .inl 0] G3) fun r4 G4 => some (.inl (0, G4))) := by
      intro sg cc hsg hu
      have hkm : U.1 ≠ m := fun e => by rw [e, hIm] at hu; omega
      rw [hu, pr_t (show pr_cmp sg by unfold pr_cmp; omega)]
      refine mv_J.cn (gx_readsS hn hb (hE.mb c2) U hU) (fun _ G3 h3 => ?_)
      obtain ⟨hU3, c3⟩ := h3
      have hc3 := c2.tr c3
      refine mv_J.cn (gx_readSum hn hb (hE.mb hc3) hkd hIm hm (pr_st U) hU3 (show U.1 + 1 ≤ m by omega) (show U.2.1 ≤ U.1 + 1 by omega)) (fun r G4 h4 => ?_)
      obtain ⟨h4, c4⟩ := h4
      cases hp2 : pr_ps (pr_I t n) kd 500 0 (pr_st U) with
      | inr e =>
        rw [hp2] at h4
        exact mv_J.t h4.1 (mv_J.ret ⟨⟨rfl, h4.2⟩, hc3.tr c4⟩)
      | inl V =>
        rw [hp2] at h4
        have b2 := pr_ps_b hIm 500 0 (pr_st U) V 1 (show U.1 + 1 ≤ m by omega) (show U.2.1 + 1 + 0 ≤ U.1 + 1 by omega) hp2
        refine mv_J.f (by have := h4.1; omega) (mv_J.cn (gx_emits V h4.2 (by omega) cc 0 sg ?_ ?_) (fun _ G5 h5 => mv_J.ret ⟨⟨rfl, h5.1⟩, (hc3.tr c4).tr h5.2⟩))
        · rcases hsg with ⟨rfl, rfl⟩ | ⟨rfl, rfl⟩ | ⟨rfl, rfl⟩ <;> decide
        · rcases hsg with ⟨rfl, rfl⟩ | ⟨rfl, rfl⟩ | ⟨rfl, rfl⟩ <;> decide
    have v60 := (pr_tok_s U.1 60 (by decide) hU.1)
    have v61 := (pr_tok_s U.1 61 (by decide) hU.1)
    have v62 := (pr_tok_s U.1 62 (by decide) hU.1)
    refine mv_J.f (by omega) (mv_J.ce (gx_isSign U.1 60 (by decide) hU.1) (mv_J.bt (fun h1 => mv_J.ce (gx_isSign U.1 61 (by decide) hU.1) (mv_J.bt (fun h2 => mv_J.ce (gx_isSign U.1 62 (by decide) hU.1) (mv_J.bt (fun h3 => ?_) (fun h3 => ?_))) (fun h2 => ?_))) (fun h1 => ?_)))
    · rw [pr_f (show ¬ pr_cmp (pr_I t n U.1) by unfold pr_cmp; omega)]
      exact mv_J.cn (gx_errs U.1 hU.1 1) (fun r G3 h5 => mv_J.ret ⟨h5.1, c2.tr h5.2⟩)
    · have := (v62.mpr h3).2
      exact mv_J.f (by omega) (mv_J.f (by omega) (go 30062 8 (Or.inr (Or.inr ⟨rfl, rfl⟩)) (by omega)))
    · have := (v61.mpr h2).2
      exact mv_J.f (by omega) (mv_J.t this (go 30061 7 (Or.inr (Or.inl ⟨rfl, rfl⟩)) (by omega)))
    · have := (v60.mpr h1).2
      exact mv_J.t this (go 30060 6 (Or.inl ⟨rfl, rfl⟩) (by omega))
end MC
