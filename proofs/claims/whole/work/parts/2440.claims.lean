/-! TEXT: the class reads claims. -/
section CL
variable {t : Nat → Int} {n m kd : Nat}
def pr_Q (t : Nat → Int) (n m : Nat) (G : mv_G) (R : pr_R) : Int → mv_G → Prop := fun _ G' => pr_cP t n m R G' ∧ pr_cc G G'
set_option maxHeartbeats 4000000 in
set_option maxRecDepth 100000 in
theorem fx_claims (hn : n ≤ 400) (hb : ∀ j, j < n → 0 ≤ t j ∧ t j ≤ 255) (hkd : kd ≤ 1) : ∀ f : Nat,
    (∀ (d o : Nat) (S : pr_S) (G : mv_G), mv_cT G t n m → G 52 0 5 = (kd : Int) → pr_cS G S → S.1 ≤ m → S.2.1 ≤ S.1 → 3 * (m - S.1) + 1 ≤ f → o ≤ 8 → 3 * (8 - o) + 1 ≤ d → mv_Kp ((ff_rc d).2 [.inr (52, 0), .inl o] G) (pr_Q t n m G (pr_cl (pr_I t n) kd f 0 o false S))) ∧
    (∀ (d o w i : Nat) (b : Bool) (S : pr_S) (G G1 : mv_G), (w = 1 ∨ w = 2) → mv_cT G1 t n m → G1 52 0 5 = (kd : Int) → pr_cc G G1 → pr_cS G1 S → S.1 ≤ m → S.2.1 + (if b = true then 1 else 0) ≤ S.1 → 3 * (m - S.1) + 1 + w ≤ f → o ≤ 8 → 3 * (8 - o) + w ≤ d → i ≤ S.1 → b = decide (0 < i) → mv_JP (mm_X7_readClaims (ff_rc d)) (pr_Q t n m G (pr_cl (pr_I t n) kd f w o b S)) 2 [some (.inr (52, 0)), some (.inl (pr_wd w)), some (.inl (o : Int)), some (.inl (i : Int))] G1) := by
  intro f
  induction f with
  | zero => exact ⟨fun d o S G _ _ _ _ _ h => by omega, fun d o w i b S G G1 _ _ _ _ _ _ _ h => by omega⟩
  | succ f ih =>
    obtain ⟨ihA, ihB⟩ := ih
    -- the whole of a call
    have proc : ∀ (d o w : Nat) (S : pr_S) (G : mv_G), (w = 1 ∨ w = 2) → mv_cT G t n m → G 52 0 5 = (kd : Int) → pr_cS G S → S.1 ≤ m → S.2.1 ≤ S.1 → 3 * (m - S.1) + 1 + w ≤ f → o ≤ 8 → 3 * (8 - o) + w + 1 ≤ d → mv_Kp ((ff_rc d).1 [.inr (52, 0), .inl (pr_wd w), .inl o] G) (pr_Q t n m G (pr_cl (pr_I t n) kd f w o false S)) := by
      intro d o w S G hw hT hk5 hS hk hz hf ho hd
      obtain ⟨d, rfl⟩ : ∃ e, d = e + 1 := ⟨d - 1, by omega⟩
      show mv_Kp (mv_fn mv_rc (mm_X7_readClaims (ff_rc d)) mv_sh 400 4 [.inr (52, 0), .inl (pr_wd w), .inl o] G) _
      refine mv_Kp.of (mv_JP.of (rg_X7_readClaims_0 (ff_rc d) (pr_wd w) o G) (mv_J.cut ?_))
      exact ihB d o w 0 false S G G hw hT hk5 mv_ch.rf hS hk hz hf ho (by omega) (Nat.zero_le _) rfl
    refine ⟨?_, ?_⟩
    · intro d o S G hT hk5 hS hk hz hf ho hd
      have hm := hT.2.1
      have hIm := pr_I_m hT
      obtain ⟨d, rfl⟩ : ∃ e, d = e + 1 := ⟨d - 1, by omega⟩
      show mv_Kp (mv_fn mv_rc (mm_X7_readClaim (ff_rc d)) mv_sh 400 4 [.inr (52, 0), .inl o] G) _
      have e64 : G 64 0 S.1 = pr_I t n S.1 := pr_tk hn hT S.1 hk
      refine mv_Kp.of (mv_JP.of (rg_X7_readClaim_0 (ff_rc d) o G) ?_)
      rw [hS.2.1, mv_ckp (n := 401) (by omega), Int.toNat_natCast, e64]
      -- not, or a bracket
      have opn : (pr_I t n S.1 = 20005 ∨ pr_I t n S.1 = 30040) → mv_J (mm_X7_readClaim (ff_rc d)) (pr_Q t n m G (pr_cl (pr_I t n) kd (f + 1) 0 o false S)) (if (o : Int) < 8 then mv_cn (ff_X7_step [.inr (52, 0)] G) fun r0 G0 => if pr_I t n S.1 = 20005 then mv_cn ((ff_rc d).2 [.inr (52, 0), .inl (mv_w ((o : Int) + 1))] G0) fun r1 G1 => mv_cn (ff_X5_add [.inr (53, 0), .inl 20005] G1) fun r2 G2 => some (.inl (0, G2)) else mv_cn ((ff_rc d).1 [.inr (52, 0), .inl 20003, .inl (mv_w ((o : Int) + 1))] G0) fun r1 G1 => mv_cn (ff_X7_take [.inr (52, 0), .inl 30041] G1) fun r2 G2 => some (.inl (0, G2)) else mv_cn (ff_X7_fail [.inr (52, 0), .inl 3] G) fun r0 G0 => some (.inl (0, G0))) := by
        intro hop
        have hk2 : S.1 ≠ m := fun e => by rw [e, hIm] at hop; omega
        have e0 : pr_cl (pr_I t n) kd (f + 1) 0 o false S = pr_if (8 ≤ o) (.inr (3, S.1)) (pr_if (pr_I t n S.1 = 20005) (pr_bd (pr_cl (pr_I t n) kd f 0 (o + 1) false (pr_st S)) fun S1 => .inl (pr_ad S1 20005)) (pr_bd (pr_cl (pr_I t n) kd f 2 (o + 1) false (pr_st S)) fun S1 => pr_if (pr_I t n S1.1 = 30041) (.inl (pr_st S1)) (.inr (1, S1.1)))) := by
          conv => lhs; unfold pr_cl
          exact pr_t hop
        rw [e0]
        refine mv_J.i (fun h1 => ?_) (fun h1 => mv_J.cn (fx_fail S hS hT hn hk (by omega) 3 (by decide)) (fun _ G2 h2 => mv_J.ret ?_))
        · rw [pr_f (show ¬ 8 ≤ o by omega)]
          refine mv_J.cn (fx_step S hS hT hn (by omega)) (fun _ G2 h2 => ?_)
          obtain ⟨hS2, c2⟩ := h2
          have hT2 := pr_hT hT c2
          have hk52 : G2 52 0 5 = (kd : Int) := (pr_cc_k5 c2).trans hk5
          rw [mv_ws (x := (o : Int) + 1) (by omega)]
          refine mv_J.i (fun h3 => ?_) (fun h3 => ?_)
          · rw [pr_t h3]
            refine mv_J.cn (ihA d (o + 1) (pr_st S) G2 hT2 hk52 hS2 (show S.1 + 1 ≤ m by omega) (show S.2.1 ≤ S.1 + 1 by omega) (show 3 * (m - (S.1 + 1)) + 1 ≤ f by omega) (by omega) (by omega)) (fun _ G3 h4 => ?_)
            obtain ⟨h4, c3⟩ := h4
            have hc3 := c2.tr c3
            cases hp : pr_cl (pr_I t n) kd f 0 (o + 1) false (pr_st S) with
            | inr e =>
              rw [hp] at h4
              exact mv_J.cn (fx_addE (show pr_cE t n m G3 e from h4) 20005) (fun _ G4 h5 => mv_J.ret ⟨h5.1, hc3.tr h5.2⟩)
            | inl S1 =>
              rw [hp] at h4
              have h4 : pr_cS G3 S1 ∧ S1.1 ≤ m := h4
              have b := pr_cl_b hIm f 0 (o + 1) false (pr_st S) S1 0 (show S.1 + 1 ≤ m by omega) (show S.2.1 + 0 + 0 ≤ S.1 + 1 by omega) hp
              exact mv_J.cn (fx_add S1 h4.1 (by omega) 20005) (fun _ G4 h5 => mv_J.ret ⟨⟨h5.1, h4.2⟩, hc3.tr h5.2⟩)
          · rw [pr_f h3]
            have pc := proc d (o + 1) 2 (pr_st S) G2 (Or.inr rfl) hT2 hk52 hS2 (show S.1 + 1 ≤ m by omega) (show S.2.1 ≤ S.1 + 1 by omega) (show 3 * (m - (S.1 + 1)) + 1 + 2 ≤ f by omega) (by omega) (by omega)
            refine mv_J.cn pc (fun _ G3 h4 => ?_)
            obtain ⟨h4, c3⟩ := h4
            have hc3 := c2.tr c3
            have hT3 := pr_hT hT hc3
            cases hp : pr_cl (pr_I t n) kd f 2 (o + 1) false (pr_st S) with
            | inr e =>
              rw [hp] at h4
              exact mv_J.ce (fx_takeE (show pr_cE t n m G3 e from h4) 30041) (mv_J.ret ⟨h4, hc3⟩)
            | inl S1 =>
              rw [hp] at h4
              have h4 : pr_cS G3 S1 ∧ S1.1 ≤ m := h4
              have b := pr_cl_b hIm f 2 (o + 1) false (pr_st S) S1 0 (show S.1 + 1 ≤ m by omega) (show S.2.1 + 0 + 0 ≤ S.1 + 1 by omega) hp
              have tk : mv_Kp (ff_X7_take [.inr (52, 0), .inl 30041] G3) (pr_Q t n m G (pr_if (pr_I t n S1.1 = 30041) (.inl (pr_st S1)) (.inr (1, S1.1)))) := by
                refine mv_Kp.of (mv_JP.of (rg_X7_take_0 30041 G3) ?_)
                rw [h4.1.1, h4.1.2.1, Int.toNat_natCast, pr_tk hn hT3 S1.1 h4.2, mv_ckp (n := 401) (by omega)]
                refine mv_J.t rfl ?_
                show mv_J mm_X7_take _ (if pr_I t n S1.1 = 30041 then _ else _)
                refine mv_J.i (fun h => ?_) (fun h => ?_)
                · have hk3 : S1.1 ≠ m := fun e => by rw [e, hIm] at h; omega
                  rw [pr_t h]
                  exact mv_J.cn (fx_step S1 h4.1 hT3 hn (by omega)) (fun _ G4 h5 => mv_J.ret ⟨⟨h5.1, show S1.1 + 1 ≤ m by omega⟩, hc3.tr h5.2⟩)
                · rw [pr_f h]
                  exact mv_J.cn (fx_fail S1 h4.1 hT3 hn h4.2 (by omega) 1 (by decide)) (fun _ G4 h5 => mv_J.ret ⟨h5.1, hc3.tr h5.2⟩)
              exact mv_J.cn tk (fun _ G4 h5 => mv_J.ret h5)
        · rw [pr_t (show 8 ≤ o by omega)]
          exact ⟨h2.1, h2.2⟩
      refine mv_J.i (fun h1 => opn (Or.inl h1)) (fun h1 => mv_J.i (fun h2 => opn (Or.inr h2)) (fun h2 => ?_))
      -- a comparison
      have e0 : pr_cl (pr_I t n) kd (f + 1) 0 o false S = pr_bd (pr_ps (pr_I t n) kd 500 0 S) fun S1 => pr_if (pr_cmp (pr_I t n S1.1)) (pr_bd (pr_ps (pr_I t n) kd 500 0 (pr_st S1)) fun S2 => .inl (pr_ad S2 (pr_I t n S1.1))) (.inr (1, S1.1)) := by
        conv => lhs; unfold pr_cl
        exact pr_f (by omega)
      rw [e0]
      refine mv_J.cn (fx_readSum hn hb hT hk5 hkd S hS hk hz) (fun _ G2 h3 => ?_)
      obtain ⟨h3, c2⟩ := h3
      have hT2 := pr_hT hT c2
      have hk52 : G2 52 0 5 = (kd : Int) := (pr_cc_k5 c2).trans hk5
      cases hp : pr_ps (pr_I t n) kd 500 0 S with
      | inr e =>
        rw [hp] at h3
        have h3 : pr_cE t n m G2 e := h3
        have ck := pr_ckE h3 hT2 hn
        rw [mv_ckp (n := 401) ck]
        have fin : mv_J (mm_X7_readClaim (ff_rc d)) (pr_Q t n m G (.inr e)) (some (.inl (0, G2))) := mv_J.ret ⟨h3, c2⟩
        have ne : ¬ G2 52 0 1 = 0 := fun h => h3.2.1 (h3.1.symm.trans h)
        exact mv_J.i (fun _ => mv_J.f ne fin) (fun _ => mv_J.i (fun _ => mv_J.f ne fin) (fun _ => mv_J.i (fun _ => mv_J.f ne fin) (fun _ => mv_J.ce (fx_failE h3 1) (mv_J.f ne fin))))
      | inl S1 =>
        rw [hp] at h3
        have h3 : pr_cS G2 S1 ∧ S1.1 ≤ m := h3
        have b := pr_ps_b hIm 500 0 S S1 0 hk (by rw [if_pos rfl]; omega) hp
        show mv_J _ (pr_Q t n m G (pr_if (pr_cmp (pr_I t n S1.1)) (pr_bd (pr_ps (pr_I t n) kd 500 0 (pr_st S1)) fun S2 => .inl (pr_ad S2 (pr_I t n S1.1))) (.inr (1, S1.1)))) _
        rw [h3.1.2.1, mv_ckp (n := 401) (by omega), Int.toNat_natCast, pr_tk hn hT2 S1.1 h3.2]
        show mv_J _ _ (if pr_I t n S1.1 = 30060 then _ else if pr_I t n S1.1 = 30061 then _ else if pr_I t n S1.1 = 30062 then _ else _)
        have yes : pr_cmp (pr_I t n S1.1) → mv_J (mm_X7_readClaim (ff_rc d)) (pr_Q t n m G (pr_if (pr_cmp (pr_I t n S1.1)) (pr_bd (pr_ps (pr_I t n) kd 500 0 (pr_st S1)) fun S2 => .inl (pr_ad S2 (pr_I t n S1.1))) (.inr (1, S1.1)))) (if G2 52 0 1 = 0 then mv_cn (ff_X7_step [.inr (52, 0)] G2) fun r1 G1 => mv_cn (ff_X7_readSum [.inr (52, 0)] G1) fun r2 G2 => mv_cn (ff_X5_add [.inr (53, 0), .inl (pr_I t n S1.1)] G2) fun r3 G3 => some (.inl (0, G3)) else some (.inl (0, G2))) := by
          intro hc
          have hk3 : S1.1 ≠ m := fun e => by rw [e, hIm] at hc; unfold pr_cmp at hc; omega
          rw [pr_t hc]
          refine mv_J.t h3.1.1 (mv_J.cn (fx_step S1 h3.1 hT2 hn (by omega)) (fun _ G3 h4 => ?_))
          obtain ⟨hS3, c3⟩ := h4
          have hc3 := c2.tr c3
          have hT3 := pr_hT hT hc3
          have hk53 : G3 52 0 5 = (kd : Int) := (pr_cc_k5 hc3).trans hk5
          refine mv_J.cn (fx_readSum hn hb hT3 hk53 hkd (pr_st S1) hS3 (show S1.1 + 1 ≤ m by omega) (show S1.2.1 ≤ S1.1 + 1 by omega)) (fun _ G4 h5 => ?_)
          obtain ⟨h5, c4⟩ := h5
          have hc4 := hc3.tr c4
          cases hp2 : pr_ps (pr_I t n) kd 500 0 (pr_st S1) with
          | inr e =>
            rw [hp2] at h5
            exact mv_J.cn (fx_addE (show pr_cE t n m G4 e from h5) _) (fun _ G5 h6 => mv_J.ret ⟨h6.1, hc4.tr h6.2⟩)
          | inl S3 =>
            rw [hp2] at h5
            have h5 : pr_cS G4 S3 ∧ S3.1 ≤ m := h5
            have b2 := pr_ps_b hIm 500 0 (pr_st S1) S3 0 (show S1.1 + 1 ≤ m by omega) (show S1.2.1 + 0 + 0 ≤ S1.1 + 1 by omega) hp2
            exact mv_J.cn (fx_add S3 h5.1 (by omega) _) (fun _ G5 h6 => mv_J.ret ⟨⟨h6.1, h5.2⟩, hc4.tr h6.2⟩)
        refine mv_J.i (fun h => yes (Or.inl h)) (fun g1 => mv_J.i (fun h => yes (Or.inr (Or.inl h))) (fun g2 => mv_J.i (fun h => yes (Or.inr (Or.inr h))) (fun g3 => ?_)))
        rw [pr_f (show ¬ pr_cmp (pr_I t n S1.1) from fun h => h.elim g1 (fun h => h.elim g2 g3))]
        refine mv_J.cn (fx_fail S1 h3.1 hT2 hn h3.2 (by omega) 1 (by decide)) (fun _ G3 h4 => ?_)
        exact mv_J.f (fun h => h4.1.2.1 (h4.1.1.symm.trans h)) (mv_J.ret ⟨h4.1, c2.tr h4.2⟩)
    · intro d o w i b S G G1 hw hT hk5 hc hS hk hz hf ho hd hi hbi
      have hm := hT.2.1
      have hIm := pr_I_m hT
      obtain ⟨u, rfl⟩ : ∃ u, w = u + 1 := ⟨w - 1, by omega⟩
      have e0 : pr_cl (pr_I t n) kd (f + 1) (u + 1) o b S = pr_bd (pr_cl (pr_I t n) kd f u o false S) fun S1 => pr_if (pr_I t n S1.1 = pr_wd (u + 1)) (pr_cl (pr_I t n) kd f (u + 1) o true (pr_st (pr_sg S1 (if b = true then pr_wd (u + 1) else 0)))) (.inl (pr_sg S1 (if b = true then pr_wd (u + 1) else 0))) := by
        conv => lhs; unfold pr_cl
      have hwd : pr_wd (u + 1) ≠ 0 ∧ pr_wd (u + 1) ≠ -2 := by unfold pr_wd; split <;> decide
      have hzS : S.2.1 ≤ S.1 := by omega
      -- behind the inner call
      have aft : ∀ G2, pr_cc G1 G2 → pr_cP t n m (pr_cl (pr_I t n) kd f u o false S) G2 → mv_J (mm_X7_readClaims (ff_rc d)) (pr_Q t n m G (pr_cl (pr_I t n) kd (f + 1) (u + 1) o b S)) (if 0 < (i : Int) then mv_cn (ff_X5_add [.inr (53, 0), .inl (pr_wd (u + 1))] G2) fun r1 G1 => mv_ck (G1 52 0 7) 401 (if G1 64 0 (Int.toNat (G1 52 0 7)) = pr_wd (u + 1) then mv_cn (ff_X7_step [.inr (52, 0)] G1) fun r2 G2 => some (.inr (2, [some (.inr (52, 0)), some (.inl (pr_wd (u + 1))), some (.inl (o : Int)), some (.inl (mv_w ((i : Int) + 1)))], G2)) else some (.inl (0, G1))) else mv_ck (G2 52 0 7) 401 (if G2 64 0 (Int.toNat (G2 52 0 7)) = pr_wd (u + 1) then mv_cn (ff_X7_step [.inr (52, 0)] G2) fun r2 G2 => some (.inr (2, [some (.inr (52, 0)), some (.inl (pr_wd (u + 1))), some (.inl (o : Int)), some (.inl (mv_w ((i : Int) + 1)))], G2)) else some (.inl (0, G2)))) := by
        intro G2 c2 hR
        have hc2 : pr_cc G G2 := hc.tr c2
        rw [e0]
        cases hp : pr_cl (pr_I t n) kd f u o false S with
        | inr e =>
          rw [hp] at hR
          have hR : pr_cE t n m G2 e := hR
          have lp : ∀ (G3 : mv_G), pr_cc G G3 → pr_cE t n m G3 e → mv_JP (mm_X7_readClaims (ff_rc d)) (pr_Q t n m G (.inr e)) 2 [some (.inr (52, 0)), some (.inl (pr_wd (u + 1))), some (.inl (o : Int)), some (.inl (mv_w ((i : Int) + 1)))] G3 := fun G3 c3 h3 => by
            refine mv_JP.of (rg_X7_readClaims_2 (ff_rc d) _ _ _ G3) ?_
            have fin : mv_J (mm_X7_readClaims (ff_rc d)) (pr_Q t n m G (.inr e)) (some (.inl (0, G3))) := mv_J.ret ⟨h3, c3⟩
            exact mv_J.i (fun _ => mv_J.f (fun h4 => h3.2.1 (h3.1.symm.trans h4)) fin) (fun _ => fin)
          have tl : ∀ (G3 : mv_G), pr_cc G1 G3 → pr_cE t n m G3 e → mv_J (mm_X7_readClaims (ff_rc d)) (pr_Q t n m G (.inr e)) (mv_ck (G3 52 0 7) 401 (if G3 64 0 (Int.toNat (G3 52 0 7)) = pr_wd (u + 1) then mv_cn (ff_X7_step [.inr (52, 0)] G3) fun r2 G2 => some (.inr (2, [some (.inr (52, 0)), some (.inl (pr_wd (u + 1))), some (.inl (o : Int)), some (.inl (mv_w ((i : Int) + 1)))], G2)) else some (.inl (0, G3)))) := fun G3 c3 h3 => by
            have hT3 := pr_hT hT c3
            have ck := pr_ckE h3 hT3 hn
            rw [mv_ckp (n := 401) ck]
            exact mv_J.i (fun _ => mv_J.cn (fx_stepE h3 hT3 hn) (fun _ G4 h4 => mv_J.cut (lp G4 ((hc.tr c3).tr h4.2) h4.1))) (fun _ => mv_J.ret ⟨h3, hc.tr c3⟩)
          exact mv_J.i (fun _ => mv_J.cn (fx_addE hR _) (fun _ G3 h3 => tl G3 (c2.tr h3.2) h3.1)) (fun _ => tl G2 c2 hR)
        | inl S1 =>
          rw [hp] at hR
          have hR : pr_cS G2 S1 ∧ S1.1 ≤ m := hR
          have b1 := pr_cl_b hIm f u o false S S1 (if b = true then 1 else 0) hk (by rw [if_neg (c := false = true ∧ u ≠ 0) (fun h => by cases h.1)]; omega) hp
          have y : (pr_sg S1 (if b = true then pr_wd (u + 1) else 0)).1 = S1.1 := pr_sg_1
          have z : (pr_sg S1 (if b = true then pr_wd (u + 1) else 0)).2.1 = S1.2.1 + (if b = true then 1 else 0) := by
            rw [pr_sg_2]
            cases b with
            | false => rfl
            | true => rw [if_pos rfl, if_pos rfl, if_neg hwd.1]
          show mv_J _ (pr_Q t n m G (pr_if (pr_I t n S1.1 = pr_wd (u + 1)) (pr_cl (pr_I t n) kd f (u + 1) o true (pr_st (pr_sg S1 (if b = true then pr_wd (u + 1) else 0)))) (.inl (pr_sg S1 (if b = true then pr_wd (u + 1) else 0))))) _
          have tl : ∀ (G3 : mv_G), pr_cc G1 G3 → pr_cS G3 (pr_sg S1 (if b = true then pr_wd (u + 1) else 0)) → mv_J (mm_X7_readClaims (ff_rc d)) (pr_Q t n m G (pr_if (pr_I t n S1.1 = pr_wd (u + 1)) (pr_cl (pr_I t n) kd f (u + 1) o true (pr_st (pr_sg S1 (if b = true then pr_wd (u + 1) else 0)))) (.inl (pr_sg S1 (if b = true then pr_wd (u + 1) else 0))))) (mv_ck (G3 52 0 7) 401 (if G3 64 0 (Int.toNat (G3 52 0 7)) = pr_wd (u + 1) then mv_cn (ff_X7_step [.inr (52, 0)] G3) fun r2 G2 => some (.inr (2, [some (.inr (52, 0)), some (.inl (pr_wd (u + 1))), some (.inl (o : Int)), some (.inl (mv_w ((i : Int) + 1)))], G2)) else some (.inl (0, G3)))) := fun G3 c3 h3 => by
            have hT3 := pr_hT hT c3
            have e7 : G3 52 0 7 = (S1.1 : Int) := by rw [h3.2.1, y]
            rw [e7, mv_ckp (n := 401) (by omega), Int.toNat_natCast, pr_tk hn hT3 S1.1 (by omega), mv_ws (x := (i : Int) + 1) (by omega)]
            show mv_J _ _ (if pr_I t n S1.1 = pr_wd (u + 1) then _ else _)
            refine mv_J.i (fun h => ?_) (fun h => mv_J.ret ?_)
            · have hk3 : S1.1 ≠ m := fun e => by rw [e, hIm] at h; exact hwd.2 h.symm
              rw [pr_t h]
              refine mv_J.cn (fx_step _ h3 hT3 hn (by omega)) (fun _ G4 h4 => mv_J.cut ?_)
              have c4 := c3.tr h4.2
              exact ihB d o (u + 1) (i + 1) true _ G G4 hw (pr_hT hT c4) ((pr_cc_k5 c4).trans hk5) (hc.tr c4) h4.1 (show (pr_sg S1 (if b = true then pr_wd (u + 1) else 0)).1 + 1 ≤ m by omega) (show (pr_sg S1 (if b = true then pr_wd (u + 1) else 0)).2.1 + 1 ≤ (pr_sg S1 (if b = true then pr_wd (u + 1) else 0)).1 + 1 by omega) (show 3 * (m - ((pr_sg S1 (if b = true then pr_wd (u + 1) else 0)).1 + 1)) + 1 + (u + 1) ≤ f by omega) ho hd (show i + 1 ≤ (pr_sg S1 (if b = true then pr_wd (u + 1) else 0)).1 + 1 by omega) (decide_eq_true (Nat.succ_pos i)).symm
            · rw [pr_f h]
              exact ⟨⟨h3, by omega⟩, hc.tr c3⟩
          refine mv_J.i (fun h => ?_) (fun h => ?_)
          · have hbt : b = true := by rw [hbi]; exact decide_eq_true (by omega)
            subst hbt
            have e : pr_sg S1 (if true = true then pr_wd (u + 1) else 0) = pr_ad S1 (pr_wd (u + 1)) := by rw [if_pos rfl]; exact if_neg hwd.1
            rw [if_pos rfl] at b1
            exact mv_J.cn (fx_add S1 hR.1 (by omega) _) (fun _ G3 h3 => tl G3 (c2.tr h3.2) (by rw [e]; exact h3.1))
          · have hbt : b = false := by rw [hbi]; exact decide_eq_false (by omega)
            subst hbt
            have e : pr_sg S1 (if false = true then pr_wd (u + 1) else 0) = S1 := rfl
            exact tl G2 c2 (by rw [e]; exact hR.1)
      refine mv_JP.of (rg_X7_readClaims_2 (ff_rc d) _ _ _ G1) ?_
      rw [hT.1, hS.1]
      refine mv_J.t (by omega) (mv_J.t rfl ?_)
      rcases hw with hw | hw
      · obtain rfl : u = 0 := by omega
        refine mv_J.f (by decide) (mv_J.cn (ihA d o S G1 hT hk5 hS hk hzS (by omega) ho (by omega)) (fun _ G2 h2 => ?_))
        exact aft G2 h2.2 h2.1
      · obtain rfl : u = 1 := by omega
        have pc := proc d o 1 S G1 (Or.inl rfl) hT hk5 hS hk hzS (by omega) ho (by omega)
        refine mv_J.t rfl (mv_J.cn pc (fun _ G2 h2 => ?_))
        exact aft G2 h2.2 h2.1
end CL
