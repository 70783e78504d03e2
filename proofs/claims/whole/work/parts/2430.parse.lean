/-! TEXT: the class reads a law. -/
def pr_cS (G : mv_G) (S : pr_S) : Prop := G 52 0 1 = 0 ∧ G 52 0 7 = (S.1 : Int) ∧ G 53 0 1 = (S.2.1 : Int) ∧ (∀ j, j < S.2.1 → G 54 0 j = S.2.2 j) ∧ G 52 0 2 = -1
/-- a fault is told -/
def pr_cE (t : Nat → Int) (n m : Nat) (G : mv_G) (e : Int × Nat) : Prop := G 52 0 1 = e.1 ∧ e.1 ≠ 0 ∧ G 52 0 2 = ((mv_tbg t n e.2 : Nat) : Int) ∧ (∃ k : Nat, k ≤ m ∧ G 52 0 7 = k) ∧ ∃ z : Nat, z ≤ 401 ∧ G 53 0 1 = z
def pr_cP (t : Nat → Int) (n m : Nat) (R : pr_R) (G : mv_G) : Prop := match R with
  | .inl S => pr_cS G S ∧ S.1 ≤ m
  | .inr e => pr_cE t n m G e
/-- the class's frame -/
def pr_cc (G G2 : mv_G) : Prop := mv_ch [54] [(52, 1), (52, 2), (52, 7), (53, 1)] G G2
theorem mv_cT.ch {G G2 : mv_G} {t : Nat → Int} {n m : Nat} {S : List Nat} {T : List (Nat × Nat)} (h : mv_cT G t n m) (hc : mv_ch S T G G2) (h1 : ((S.contains 64 || T.any fun q => q.1 == 64) || (S.contains 65 || T.any fun q => q.1 == 65)) = false) (h2 : (S.contains 52 || T.contains (52, 6)) = false) : mv_cT G2 t n m := by
  unfold mv_cT at h ⊢
  rw [Bool.or_eq_false_iff] at h1
  rw [hc.slot 52 6 h2, hc.cell 64 h1.1, hc.cell 65 h1.2]
  exact h
section PA
variable {G : mv_G} {t : Nat → Int} {n m kd : Nat}
theorem pr_hT (h : mv_cT G t n m) {G2 : mv_G} (hc : pr_cc G G2) : mv_cT G2 t n m := h.ch hc rfl rfl
theorem pr_tk (hn : n ≤ 400) (h : mv_cT G t n m) (k : Nat) (hk : k ≤ m) : G 64 0 k = mv_tk1 t n (mv_tbg t n k) := (h.2.2.2.2 k (by omega)).1
set_option maxRecDepth 100000 in
theorem fx_add (S : pr_S) (h : pr_cS G S) (hz : S.2.1 < 401) (v : Int) : mv_Kp (ff_X5_add [.inr (53, 0), .inl v] G) (fun _ G' => pr_cS G' (pr_ad S v) ∧ pr_cc G G') := by
  obtain ⟨h1, h2, h3, h4, h5⟩ := h
  refine mv_Kp.of (mv_JP.of (rg_X5_add_0 v G) ?_)
  rw [mv_up_k (by decide : (53 : Nat) ≠ 54), h3, Int.toNat_natCast, mv_ws (by omega)]
  refine mv_J.t (by omega) ?_
  rw [mv_ckp (n := 401) (by omega)]
  refine mv_J.ret ⟨⟨?_, ?_, ?_, fun j hj => ?_, ?_⟩, (mv_ch.rf.uc rfl).up rfl⟩
  · rw [mv_up_k (by decide), mv_up_k (by decide)]; exact h1
  · rw [mv_up_k (by decide), mv_up_k (by decide)]; exact h2
  · rw [mv_ups_eq]; rfl
  · rw [mv_up_k (by decide), mv_up_at]
    show (if j = S.2.1 then v else G 54 0 j) = if j = S.2.1 then v else S.2.2 j
    have hj : j < S.2.1 + 1 := hj
    by_cases e : j = S.2.1
    · rw [if_pos e, if_pos e]
    · rw [if_neg e, if_neg e]; exact h4 j (by omega)
  · rw [mv_up_k (by decide), mv_up_k (by decide)]; exact h5
set_option maxRecDepth 100000 in
theorem fx_step (S : pr_S) (h : pr_cS G S) (hT : mv_cT G t n m) (hn : n ≤ 400) (hk : S.1 < m) : mv_Kp (ff_X7_step [.inr (52, 0)] G) (fun _ G' => pr_cS G' (pr_st S) ∧ pr_cc G G') := by
  obtain ⟨h1, h2, h3, h4, h5⟩ := h
  have hm := hT.2.1
  refine mv_Kp.of (mv_JP.of (rg_X7_step_0 G) ?_)
  rw [h2, hT.1, mv_ws (by omega)]
  refine mv_J.t (by omega) (mv_J.ret ⟨⟨?_, ?_, ?_, fun j hj => ?_, ?_⟩, mv_ch.rf.up rfl⟩)
  · rw [mv_up_j (by decide)]; exact h1
  · rw [mv_ups_eq]; rfl
  · rw [mv_up_k (by decide)]; exact h3
  · rw [mv_up_k (by decide)]; exact h4 j hj
  · rw [mv_up_j (by decide)]; exact h5
set_option maxRecDepth 100000 in
theorem fx_fail (S : pr_S) (h : pr_cS G S) (hT : mv_cT G t n m) (hn : n ≤ 400) (hk : S.1 ≤ m) (hz : S.2.1 ≤ 401) (e : Int) (he : e ≠ 0) : mv_Kp (ff_X7_fail [.inr (52, 0), .inl e] G) (fun _ G' => pr_cE t n m G' (e, S.1) ∧ pr_cc G G') := by
  obtain ⟨h1, h2, h3, h4, h5⟩ := h
  have hm := hT.2.1
  refine mv_Kp.of (mv_JP.of (rg_X7_fail_0 e G) ?_)
  rw [mv_up_j (by decide), h1, h2, mv_up_k (by decide : (65 : Nat) ≠ 52), Int.toNat_natCast, (hT.2.2.2.2 S.1 (by omega)).2]
  refine mv_J.t rfl ?_
  rw [mv_ckp (n := 401) (by omega)]
  refine mv_J.ret ⟨⟨?_, he, ?_, ⟨S.1, hk, ?_⟩, ⟨S.2.1, hz, ?_⟩⟩, (mv_ch.rf.up rfl).up rfl⟩
  · rw [mv_up_j (by decide), mv_ups_eq]
  · rw [mv_ups_eq]
  · rw [mv_up_j (by decide), mv_up_j (by decide)]; exact h2
  · rw [mv_up_k (by decide), mv_up_k (by decide)]; exact h3
/-! once a fault is told, it stays -/
variable {e : Int × Nat}
set_option maxRecDepth 100000 in
theorem fx_addE (h : pr_cE t n m G e) (v : Int) : mv_Kp (ff_X5_add [.inr (53, 0), .inl v] G) (fun _ G' => pr_cE t n m G' e ∧ pr_cc G G') := by
  obtain ⟨h1, h2, h3, ⟨k, hk, h4⟩, z, hz, h5⟩ := h
  refine mv_Kp.of (mv_JP.of (rg_X5_add_0 v G) ?_)
  rw [mv_up_k (by decide : (53 : Nat) ≠ 54), h5, Int.toNat_natCast]
  refine mv_J.i (fun h => ?_) (fun h => mv_J.ret ⟨⟨h1, h2, h3, ⟨k, hk, h4⟩, z, hz, h5⟩, mv_ch.rf⟩)
  rw [mv_ckp (n := 401) (by omega), mv_ws (by omega)]
  refine mv_J.ret ⟨⟨?_, h2, ?_, ⟨k, hk, ?_⟩, ⟨z + 1, by omega, ?_⟩⟩, (mv_ch.rf.uc rfl).up rfl⟩
  · rw [mv_up_k (by decide), mv_up_k (by decide)]; exact h1
  · rw [mv_up_k (by decide), mv_up_k (by decide)]; exact h3
  · rw [mv_up_k (by decide), mv_up_k (by decide)]; exact h4
  · rw [mv_ups_eq]; rfl
set_option maxRecDepth 100000 in
theorem fx_stepE (h : pr_cE t n m G e) (hT : mv_cT G t n m) (hn : n ≤ 400) : mv_Kp (ff_X7_step [.inr (52, 0)] G) (fun _ G' => pr_cE t n m G' e ∧ pr_cc G G') := by
  obtain ⟨h1, h2, h3, ⟨k, hk, h4⟩, z, hz, h5⟩ := h
  have hm := hT.2.1
  refine mv_Kp.of (mv_JP.of (rg_X7_step_0 G) ?_)
  rw [h4, hT.1, mv_ws (by omega)]
  refine mv_J.i (fun h => mv_J.ret ⟨⟨?_, h2, ?_, ⟨k + 1, by omega, ?_⟩, ⟨z, hz, ?_⟩⟩, mv_ch.rf.up rfl⟩) (fun h => mv_J.ret ⟨⟨h1, h2, h3, ⟨k, hk, h4⟩, z, hz, h5⟩, mv_ch.rf⟩)
  · rw [mv_up_j (by decide)]; exact h1
  · rw [mv_up_j (by decide)]; exact h3
  · rw [mv_ups_eq]; rfl
  · rw [mv_up_k (by decide)]; exact h5
theorem fx_failE (h : pr_cE t n m G e) (x : Int) : ff_X7_fail [.inr (52, 0), .inl x] G = some (0, G) :=
  mv_Kp.eq (mv_Kp.of (mv_JP.of (rg_X7_fail_0 x G) (mv_J.f (fun h2 => h.2.1 (h.1.symm.trans h2)) (mv_J.ret ⟨rfl, rfl⟩))))
theorem fx_takeE (h : pr_cE t n m G e) (x : Int) : ff_X7_take [.inr (52, 0), .inl x] G = some (0, G) :=
  mv_Kp.eq (mv_Kp.of (mv_JP.of (rg_X7_take_0 x G) (mv_J.f (fun h2 => h.2.1 (h.1.symm.trans h2)) (mv_J.ce (fx_failE h 1) (mv_J.ret ⟨rfl, rfl⟩)))))
theorem pr_ckE (h : pr_cE t n m G e) (hT : mv_cT G t n m) (hn : n ≤ 400) : 0 ≤ G 52 0 7 ∧ G 52 0 7 < (401 : Nat) := by
  obtain ⟨h1, h2, h3, ⟨k, hk, h4⟩, z, hz, h5⟩ := h
  have hm := hT.2.1
  omega
theorem fx_isTerm (hk5 : G 52 0 5 = (kd : Int)) (hkd : kd ≤ 1) (v : Int) (hv : -10 ≤ v ∧ v < 40000) : mv_Kp (ff_X7_isTerm [.inr (52, 0), .inl v] G) (fun r G' => (r = 0 ↔ ¬ pr_tm kd v) ∧ G' = G) := by
  refine mv_Kp.of (mv_JP.of (rg_X7_isTerm_0 v G) ?_)
  rw [mv_ws (by omega), hk5]
  have y : pr_tm kd v → mv_J mm_X7_isTerm (fun r G' => (r = 0 ↔ ¬ pr_tm kd v) ∧ G' = G) (mv_rzc 0 1 1 (some (.inl (1, G)))) := fun h => mv_J.r0 (Or.inr rfl) ⟨⟨fun h => absurd h (by decide), fun h2 => absurd h h2⟩, rfl⟩
  have nn : ¬ pr_tm kd v → mv_J mm_X7_isTerm (fun r G' => (r = 0 ↔ ¬ pr_tm kd v) ∧ G' = G) (mv_rzc 0 1 0 (some (.inl (0, G)))) := fun h => mv_J.r0 (Or.inl rfl) ⟨⟨fun _ => h, fun _ => rfl⟩, rfl⟩
  unfold pr_tm at y nn ⊢
  refine mv_J.i (fun h1 => nn (by omega)) (fun h1 => mv_J.i (fun h2 => nn (by omega)) (fun h2 => mv_J.i (fun h3 => mv_J.i (fun h4 => mv_J.i (fun h5 => mv_J.t rfl (y (by omega))) (fun h5 => mv_J.f (by decide) (nn (by omega)))) (fun h4 => mv_J.i (fun h5 => mv_J.f (by decide) (nn (by omega))) (fun h5 => mv_J.t rfl (y (by omega))))) (fun h3 => y (by omega))))
theorem pr_cc_k5 {G2 : mv_G} (h : pr_cc G G2) : G2 52 0 5 = G 52 0 5 := h.slot 52 5 rfl
theorem mv_tk1_b (hb : ∀ j, j < n → 0 ≤ t j ∧ t j ≤ 255) (a : Nat) : -2 ≤ mv_tk1 t n a ∧ mv_tk1 t n a < 40000 := by
  unfold mv_tk1
  by_cases c : n ≤ a
  · rw [if_pos c]; decide
  · rw [if_neg c]
    by_cases c1 : mv_ltr (t a) = true
    · rw [if_pos c1]
      rcases mv_wf_sp (t := t) (a := a) (b := mv_te t n a) 21 0 with h | ⟨x, h1, h2, h3, h4⟩
      · have : mv_wdx t a (mv_te t n a) = -1 := h.1
        rw [if_pos this]; decide
      · have : mv_wdx t a (mv_te t n a) = x := h1
        rw [this]
        split <;> omega
    · rw [if_neg c1]
      by_cases c2 : mv_dgt (t a) = true
      · rw [if_pos c2]
        by_cases c3 : 4 < mv_te t n a - a
        · rw [if_pos c3]; decide
        · rw [if_neg c3]
          have ete : mv_te t n a = mv_rn mv_dgt t n (a + 1) := by unfold mv_te; rw [if_neg c1, if_pos c2]
          have rb := mv_rn_b (p := mv_dgt) (t := t) (n := n) (n - (a + 1)) (a + 1) (by omega)
          have bb := mv_te_b (t := t) (n := n) (i := a) (by omega)
          have := mv_nm_b (t := t) (mv_te t n a - a) a 0 0 (Int.le_refl _) (Int.le_refl _) (fun j h1 h2 => by
            have : mv_dgt (t j) = true := by
              by_cases e : j = a
              · exact e ▸ c2
              · exact rb.2.2.1 j (by omega) (by omega)
            exact of_decide_eq_true this)
          have q := mv_9_b (0 + (mv_te t n a - a)) (by omega)
          omega
      · rw [if_neg c2]
        have := hb a (by omega)
        split <;> omega
end PA
section PC
variable {G : mv_G} {t : Nat → Int} {n m kd : Nat}
/-- the tokens as numbers -/
noncomputable def pr_I (t : Nat → Int) (n : Nat) : Nat → Int := fun k => mv_tk1 t n (mv_tbg t n k)
theorem pr_I_m (hT : mv_cT G t n m) : pr_I t n m = -2 := by
  unfold pr_I
  rw [hT.2.2.1]
  exact if_pos (Nat.le_refl _)
set_option maxHeartbeats 2000000 in
set_option maxRecDepth 100000 in
theorem fx_readProduct (hn : n ≤ 400) (hb : ∀ j, j < n → 0 ≤ t j ∧ t j ≤ 255) (hT : mv_cT G t n m) (hk5 : G 52 0 5 = (kd : Int)) (hkd : kd ≤ 1) (S : pr_S) (h : pr_cS G S) (hk : S.1 ≤ m) (hz : S.2.1 ≤ S.1) : mv_Kp (ff_X7_readProduct [.inr (52, 0)] G) (fun _ G' => pr_cP t n m (pr_pp (pr_I t n) kd 500 0 S) G' ∧ pr_cc G G') := by
  have hm := hT.2.1
  have hI : ∀ k, -2 ≤ pr_I t n k ∧ pr_I t n k < 40000 := fun k => mv_tk1_b hb _
  have hIm := pr_I_m hT
  obtain ⟨Q, hQ⟩ : ∃ Q : pr_R → Int → mv_G → Prop, Q = (fun R _ G' => pr_cP t n m R G' ∧ pr_cc G G') := ⟨_, rfl⟩
  have hQe : ∀ e v G2, pr_cE t n m G2 e → pr_cc G G2 → Q (.inr e) v G2 := fun e v G2 h1 h2 => by rw [hQ]; exact ⟨h1, h2⟩
  have key : ∀ (f i : Nat) (a1 sg : Int) (S : pr_S) (G1 : mv_G), m < S.1 + f → pr_cc G G1 → pr_cS G1 S → S.1 ≤ m → i ≤ S.1 → S.2.1 + (if sg = 0 then 0 else 1) ≤ S.1 → ((a1 = -2 ∧ i = 0 ∧ sg = 0) ∨ (a1 = sg ∧ 0 < i ∧ (sg = 30042 ∨ sg = 30047))) → mv_JP mm_X7_readProduct (Q (pr_pp (pr_I t n) kd f sg S)) 5 [some (.inr (52, 0)), some (.inl a1), some (.inl (i : Int)), none, none, none] G1 := by
    intro f
    induction f with
    | zero => intro i a1 sg S G1 h1 _ _ h4; omega
    | succ f ih =>
      intro i a1 sg S G1 hf hc hS hk hi hz hsg
      have hT1 := pr_hT hT hc
      have hv := hI S.1
      have e64 : G1 64 0 S.1 = pr_I t n S.1 := pr_tk hn hT1 S.1 hk
      have hk51 : G1 52 0 5 = (kd : Int) := (pr_cc_k5 hc).trans hk5
      have hz2 : S.2.1 ≤ 400 := by split at hz <;> omega
      -- faults
      have bad : ∀ x : Int, x ≠ 0 → pr_pp (pr_I t n) kd (f + 1) sg S = .inr (x, S.1) → mv_J mm_X7_readProduct (Q (pr_pp (pr_I t n) kd (f + 1) sg S)) (mv_cn (ff_X7_fail [.inr (52, 0), .inl x] G1) fun r0 G0 => some (.inl (0, G0))) := fun x hx he => by
        rw [he]
        exact mv_J.cn (fx_fail S hS hT1 hn hk (by omega) x hx) (fun _ G2 h2 => mv_J.ret (hQe _ _ _ h2.1 (hc.tr h2.2)))
      -- the unit is good
      have good : ¬ (¬ pr_nb (pr_I t n S.1) ∧ (sg = 30047 ∨ ¬ pr_tm kd (pr_I t n S.1))) → ¬ (sg = 30047 ∧ pr_I t n S.1 = 0) → ∀ a4 : Int, (a4 = 0 ∧ ¬ pr_nb (pr_I t n S.1)) ∨ (a4 = 1 ∧ pr_nb (pr_I t n S.1)) → mv_JP mm_X7_readProduct (Q (pr_pp (pr_I t n) kd (f + 1) sg S)) 101 [some (.inr (52, 0)), some (.inl a1), some (.inl (i : Int)), some (.inl (pr_I t n S.1)), some (.inl a4), none] G1 := by
        intro c1 c2 a4 h4
        have hkm : S.1 < m := by
          rcases Nat.lt_or_eq_of_le hk with h | h
          · exact h
          · exfalso
            rw [h, hIm] at c1
            exact c1 ⟨fun h => by have := h.1; omega, Or.inr fun h => by have := h.1; omega⟩
        have eu : pr_pp (pr_I t n) kd (f + 1) sg S = pr_if (pr_I t n (S.1 + 1) = 30042 ∨ pr_I t n (S.1 + 1) = 30047) (pr_pp (pr_I t n) kd f (pr_I t n (S.1 + 1)) (pr_st (pr_st (pr_sg (pr_ad S (pr_un (pr_I t n S.1))) sg)))) (.inl (pr_st (pr_sg (pr_ad S (pr_un (pr_I t n S.1))) sg))) := by
          conv => lhs; unfold pr_pp
          rw [pr_f c1, pr_f c2]
        have y : (pr_sg (pr_ad S (pr_un (pr_I t n S.1))) sg).1 = S.1 := pr_sg_1
        have z : (pr_sg (pr_ad S (pr_un (pr_I t n S.1))) sg).2.1 = S.2.1 + 1 + (if sg = 0 then 0 else 1) := pr_sg_2
        -- behind both
        have tail : ∀ G2, pr_cc G G2 → pr_cS G2 (pr_sg (pr_ad S (pr_un (pr_I t n S.1))) sg) → mv_J mm_X7_readProduct (Q (pr_pp (pr_I t n) kd (f + 1) sg S)) (mv_cn (ff_X7_step [.inr (52, 0)] G2) fun r0 G0 => mv_ck (G0 52 0 7) 401 (if G0 64 0 (Int.toNat (G0 52 0 7)) = 30042 then mv_cn (ff_X7_step [.inr (52, 0)] G0) fun r1 G1 => some (.inr (5, [some (.inr (52, 0)), some (.inl (G0 64 0 (Int.toNat (G0 52 0 7)))), some (.inl (mv_w ((i : Int) + 1))), none, none, none], G1)) else if G0 64 0 (Int.toNat (G0 52 0 7)) = 30047 then mv_cn (ff_X7_step [.inr (52, 0)] G0) fun r1 G1 => some (.inr (5, [some (.inr (52, 0)), some (.inl (G0 64 0 (Int.toNat (G0 52 0 7)))), some (.inl (mv_w ((i : Int) + 1))), none, none, none], G1)) else some (.inl (0, G0)))) := by
          intro G2 hc2 hS2
          have hT2 := pr_hT hT hc2
          refine mv_J.cn (fx_step _ hS2 hT2 hn (by omega)) (fun _ G3 h3 => ?_)
          obtain ⟨hS3, c3⟩ := h3
          have hc3 := hc2.tr c3
          have hT3 := pr_hT hT hc3
          have e7 : G3 52 0 7 = ((S.1 + 1 : Nat) : Int) := by
            rw [hS3.2.1]
            show (((pr_sg (pr_ad S (pr_un (pr_I t n S.1))) sg).1 + 1 : Nat) : Int) = _
            rw [y]
          rw [e7, mv_ckp (n := 401) (by omega), Int.toNat_natCast, pr_tk hn hT3 (S.1 + 1) (by omega), mv_ws (x := (i : Int) + 1) (by omega)]
          show mv_J mm_X7_readProduct _ (if pr_I t n (S.1 + 1) = 30042 then _ else if pr_I t n (S.1 + 1) = 30047 then _ else _)
          have go : (pr_I t n (S.1 + 1) = 30042 ∨ pr_I t n (S.1 + 1) = 30047) → mv_J mm_X7_readProduct (Q (pr_pp (pr_I t n) kd (f + 1) sg S)) (mv_cn (ff_X7_step [.inr (52, 0)] G3) fun r1 G1 => some (.inr (5, [some (.inr (52, 0)), some (.inl (pr_I t n (S.1 + 1))), some (.inl ((i : Int) + 1)), none, none, none], G1))) := fun h => by
            have hk2 : S.1 + 1 ≠ m := fun e => by rw [e, hIm] at h; omega
            refine mv_J.cn (fx_step _ hS3 hT3 hn (show (pr_sg (pr_ad S (pr_un (pr_I t n S.1))) sg).1 + 1 < m by omega)) (fun _ G4 h4 => mv_J.cut ?_)
            rw [eu, pr_t h]
            exact ih (i + 1) _ _ _ G4 (show m < (pr_sg (pr_ad S (pr_un (pr_I t n S.1))) sg).1 + 1 + 1 + f by omega) (hc3.tr h4.2) h4.1 (show (pr_sg (pr_ad S (pr_un (pr_I t n S.1))) sg).1 + 1 + 1 ≤ m by omega) (show i + 1 ≤ (pr_sg (pr_ad S (pr_un (pr_I t n S.1))) sg).1 + 1 + 1 by omega) (show (pr_sg (pr_ad S (pr_un (pr_I t n S.1))) sg).2.1 + (if pr_I t n (S.1 + 1) = 0 then 0 else 1) ≤ (pr_sg (pr_ad S (pr_un (pr_I t n S.1))) sg).1 + 1 + 1 by rw [y, z, if_neg (show ¬ pr_I t n (S.1 + 1) = 0 by omega)]; omega) (Or.inr ⟨rfl, Nat.succ_pos i, h⟩)
          refine mv_J.i (fun h => go (Or.inl h)) (fun h => mv_J.i (fun h2 => go (Or.inr h2)) (fun h2 => mv_J.ret ?_))
          rw [eu, pr_f (by omega), hQ]
          exact ⟨⟨hS3, show (pr_sg (pr_ad S (pr_un (pr_I t n S.1))) sg).1 + 1 ≤ m by omega⟩, hc3⟩
        -- the unit, then the sign
        have c126 : ∀ G2, pr_cc G G2 → pr_cS G2 (pr_ad S (pr_un (pr_I t n S.1))) → mv_JP mm_X7_readProduct (Q (pr_pp (pr_I t n) kd (f + 1) sg S)) 126 [some (.inr (52, 0)), some (.inl a1), some (.inl (i : Int)), none, none, none] G2 := by
          intro G2 hc2 hS2
          refine mv_JP.of (rg_X7_readProduct_126 _ _ G2) ?_
          rcases hsg with ⟨g1, g2, g3⟩ | ⟨g1, g2, g3⟩
          · have e : pr_sg (pr_ad S (pr_un (pr_I t n S.1))) sg = pr_ad S (pr_un (pr_I t n S.1)) := if_pos g3
            rw [← e] at hS2
            exact mv_J.f (by omega) (tail G2 hc2 hS2)
          · have e : pr_sg (pr_ad S (pr_un (pr_I t n S.1))) sg = pr_ad (pr_ad S (pr_un (pr_I t n S.1))) sg := if_neg (by omega)
            rw [g1]
            have hzz : S.2.1 + 1 ≤ 400 := by rw [if_neg (by omega)] at hz; omega
            refine mv_J.t (by omega) (mv_J.cn (fx_add _ hS2 (show S.2.1 + 1 < 401 by omega) sg) (fun _ G3 h3 => tail G3 (hc2.tr h3.2) (by rw [e]; exact h3.1)))
        have hz400 : S.2.1 < 401 := by omega
        refine mv_JP.of (rg_X7_readProduct_101 _ _ _ _ G1) ?_
        rcases h4 with ⟨g1, g2⟩ | ⟨g1, g2⟩
        · have hv2 := hI S.1
          have e : pr_un (pr_I t n S.1) = pr_I t n S.1 - 10009 := pr_f g2
          rw [mv_ws (x := pr_I t n S.1 - 20009) (by omega), mv_ws (x := pr_I t n S.1 - 20009 + 10000) (by omega), show pr_I t n S.1 - 20009 + 10000 = pr_un (pr_I t n S.1) by omega]
          exact mv_J.t g1 (mv_J.cn (fx_add S hS hz400 _) (fun _ G2 h2 => mv_J.cut (c126 G2 (hc.tr h2.2) h2.1)))
        · have e : pr_un (pr_I t n S.1) = pr_I t n S.1 := pr_t g2
          have := fx_add S hS hz400 (pr_un (pr_I t n S.1))
          rw [e] at this
          refine mv_J.f (by omega) (mv_J.cn this (fun _ G2 h2 => mv_J.cut (c126 G2 (hc.tr h2.2) (by rw [e]; exact h2.1))))
      -- is it a number
      have c48 : ∀ a4 : Int, (a4 = 0 ∧ ¬ pr_nb (pr_I t n S.1)) ∨ (a4 = 1 ∧ pr_nb (pr_I t n S.1)) → mv_JP mm_X7_readProduct (Q (pr_pp (pr_I t n) kd (f + 1) sg S)) 48 [some (.inr (52, 0)), some (.inl a1), some (.inl (i : Int)), some (.inl (pr_I t n S.1)), some (.inl a4), none] G1 := by
        intro a4 h4
        have f1 : ¬ pr_nb (pr_I t n S.1) ∧ (sg = 30047 ∨ ¬ pr_tm kd (pr_I t n S.1)) → pr_pp (pr_I t n) kd (f + 1) sg S = .inr (1, S.1) := fun h => by
          conv => lhs; unfold pr_pp
          exact pr_t h
        have f2 : ¬ (¬ pr_nb (pr_I t n S.1) ∧ (sg = 30047 ∨ ¬ pr_tm kd (pr_I t n S.1))) → sg = 30047 ∧ pr_I t n S.1 = 0 → pr_pp (pr_I t n) kd (f + 1) sg S = .inr (2, S.1) := fun h h2 => by
          conv => lhs; unfold pr_pp
          rw [pr_f h, pr_t h2]
        have ea : a1 = 30047 ↔ sg = 30047 := by omega
        refine mv_JP.of (rg_X7_readProduct_48 _ _ _ _ G1) ?_
        refine mv_J.i (fun h1 => ?_) (fun h1 => ?_)
        · have h1 := ea.mp h1
          refine mv_J.i (fun h2 => ?_) (fun h2 => ?_)
          · have hno : ¬ pr_nb (pr_I t n S.1) := by rcases h4 with ⟨_, h⟩ | ⟨h, _⟩; exact h; omega
            exact mv_J.f (by decide) (bad 1 (by decide) (f1 ⟨hno, Or.inl h1⟩))
          · have hyes : pr_nb (pr_I t n S.1) := by rcases h4 with ⟨h, _⟩ | ⟨_, h⟩; omega; exact h
            refine mv_J.f (by decide) (mv_J.i (fun h3 => bad 2 (by decide) (f2 (fun h => h.1 hyes) ⟨h1, h3⟩)) (fun h3 => mv_J.cut (good (fun h => h.1 hyes) (fun h => h3 h.2) a4 h4)))
        · have h1 : ¬ sg = 30047 := fun h => h1 (ea.mpr h)
          refine mv_J.i (fun h2 => ?_) (fun h2 => ?_)
          · have hno : ¬ pr_nb (pr_I t n S.1) := by rcases h4 with ⟨_, h⟩ | ⟨h, _⟩; exact h; omega
            refine mv_J.t rfl (mv_J.cn (fx_isTerm hk51 hkd _ (by omega)) (fun r G2 h3 => ?_))
            obtain ⟨h3, rfl⟩ := h3
            refine mv_J.i (fun h5 => bad 1 (by decide) (f1 ⟨hno, Or.inr (h3.mp h5)⟩)) (fun h5 => mv_J.t rfl (mv_J.cut (good (fun h => h.2.elim h1 (fun h6 => h5 (h3.mpr h6))) (fun h => h1 h.1) a4 h4)))
          · have hyes : pr_nb (pr_I t n S.1) := by rcases h4 with ⟨h, _⟩ | ⟨_, h⟩; omega; exact h
            exact mv_J.t rfl (mv_J.cut (good (fun h => h.1 hyes) (fun h => h1 h.1) a4 h4))
      refine mv_JP.of (rg_X7_readProduct_5 _ _ G1) ?_
      rw [hT1.1, hS.1, hS.2.1, Int.toNat_natCast, e64]
      refine mv_J.t (by omega) (mv_J.t rfl ?_)
      rw [mv_ckp (n := 401) (by omega)]
      refine mv_J.i (fun h1 => mv_J.cut (c48 0 (Or.inl ⟨rfl, fun h => by have := h.1; omega⟩))) (fun h1 => mv_J.i (fun h2 => mv_J.cut (c48 1 (Or.inr ⟨rfl, by omega, by omega⟩))) (fun h2 => mv_J.cut (c48 0 (Or.inl ⟨rfl, fun h => by have := h.2; omega⟩))))
  refine mv_Kp.mono (P := Q (pr_pp (pr_I t n) kd 500 0 S)) (mv_Kp.of (mv_JP.of (rg_X7_readProduct_0 G) (mv_J.cut ?_))) (fun r G' h => by rw [hQ] at h; exact h)
  exact key 500 0 (-2) 0 S G (by omega) mv_ch.rf h hk (Nat.zero_le _) (by rw [if_pos rfl]; exact hz) (Or.inl ⟨rfl, rfl, rfl⟩)
end PC
section PD
variable {G : mv_G} {t : Nat → Int} {n m kd : Nat}
set_option maxHeartbeats 2000000 in
set_option maxRecDepth 100000 in
theorem fx_readSum (hn : n ≤ 400) (hb : ∀ j, j < n → 0 ≤ t j ∧ t j ≤ 255) (hT : mv_cT G t n m) (hk5 : G 52 0 5 = (kd : Int)) (hkd : kd ≤ 1) (S : pr_S) (h : pr_cS G S) (hk : S.1 ≤ m) (hz : S.2.1 ≤ S.1) : mv_Kp (ff_X7_readSum [.inr (52, 0)] G) (fun _ G' => pr_cP t n m (pr_ps (pr_I t n) kd 500 0 S) G' ∧ pr_cc G G') := by
  have hm := hT.2.1
  have hIm := pr_I_m hT
  obtain ⟨Q, hQ⟩ : ∃ Q : pr_R → Int → mv_G → Prop, Q = (fun R _ G' => pr_cP t n m R G' ∧ pr_cc G G') := ⟨_, rfl⟩
  have key : ∀ (f i : Nat) (a1 sg : Int) (S : pr_S) (G1 : mv_G), m < S.1 + f → pr_cc G G1 → pr_cS G1 S → S.1 ≤ m → i ≤ S.1 → S.2.1 + (if sg = 0 then 0 else 1) ≤ S.1 → ((a1 = -2 ∧ i = 0 ∧ sg = 0) ∨ (a1 = sg ∧ 0 < i ∧ (sg = 30043 ∨ sg = 30045))) → mv_JP mm_X7_readSum (Q (pr_ps (pr_I t n) kd f sg S)) 5 [some (.inr (52, 0)), some (.inl a1), some (.inl (i : Int))] G1 := by
    intro f
    induction f with
    | zero => intro i a1 sg S G1 h1 _ _ h4; omega
    | succ f ih =>
      intro i a1 sg S G1 hf hc hS hk hi hz hsg
      have hT1 := pr_hT hT hc
      have hk51 : G1 52 0 5 = (kd : Int) := (pr_cc_k5 hc).trans hk5
      refine mv_JP.of (rg_X7_readSum_5 _ _ G1) ?_
      rw [hT1.1, hS.1]
      refine mv_J.t (by omega) (mv_J.t rfl (mv_J.cn (fx_readProduct hn hb hT1 hk51 hkd S hS hk (by omega)) (fun _ G2 h2 => ?_)))
      obtain ⟨h2, c2⟩ := h2
      have hc2 := hc.tr c2
      have hT2 := pr_hT hT hc2
      cases hp : pr_pp (pr_I t n) kd 500 0 S with
      | inr e =>
        rw [hp] at h2
        have h2 : pr_cE t n m G2 e := h2
        have er : pr_ps (pr_I t n) kd (f + 1) sg S = .inr e := by
          conv => lhs; unfold pr_ps
          rw [hp]; rfl
        rw [er]
        have lp : ∀ (v : Int) (G3 : mv_G), pr_cc G G3 → pr_cE t n m G3 e → mv_JP mm_X7_readSum (Q (.inr e)) 5 [some (.inr (52, 0)), some (.inl v), some (.inl (mv_w ((i : Int) + 1)))] G3 := fun v G3 c3 h3 => by
          refine mv_JP.of (rg_X7_readSum_5 _ _ G3) ?_
          have fin : mv_J mm_X7_readSum (Q (.inr e)) (some (.inl (0, G3))) := mv_J.ret (by rw [hQ]; exact ⟨h3, c3⟩)
          exact mv_J.i (fun _ => mv_J.f (fun h4 => h3.2.1 (h3.1.symm.trans h4)) fin) (fun _ => fin)
        have tl : ∀ (G3 : mv_G), pr_cc G G3 → pr_cE t n m G3 e → mv_J mm_X7_readSum (Q (.inr e)) (mv_ck (G3 52 0 7) 401 (if G3 64 0 (Int.toNat (G3 52 0 7)) = 30043 then mv_cn (ff_X7_step [.inr (52, 0)] G3) fun r1 G1 => some (.inr (5, [some (.inr (52, 0)), some (.inl (G3 64 0 (Int.toNat (G3 52 0 7)))), some (.inl (mv_w ((i : Int) + 1)))], G1)) else if G3 64 0 (Int.toNat (G3 52 0 7)) = 30045 then mv_cn (ff_X7_step [.inr (52, 0)] G3) fun r1 G1 => some (.inr (5, [some (.inr (52, 0)), some (.inl (G3 64 0 (Int.toNat (G3 52 0 7)))), some (.inl (mv_w ((i : Int) + 1)))], G1)) else some (.inl (0, G3)))) := fun G3 c3 h3 => by
          have hT3 := pr_hT hT c3
          have ck := pr_ckE h3 hT3 hn
          rw [mv_ckp (n := 401) ck]
          have st := mv_J.cn (M := mm_X7_readSum) (P := Q (.inr e)) (fx_stepE h3 hT3 hn) (fun _ G4 h4 => mv_J.cut (lp (G3 64 0 (Int.toNat (G3 52 0 7))) G4 (c3.tr h4.2) h4.1))
          exact mv_J.i (fun _ => st) (fun _ => mv_J.i (fun _ => st) (fun _ => mv_J.ret (by rw [hQ]; exact ⟨h3, c3⟩)))
        exact mv_J.i (fun _ => mv_J.cn (fx_addE h2 a1) (fun _ G3 h3 => tl G3 (hc2.tr h3.2) h3.1)) (fun _ => tl G2 hc2 h2)
      | inl S1 =>
        rw [hp] at h2
        have h2 : pr_cS G2 S1 ∧ S1.1 ≤ m := h2
        have er : pr_ps (pr_I t n) kd (f + 1) sg S = pr_if (pr_I t n S1.1 = 30043 ∨ pr_I t n S1.1 = 30045) (pr_ps (pr_I t n) kd f (pr_I t n S1.1) (pr_st (pr_sg S1 sg))) (.inl (pr_sg S1 sg)) := by
          conv => lhs; unfold pr_ps
          rw [hp]; rfl
        have b := pr_pp_b hIm 500 0 S S1 (if sg = 0 then 0 else 1) hk (by rw [if_pos rfl]; omega) hp
        have y : (pr_sg S1 sg).1 = S1.1 := pr_sg_1
        have z : (pr_sg S1 sg).2.1 = S1.2.1 + (if sg = 0 then 0 else 1) := pr_sg_2
        have tl : ∀ (G3 : mv_G), pr_cc G G3 → pr_cS G3 (pr_sg S1 sg) → mv_J mm_X7_readSum (Q (pr_ps (pr_I t n) kd (f + 1) sg S)) (mv_ck (G3 52 0 7) 401 (if G3 64 0 (Int.toNat (G3 52 0 7)) = 30043 then mv_cn (ff_X7_step [.inr (52, 0)] G3) fun r1 G1 => some (.inr (5, [some (.inr (52, 0)), some (.inl (G3 64 0 (Int.toNat (G3 52 0 7)))), some (.inl (mv_w ((i : Int) + 1)))], G1)) else if G3 64 0 (Int.toNat (G3 52 0 7)) = 30045 then mv_cn (ff_X7_step [.inr (52, 0)] G3) fun r1 G1 => some (.inr (5, [some (.inr (52, 0)), some (.inl (G3 64 0 (Int.toNat (G3 52 0 7)))), some (.inl (mv_w ((i : Int) + 1)))], G1)) else some (.inl (0, G3)))) := fun G3 c3 h3 => by
          have hT3 := pr_hT hT c3
          have e7 : G3 52 0 7 = (S1.1 : Int) := by rw [h3.2.1, y]
          rw [e7, mv_ckp (n := 401) (by omega), Int.toNat_natCast, pr_tk hn hT3 S1.1 (by omega), mv_ws (x := (i : Int) + 1) (by omega)]
          show mv_J mm_X7_readSum _ (if pr_I t n S1.1 = 30043 then _ else if pr_I t n S1.1 = 30045 then _ else _)
          have go : (pr_I t n S1.1 = 30043 ∨ pr_I t n S1.1 = 30045) → mv_J mm_X7_readSum (Q (pr_ps (pr_I t n) kd (f + 1) sg S)) (mv_cn (ff_X7_step [.inr (52, 0)] G3) fun r1 G1 => some (.inr (5, [some (.inr (52, 0)), some (.inl (pr_I t n S1.1)), some (.inl ((i : Int) + 1))], G1))) := fun h => by
            have hk2 : S1.1 ≠ m := fun e => by rw [e, hIm] at h; omega
            refine mv_J.cn (fx_step _ h3 hT3 hn (show (pr_sg S1 sg).1 < m by omega)) (fun _ G4 h4 => mv_J.cut ?_)
            rw [er, pr_t h]
            exact ih (i + 1) _ _ _ G4 (show m < (pr_sg S1 sg).1 + 1 + f by omega) (c3.tr h4.2) h4.1 (show (pr_sg S1 sg).1 + 1 ≤ m by omega) (show i + 1 ≤ (pr_sg S1 sg).1 + 1 by omega) (show (pr_sg S1 sg).2.1 + (if pr_I t n S1.1 = 0 then 0 else 1) ≤ (pr_sg S1 sg).1 + 1 by rw [y, z, if_neg (show ¬ pr_I t n S1.1 = 0 by omega)]; omega) (Or.inr ⟨rfl, Nat.succ_pos i, h⟩)
          refine mv_J.i (fun h => go (Or.inl h)) (fun h => mv_J.i (fun h2 => go (Or.inr h2)) (fun h2 => mv_J.ret ?_))
          rw [er, pr_f (by omega), hQ]
          exact ⟨⟨h3, by omega⟩, c3⟩
        rcases hsg with ⟨g1, g2, g3⟩ | ⟨g1, g2, g3⟩
        · have e : pr_sg S1 sg = S1 := if_pos g3
          exact mv_J.f (by omega) (tl G2 hc2 (by rw [e]; exact h2.1))
        · have e : pr_sg S1 sg = pr_ad S1 sg := if_neg (by omega)
          rw [g1]
          rw [if_neg (by omega)] at b
          exact mv_J.t (by omega) (mv_J.cn (fx_add S1 h2.1 (by omega) sg) (fun _ G3 h3 => tl G3 (hc2.tr h3.2) (by rw [e]; exact h3.1)))
  refine mv_Kp.mono (P := Q (pr_ps (pr_I t n) kd 500 0 S)) (mv_Kp.of (mv_JP.of (rg_X7_readSum_0 G) (mv_J.cut ?_))) (fun r G' h => by rw [hQ] at h; exact h)
  exact key 500 0 (-2) 0 S G (by omega) mv_ch.rf h hk (Nat.zero_le _) (by rw [if_pos rfl]; exact hz) (Or.inl ⟨rfl, rfl, rfl⟩)
end PD
