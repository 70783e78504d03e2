/-! ORDERS, the class. -/
section CY
variable {G : mv_G} {a : mv_a}
/-- a place may come next -/
def mv_og (G : mv_G) (a : mv_a) (T i : Nat) : Prop := T.testBit i = false ∧ 0 < G 88 0 T ∧ mv_cnc a (mv_w8 a i) (mv_ep (mv_w8 a) T (mv_c8 a))
/-- the bits of a set's next ones, as far as place n -/
def mv_onb (G H : mv_G) (a : mv_a) (T n : Nat) : Prop := ∃ x : Nat, x < 256 ∧ H 89 0 T = (x : Int) ∧ ∀ i, i < 8 → (x.testBit i = true ↔ i < n ∧ mv_og G a T i)
/-- all next ones are found -/
def mv_NX (G : mv_G) (a : mv_a) : Prop := 0 < G 88 0 0 ∧ (∀ T, T + 1 < 2 ^ mv_c8 a → (∀ i, i < mv_c8 a → mv_og G a T i → 0 < G 88 0 (T ||| 2 ^ i)) ∧ mv_onb G G a T (mv_c8 a)) ∧ G 89 0 (2 ^ mv_c8 a - 1) = 0
set_option maxHeartbeats 2000000 in
set_option maxRecDepth 100000 in
theorem fx_findNextOnes (hB : mv_cB G a) (hi : mv_iB a) (hL : mv_cL G 8 a 17) (hLi : mv_iL mv_qs a 17) (hW : mv_cW G a) (h8 : mv_c8 a ≤ 8) : mv_Kp (ff_X1_findNextOnes [.inr (86, 0)] G) (fun _ G' => mv_NX G' a ∧ mv_ch [13, 67, 68, 69, 70, 71, 73, 88, 89] [(66, 0), (66, 6), (66, 7), (66, 8), (66, 9)] G G') := by
  have hpow : 2 ^ mv_c8 a ≤ 256 := Nat.pow_le_pow_right (n := 2) (by decide) h8
  have hpos : 0 < 2 ^ mv_c8 a := Nat.two_pow_pos _
  obtain ⟨N, hN⟩ : ∃ N, 2 ^ mv_c8 a = N := ⟨_, rfl⟩
  have adlt : ∀ T i, T < N → i < mv_c8 a → T ||| 2 ^ i < N := fun T i h1 h2 => by rw [← hN] at h1 ⊢; exact mv_ad_lt h1 h2
  obtain ⟨P, hP⟩ : ∃ P : Int → mv_G → Prop, P = (fun _ G' => mv_NX G' a ∧ mv_ch [13, 67, 68, 69, 70, 71, 73, 88, 89] [(66, 0), (66, 6), (66, 7), (66, 8), (66, 9)] G G') := ⟨_, rfl⟩
  rw [← hP]
  unfold mv_NX at hP
  rw [hN] at hP hpow hpos
  have hall : ∀ G1 : mv_G, mv_w (mv_shl 1 ((mv_c8 a : Nat) : Int) - 1) = ((N - 1 : Nat) : Int) := fun _ => by
    rw [mv_shl_n _ (by omega), hN, mv_ws (by omega)]
    omega
  have key : ∀ (q T : Nat) (G1 : mv_G), T + q + 1 = N → mv_ch [13, 67, 68, 69, 70, 71, 73, 88, 89] [(66, 0), (66, 6), (66, 7), (66, 8), (66, 9)] G G1 → 0 < G1 88 0 0 → (∀ U, U < T → (∀ i, i < mv_c8 a → mv_og G1 a U i → 0 < G1 88 0 (U ||| 2 ^ i)) ∧ mv_onb G1 G1 a U (mv_c8 a)) → (∀ U, T ≤ U → U < 256 → G1 89 0 U = 0) → mv_JP mm_X1_findNextOnes P 34 [some (.inr (86, 0)), some (.inl ((N - 1 : Nat) : Int)), some (.inl (T : Int)), none, none] G1 := by
    intro q
    induction q with
    | zero =>
      intro T G1 hq hc h0 hd hz
      refine mv_JP.of (rg_X1_findNextOnes_34 _ _ G1) (mv_J.f (by omega) (mv_J.ret ?_))
      rw [hP]
      exact ⟨⟨h0, fun U hU => hd U (by omega), hz (N - 1) (by omega) (by omega)⟩, hc⟩
    | succ q ih =>
      intro T G1 hq hc h0 hd hz
      refine mv_JP.of (rg_X1_findNextOnes_34 _ _ G1) (mv_J.t (by omega) (mv_J.cut ?_))
      have inner : ∀ (m n : Nat) (G2 : mv_G), n + m = mv_c8 a → mv_ch [13, 67, 68, 69, 70, 71, 73, 88, 89] [(66, 0), (66, 6), (66, 7), (66, 8), (66, 9)] G G2 → 0 < G2 88 0 0 → (∀ U, U < T → (∀ i, i < mv_c8 a → mv_og G2 a U i → 0 < G2 88 0 (U ||| 2 ^ i)) ∧ mv_onb G2 G2 a U (mv_c8 a)) → (∀ i, i < n → mv_og G2 a T i → 0 < G2 88 0 (T ||| 2 ^ i)) → mv_onb G2 G2 a T n → (∀ U, T < U → U < 256 → G2 89 0 U = 0) → mv_JP mm_X1_findNextOnes P 41 [some (.inr (86, 0)), some (.inl ((N - 1 : Nat) : Int)), some (.inl (T : Int)), some (.inl (n : Int)), none] G2 := by
        intro m
        -- to the next set
        have out : ∀ (n : Nat) (G2 : mv_G), mv_ch [13, 67, 68, 69, 70, 71, 73, 88, 89] [(66, 0), (66, 6), (66, 7), (66, 8), (66, 9)] G G2 → 0 < G2 88 0 0 → (∀ U, U < T → (∀ i, i < mv_c8 a → mv_og G2 a U i → 0 < G2 88 0 (U ||| 2 ^ i)) ∧ mv_onb G2 G2 a U (mv_c8 a)) → (∀ i, i < mv_c8 a → mv_og G2 a T i → 0 < G2 88 0 (T ||| 2 ^ i)) → mv_onb G2 G2 a T (mv_c8 a) → (∀ U, T < U → U < 256 → G2 89 0 U = 0) → mv_JP mm_X1_findNextOnes P 34 [some (.inr (86, 0)), some (.inl ((N - 1 : Nat) : Int)), some (.inl (mv_w ((T : Int) + 1))), none, none] G2 := fun n G2 hc2 h02 hd2 hs2 hb2 hz2 => by
          rw [mv_ws (by omega)]
          refine ih (T + 1) G2 (by omega) hc2 h02 (fun U hU => ?_) (fun U hU1 hU2 => hz2 U (by omega) hU2)
          by_cases e : U = T
          · subst e; exact ⟨hs2, hb2⟩
          · exact hd2 U (by omega)
        induction m with
        | zero =>
          intro n G2 hm hc2 h02 hd2 hs2 hb2 hz2
          have e : n = mv_c8 a := by omega
          subst e
          have hW2 := hW.ch hc2 rfl rfl
          refine mv_JP.of (rg_X1_findNextOnes_41 _ _ _ G2) ?_
          rw [hW2.1]
          exact mv_J.f (by omega) (mv_J.cut (out (mv_c8 a) G2 hc2 h02 hd2 hs2 hb2 hz2))
        | succ m ihm =>
          intro n G2 hm hc2 h02 hd2 hs2 hb2 hz2
          have hn : n < mv_c8 a := by omega
          have hW2 := hW.ch hc2 rfl rfl
          have hB2 := hB.ch hc2 (by decide)
          have hL2 := hL.ch hc2 (by decide)
          obtain ⟨x, hx, hx9, hxb⟩ := hb2
          refine mv_JP.of (rg_X1_findNextOnes_41 _ _ _ G2) ?_
          rw [hW2.1, Int.toNat_natCast, mv_ws (x := (n : Int) + 1) (by omega)]
          refine mv_J.t (by omega) ?_
          rw [mv_ckp (n := 256) (by omega)]
          refine mv_J.i (fun h1 => ?_) (fun h1 => mv_J.cut (out n G2 hc2 h02 hd2 (fun i hi hg => absurd hg.2.1 h1) ⟨x, hx, hx9, fun i hi => ?_⟩ hz2))
          · -- no: this place is none of them
            have no : ∀ G3 : mv_G, mv_ch [13, 67, 68, 69, 70, 71, 73] [(66, 0), (66, 6), (66, 7), (66, 8), (66, 9)] G2 G3 → ¬ mv_og G2 a T n → mv_JP mm_X1_findNextOnes P 41 [some (.inr (86, 0)), some (.inl ((N - 1 : Nat) : Int)), some (.inl (T : Int)), some (.inl ((n : Int) + 1)), none] G3 := fun G3 c3 hg => by
              have e88 := c3.cell 88 rfl
              have e89 := c3.cell 89 rfl
              have eg : ∀ U i, mv_og G3 a U i ↔ mv_og G2 a U i := fun U i => by unfold mv_og; rw [e88]
              have := ihm (n + 1) G3 (by omega) (hc2.tr (c3.mono rfl rfl)) (by rw [e88]; exact h02) (fun U hU => ⟨fun i hi hg2 => by rw [e88]; exact (hd2 U hU).1 i hi ((eg U i).mp hg2), by
                obtain ⟨y, y1, y2, y3⟩ := (hd2 U hU).2
                exact ⟨y, y1, by rw [e89]; exact y2, fun i hi => by rw [y3 i hi, eg]⟩⟩) (fun i hi hg2 => by
                rw [e88]
                have hg2 := (eg T i).mp hg2
                by_cases e : i = n
                · exact absurd (e ▸ hg2) hg
                · exact hs2 i (by omega) hg2) ⟨x, hx, by rw [e89]; exact hx9, fun i hi => by
                rw [hxb i hi, eg]
                constructor
                · rintro ⟨g1, g2⟩; exact ⟨by omega, g2⟩
                · rintro ⟨g1, g2⟩
                  refine ⟨?_, g2⟩
                  by_cases e : i = n
                  · exact absurd (e ▸ g2) hg
                  · omega⟩ (fun U h1 h2 => by rw [e89]; exact hz2 U h1 h2)
              exact this
            refine mv_J.i (fun h2 => ?_) (fun h2 => mv_J.cut (no G2 mv_ch.rf (fun hg => h2 ((mv_tb_and (by omega) (by omega)).mpr hg.1))))
            have h2 := (mv_tb_and (x := T) (i := n) (by omega) (by omega)).mp h2
            refine mv_J.cn (fx_sitsSo hB2 hi hL2 hLi hW2 h8 n T hn (by omega)) (fun v G3 h3 => ?_)
            obtain ⟨h3, c3⟩ := h3
            subst h3
            refine mv_J.bt (fun h4 => mv_J.cut (no G3 c3 (fun hg => h4 hg.2.2))) (fun h4 => ?_)
            have hlt := adlt T n (by omega) hn
            have hgt := mv_ad_gt h2
            have e88 := c3.cell 88 rfl
            have e89 := c3.cell 89 rfl
            rw [mv_ad_n (by omega) (by omega), mv_ckp (n := 256) (by omega), mv_ckp (n := 256) (by omega), e89, hx9, mv_ad_n (by omega) (by omega), Int.toNat_natCast]
            refine mv_J.ck (by omega) (mv_J.cut ?_)
            obtain ⟨y, hy⟩ : ∃ y, T ||| 2 ^ n = y := ⟨_, rfl⟩
            rw [hy] at hlt hgt ⊢
            have hg0 : mv_og G2 a T n := ⟨h2, h1, h4⟩
            have m88 : ∀ U, (mv_up (mv_up G3 89 0 T ((x ||| 2 ^ n : Nat) : Int)) 88 0 y 1) 88 0 U = if U = y then 1 else G2 88 0 U := fun U => by
              rw [mv_up_at, mv_up_k (by decide), e88]
            have m89 : ∀ U, (mv_up (mv_up G3 89 0 T ((x ||| 2 ^ n : Nat) : Int)) 88 0 y 1) 89 0 U = if U = T then ((x ||| 2 ^ n : Nat) : Int) else G2 89 0 U := fun U => by
              rw [mv_up_k (by decide), mv_up_at, e89]
            have hc4 : mv_ch [13, 67, 68, 69, 70, 71, 73, 88, 89] [(66, 0), (66, 6), (66, 7), (66, 8), (66, 9)] G (mv_up (mv_up G3 89 0 T ((x ||| 2 ^ n : Nat) : Int)) 88 0 y 1) := ((hc2.tr (c3.mono rfl rfl)).uc rfl).uc rfl
            generalize mv_up (mv_up G3 89 0 T ((x ||| 2 ^ n : Nat) : Int)) 88 0 y 1 = G4 at m88 m89 hc4
            have eg : ∀ U i, U < y → (mv_og G4 a U i ↔ mv_og G2 a U i) := fun U i hU => by unfold mv_og; rw [m88, if_neg (by omega)]
            have pos : ∀ U, 0 < G2 88 0 U → 0 < G4 88 0 U := fun U h => by
              rw [m88]
              split <;> omega
            have := ihm (n + 1) G4 (by omega) hc4 (pos 0 h02) (fun U hU => ⟨fun i hi hg2 => pos _ ((hd2 U hU).1 i hi ((eg U i (by omega)).mp hg2)), by
              obtain ⟨z, y1, y2, y3⟩ := (hd2 U hU).2
              exact ⟨z, y1, by rw [m89, if_neg (by omega)]; exact y2, fun i hi => by rw [y3 i hi, eg U i (by omega)]⟩⟩) (fun i hi hg2 => by
              have hg2 := (eg T i hgt).mp hg2
              by_cases e : i = n
              · subst e
                rw [hy, m88, if_pos rfl]
                omega
              · exact pos _ (hs2 i (by omega) hg2)) ⟨x ||| 2 ^ n, mv_ad_lt (d := 8) hx (by omega), by rw [m89, if_pos rfl], fun i hi => by
              rw [mv_ad_tb, Bool.or_eq_true, decide_eq_true_iff, hxb i hi, eg T i hgt]
              constructor
              · rintro (⟨g1, g2⟩ | g)
                · exact ⟨by omega, g2⟩
                · exact ⟨by omega, g ▸ hg0⟩
              · rintro ⟨g1, g2⟩
                by_cases e : n = i
                · exact Or.inr e
                · exact Or.inl ⟨by omega, g2⟩⟩ (fun U h5 h6 => by rw [m89, if_neg (by omega)]; exact hz2 U h5 h6)
            exact this
          · rw [hxb i hi]
            constructor
            · rintro ⟨g1, g2⟩; exact absurd g2.2.1 h1
            · rintro ⟨g1, g2⟩; exact absurd g2.2.1 h1
      have := inner (mv_c8 a) 0 G1 (by omega) hc h0 hd (fun i h => absurd h (Nat.not_lt_zero i)) ⟨0, by decide, by rw [hz T (Nat.le_refl _) (by omega)]; rfl, fun i hi => ⟨fun h => (by rw [Nat.zero_testBit] at h; cases h), fun h => absurd h.1 (Nat.not_lt_zero i)⟩⟩ (fun U h1 h2 => hz U (by omega) h2)
      exact this
  refine mv_Kp.of (mv_JP.of (rg_X1_findNextOnes_0 G) (mv_J.ce (fx_fill_89 0 G) (mv_J.ce (fx_fill_88 0 _) ?_)))
  rw [hW.1, hall G, mv_ckp (n := 256) (by omega)]
  refine mv_J.cut ?_
  have c0 : mv_ch [13, 67, 68, 69, 70, 71, 73, 88, 89] [(66, 0), (66, 6), (66, 7), (66, 8), (66, 9)] G (mv_fl (mv_fl G 89 256 0) 88 256 0) := fun b i j h1 h2 => by
    rw [mv_fl_k, mv_fl_k]
    · intro e; subst e; revert h1; decide
    · intro e; subst e; revert h1; decide
  have := key (N - 1) 0 (mv_up (mv_fl (mv_fl G 89 256 0) 88 256 0) 88 0 0 1) (by omega) (c0.uc rfl) (by rw [mv_ups_eq]; decide) (fun U h => absurd h (Nat.not_lt_zero U)) (fun U h1 h2 => by
    rw [mv_up_k (by decide), mv_fl_k (by decide), mv_fl_at, if_pos h2])
  exact this
/-- one who may come next, and leads to an order -/
def mv_oh (a : mv_a) (T i : Nat) : Prop := mv_OO a (mv_ep (mv_w8 a) (T ||| 2 ^ i) (mv_c8 a)) ≠ 0
/-- what a place gives -/
noncomputable def mv_gt1 (G : mv_G) (a : mv_a) (T i : Nat) : Int := mv_w1 (mv_og G a T i) (mv_OO a (mv_ep (mv_w8 a) (T ||| 2 ^ i) (mv_c8 a)))
/-- what is counted, from a set on -/
def mv_WA (G0 G : mv_G) (a : mv_a) (t : Nat) : Prop := ∀ T, t ≤ T → T < 2 ^ mv_c8 a → (0 < G0 88 0 T → G 88 0 T = mv_OO a (mv_ep (mv_w8 a) T (mv_c8 a))) ∧ ∃ x : Nat, x < 256 ∧ G 89 0 T = (x : Int) ∧ ∀ i, i < 8 → (x.testBit i = true ↔ T + 1 < 2 ^ mv_c8 a ∧ i < mv_c8 a ∧ mv_og G0 a T i ∧ mv_oh a T i)
set_option maxHeartbeats 2000000 in
set_option maxRecDepth 100000 in
theorem fx_countWays (hi : mv_iB a) (hW : mv_cW G a) (h8 : mv_c8 a ≤ 8) (hX : mv_NX G a) : mv_Kp (ff_X1_countWays [.inr (86, 0)] G) (fun _ G' => mv_WA G G' a 0 ∧ mv_ch [88, 89] [] G G') := by
  have hpow : 2 ^ mv_c8 a ≤ 256 := Nat.pow_le_pow_right (n := 2) (by decide) h8
  have hpos : 0 < 2 ^ mv_c8 a := Nat.two_pow_pos _
  obtain ⟨N, hN⟩ : ∃ N, 2 ^ mv_c8 a = N := ⟨_, rfl⟩
  have r8 : ∀ m, mv_rmc a m (mv_P a) ≤ 8 := fun m => by
    have h1 := mv_rmc_le (a := a) (m := m) (mv_P a)
    have h2 := mv_rmc_wh (a := a) (mv_P a)
    unfold mv_c8 at h8
    omega
  have bO : ∀ T, 0 ≤ mv_OO a (mv_ep (mv_w8 a) T (mv_c8 a)) ∧ mv_OO a (mv_ep (mv_w8 a) T (mv_c8 a)) ≤ 40320 := fun T => mv_OO_b (r8 _)
  have adlt : ∀ T i, T < N → i < mv_c8 a → T ||| 2 ^ i < N := fun T i h1 h2 => by rw [← hN] at h1 ⊢; exact mv_ad_lt h1 h2
  obtain ⟨X1, X2, X3⟩ := hX
  have ep0 : ∀ T, T < N → (mv_rmc a (mv_ep (mv_w8 a) T (mv_c8 a)) (mv_P a) = 0 ↔ T = N - 1) := fun T hT => by
    have := mv_ep_all (a := a) (T := T) (by omega)
    rw [hN] at this
    exact this
  have eqO : ∀ T, T + 1 < N → 0 < G 88 0 T → mv_OO a (mv_ep (mv_w8 a) T (mv_c8 a)) = mv_sm (mv_gt1 G a T) (mv_c8 a) 0 := fun T hT hM => by
    rw [mv_OO_ep hi (by omega) (by omega)]
    refine mv_sm_cg _ _ (fun i h1 h2 => ?_)
    show mv_w1 _ _ = mv_w1 _ _
    congr 1
    unfold mv_og
    exact propext ⟨fun h => ⟨h.1, hM, h.2⟩, fun h => ⟨h.1, h.2.2⟩⟩
  obtain ⟨P, hP⟩ : ∃ P : Int → mv_G → Prop, P = (fun _ G' => mv_WA G G' a 0 ∧ mv_ch [88, 89] [] G G') := ⟨_, rfl⟩
  rw [← hP]
  unfold mv_WA at hP
  rw [hN] at hP X2 X3 hpow hpos
  have hall : mv_w (mv_shl 1 ((mv_c8 a : Nat) : Int) - 1) = ((N - 1 : Nat) : Int) := by
    rw [mv_shl_n _ (by omega), hN, mv_ws (by omega)]
    omega
  have key : ∀ (t : Nat) (G1 : mv_G), t ≤ N → mv_ch [88, 89] [] G G1 → (∀ T, t ≤ T → T < N → (0 < G 88 0 T → G1 88 0 T = mv_OO a (mv_ep (mv_w8 a) T (mv_c8 a))) ∧ ∃ x : Nat, x < 256 ∧ G1 89 0 T = (x : Int) ∧ ∀ i, i < 8 → (x.testBit i = true ↔ T + 1 < N ∧ i < mv_c8 a ∧ mv_og G a T i ∧ mv_oh a T i)) → (∀ T, T < t → G1 89 0 T = G 89 0 T) → mv_JP mm_X1_countWays P 11 [some (.inr (86, 0)), some (.inl ((N - 1 : Nat) : Int)), some (.inl ((t : Int) - 1)), none, none] G1 := by
    intro t
    induction t with
    | zero =>
      intro G1 ht hc hd hz
      refine mv_JP.of (rg_X1_countWays_11 _ _ G1) (mv_J.t (by omega) (mv_J.ret ?_))
      rw [hP]
      exact ⟨hd, hc⟩
    | succ T ih =>
      intro G1 ht hc hd hz
      rw [show ((T + 1 : Nat) : Int) - 1 = (T : Int) by omega]
      have hT : T < N := by omega
      -- the bits at first
      have bits : ∃ x : Nat, x < 256 ∧ G 89 0 T = (x : Int) ∧ ∀ i, i < 8 → (x.testBit i = true ↔ T + 1 < N ∧ i < mv_c8 a ∧ mv_og G a T i) := by
        by_cases c : T + 1 < N
        · obtain ⟨x, h1, h2, h3⟩ := (X2 T c).2
          exact ⟨x, h1, h2, fun i hi => by rw [h3 i hi]; exact ⟨fun h => ⟨c, h⟩, fun h => h.2⟩⟩
        · refine ⟨0, by decide, by rw [show T = N - 1 by omega, X3]; rfl, fun i hi => ⟨fun h => ?_, fun h => absurd h.1 c⟩⟩
          rw [Nat.zero_testBit] at h; cases h
      obtain ⟨x0, hx0, hx09, hx0b⟩ := bits
      have inner : ∀ (m n : Nat) (G2 : mv_G), n + m = mv_c8 a → mv_ch [88, 89] [] G G2 → (∀ U, T + 1 ≤ U → U < N → (0 < G 88 0 U → G2 88 0 U = mv_OO a (mv_ep (mv_w8 a) U (mv_c8 a))) ∧ ∃ x : Nat, x < 256 ∧ G2 89 0 U = (x : Int) ∧ ∀ i, i < 8 → (x.testBit i = true ↔ U + 1 < N ∧ i < mv_c8 a ∧ mv_og G a U i ∧ mv_oh a U i)) → (∀ U, U < T → G2 89 0 U = G 89 0 U) → (∃ x : Nat, x < 256 ∧ G2 89 0 T = (x : Int) ∧ ∀ i, i < 8 → (x.testBit i = true ↔ T + 1 < N ∧ i < mv_c8 a ∧ mv_og G a T i ∧ (i < n → mv_oh a T i))) → G2 88 0 T = (if T = N - 1 then 1 else 0) + mv_sm (fun i => mv_w1 (T + 1 < N) (mv_gt1 G a T i)) n 0 → mv_JP mm_X1_countWays P 33 [some (.inr (86, 0)), some (.inl ((N - 1 : Nat) : Int)), some (.inl (T : Int)), some (.inl (n : Int)), none] G2 := by
        intro m
        induction m with
        | zero =>
          intro n G2 hm hc2 hd2 hz2 hb2 he
          have e : n = mv_c8 a := by omega
          subst e
          have hW2 := hW.ch hc2 rfl rfl
          refine mv_JP.of (rg_X1_countWays_33 _ _ _ G2) ?_
          rw [hW2.1, mv_ws (x := (T : Int) + -1) (by omega), show (T : Int) + -1 = (T : Int) - 1 by omega]
          refine mv_J.f (by omega) (mv_J.cut (ih G2 (by omega) hc2 (fun U h1 h2 => ?_) (fun U hU => hz2 U hU)))
          by_cases eU : U = T
          · subst eU
            refine ⟨fun hM => ?_, ?_⟩
            · rw [he]
              by_cases c : U = N - 1
              · rw [if_pos c, mv_OO_0 ((ep0 U hT).mpr c)]
                have : mv_sm (fun i => mv_w1 (U + 1 < N) (mv_gt1 G a U i)) (mv_c8 a) 0 = mv_sm (fun _ => 0) (mv_c8 a) 0 := mv_sm_cg _ _ (fun i _ _ => mv_w1_f (by omega))
                have z : ∀ q y, mv_sm (fun _ => 0) q y = 0 := fun q => by
                  induction q with
                  | zero => intro y; rfl
                  | succ q ih => intro y; show 0 + mv_sm (fun _ => 0) q (y + 1) = 0; rw [ih]; rfl
                rw [this, z]
                rfl
              · rw [if_neg c, eqO U (by omega) hM, Int.zero_add]
                exact mv_sm_cg _ _ (fun i _ _ => mv_w1_t (by omega))
            · obtain ⟨x, y1, y2, y3⟩ := hb2
              exact ⟨x, y1, y2, fun i hi => by
                rw [y3 i hi]
                exact ⟨fun h => ⟨h.1, h.2.1, h.2.2.1, h.2.2.2 h.2.1⟩, fun h => ⟨h.1, h.2.1, h.2.2.1, fun _ => h.2.2.2⟩⟩⟩
          · exact hd2 U (by omega) h2
        | succ m ihm =>
          intro n G2 hm hc2 hd2 hz2 hb2 he
          have hn : n < mv_c8 a := by omega
          have hW2 := hW.ch hc2 rfl rfl
          obtain ⟨x, hx, hx9, hxb⟩ := hb2
          have es := mv_sm_s (g := fun i => mv_w1 (T + 1 < N) (mv_gt1 G a T i)) n 0
          rw [Nat.zero_add] at es
          have bs := mv_sm_b (g := fun i => mv_w1 (T + 1 < N) (mv_gt1 G a T i)) (B := 40320) n 0 (fun i _ _ => mv_w1_b (mv_w1_b (bO _)))
          have hxn := hxb n (by omega)
          refine mv_JP.of (rg_X1_countWays_33 _ _ _ G2) ?_
          rw [hW2.1, Int.toNat_natCast, mv_ws (x := (n : Int) + 1) (by omega), hx9]
          refine mv_J.t (by omega) ?_
          rw [mv_ckp (n := 256) (by omega)]
          refine mv_J.i (fun h1 => mv_J.cut ?_) (fun h1 => ?_)
          · have h1 := (mv_tb_and (x := x) (i := n) (by omega) (by omega)).mp h1
            have hno : ¬ (T + 1 < N ∧ mv_og G a T n) := fun h => by
              rw [hxn.mpr ⟨h.1, hn, h.2, fun h => absurd h (Nat.lt_irrefl n)⟩] at h1
              cases h1
            have e0 : mv_w1 (T + 1 < N) (mv_gt1 G a T n) = 0 := by
              by_cases c : T + 1 < N
              · rw [mv_w1_t c]
                exact mv_w1_f (fun h => hno ⟨c, h⟩)
              · exact mv_w1_f c
            have := ihm (n + 1) G2 (by omega) hc2 hd2 hz2 ⟨x, hx, hx9, fun i hi => by
              rw [hxb i hi]
              constructor
              · rintro ⟨g1, g2, g3, g4⟩
                refine ⟨g1, g2, g3, fun g5 => ?_⟩
                by_cases e : i = n
                · exact absurd ⟨g1, e ▸ g3⟩ hno
                · exact g4 (by omega)
              · rintro ⟨g1, g2, g3, g4⟩
                exact ⟨g1, g2, g3, fun g5 => g4 (by omega)⟩⟩ (by rw [es, e0, Int.add_zero]; exact he)
            exact this
          · have h1 : x.testBit n = true := by
              cases hb : x.testBit n with
              | true => rfl
              | false => exact absurd ((mv_tb_and (x := x) (i := n) (by omega) (by omega)).mpr hb) h1
            obtain ⟨g1, -, g3, -⟩ := hxn.mp h1
            have hlt := adlt T n hT hn
            have hgt := mv_ad_gt g3.1
            have hM : 0 < G 88 0 (T ||| 2 ^ n) := (X2 T g1).1 n hn g3
            have e88 := (hd2 (T ||| 2 ^ n) (by omega) hlt).1 hM
            have et : mv_w1 (T + 1 < N) (mv_gt1 G a T n) = mv_OO a (mv_ep (mv_w8 a) (T ||| 2 ^ n) (mv_c8 a)) := by
              rw [mv_w1_t g1]
              exact mv_w1_t g3
            have bn := bO (T ||| 2 ^ n)
            rw [mv_ad_n (by omega) (by omega), mv_ckp (n := 256) (by omega), mv_ckp (n := 256) (by omega), mv_ckp (n := 256) (by omega), mv_ckp (n := 256) (by omega), Int.toNat_natCast, e88, he, if_neg (show ¬ T = N - 1 by omega), mv_ws (by omega)]
            rw [if_neg (show ¬ T = N - 1 by omega)] at he
            -- the sum, put down
            have ev : 0 + mv_sm (fun i => mv_w1 (T + 1 < N) (mv_gt1 G a T i)) n 0 + mv_OO a (mv_ep (mv_w8 a) (T ||| 2 ^ n) (mv_c8 a)) = 0 + mv_sm (fun i => mv_w1 (T + 1 < N) (mv_gt1 G a T i)) (n + 1) 0 := by
              rw [es, et]
              omega
            rw [ev]
            have m88 : ∀ U, (mv_up G2 88 0 T (0 + mv_sm (fun i => mv_w1 (T + 1 < N) (mv_gt1 G a T i)) (n + 1) 0)) 88 0 U = if U = T then 0 + mv_sm (fun i => mv_w1 (T + 1 < N) (mv_gt1 G a T i)) (n + 1) 0 else G2 88 0 U := fun U => mv_up_at
            have m89 : (mv_up G2 88 0 T (0 + mv_sm (fun i => mv_w1 (T + 1 < N) (mv_gt1 G a T i)) (n + 1) 0)) 89 = G2 89 := mv_up_k (by decide)
            have hc3 : mv_ch [88, 89] [] G (mv_up G2 88 0 T (0 + mv_sm (fun i => mv_w1 (T + 1 < N) (mv_gt1 G a T i)) (n + 1) 0)) := hc2.uc rfl
            generalize mv_up G2 88 0 T (0 + mv_sm (fun i => mv_w1 (T + 1 < N) (mv_gt1 G a T i)) (n + 1) 0) = G3 at m88 m89 hc3
            have hd3 : ∀ U, T + 1 ≤ U → U < N → (0 < G 88 0 U → G3 88 0 U = mv_OO a (mv_ep (mv_w8 a) U (mv_c8 a))) ∧ ∃ x : Nat, x < 256 ∧ G3 89 0 U = (x : Int) ∧ ∀ i, i < 8 → (x.testBit i = true ↔ U + 1 < N ∧ i < mv_c8 a ∧ mv_og G a U i ∧ mv_oh a U i) := fun U h2 h3 => by
              rw [m88, if_neg (by omega), m89]
              exact hd2 U h2 h3
            have hz3 : ∀ U, U < T → G3 89 0 U = G 89 0 U := fun U hU => by rw [m89]; exact hz2 U hU
            have he3 : G3 88 0 T = (if T = N - 1 then 1 else 0) + mv_sm (fun i => mv_w1 (T + 1 < N) (mv_gt1 G a T i)) (n + 1) 0 := by
              rw [m88, if_pos rfl, if_neg (by omega)]
            rw [m88 (T ||| 2 ^ n), if_neg (show ¬ T ||| 2 ^ n = T by omega), e88, m89, hx9]
            refine mv_J.i (fun h2 => ?_) (fun h2 => mv_J.cut ?_)
            · obtain ⟨s1, s2⟩ := mv_sub_dec x hx n (by omega) h1
              rw [mv_ckp (n := 256) (by omega), mv_ckp (n := 256) (by omega), mv_shl_n n (by omega)]
              obtain ⟨z, hz0⟩ : ∃ z : Nat, z = 2 ^ n := ⟨_, rfl⟩
              rw [← hz0] at s1 s2 ⊢
              rw [mv_ws (by omega), show (x : Int) - (z : Int) = ((x - z : Nat) : Int) by omega]
              refine mv_J.cut ?_
              have := ihm (n + 1) (mv_up G3 89 0 T ((x - z : Nat) : Int)) (by omega) (hc3.uc rfl) (fun U h3 h4 => by
                rw [mv_up_k (by decide : (88 : Nat) ≠ 89), mv_up_j (by omega)]
                exact hd3 U h3 h4) (fun U hU => by
                rw [mv_up_j (by omega)]
                exact hz3 U hU) ⟨x - z, by omega, mv_ups_eq, fun i hi => by
                rw [s2 i hi, Bool.and_eq_true, hxb i hi, Bool.not_eq_true', decide_eq_false_iff_not]
                constructor
                · rintro ⟨⟨q1, q2, q3, q4⟩, q5⟩
                  exact ⟨q1, q2, q3, fun q6 => q4 (by omega)⟩
                · rintro ⟨q1, q2, q3, q4⟩
                  refine ⟨⟨q1, q2, q3, fun q5 => q4 (by omega)⟩, fun e => ?_⟩
                  have := q4 (by omega)
                  rw [← e] at this
                  exact this h2⟩ (by rw [mv_up_k (by decide)]; exact he3)
              exact this
            · have := ihm (n + 1) G3 (by omega) hc3 hd3 hz3 ⟨x, hx, by rw [m89]; exact hx9, fun i hi => by
                rw [hxb i hi]
                constructor
                · rintro ⟨q1, q2, q3, q4⟩
                  refine ⟨q1, q2, q3, fun q5 => ?_⟩
                  by_cases e : i = n
                  · rw [e]; exact h2
                  · exact q4 (by omega)
                · rintro ⟨q1, q2, q3, q4⟩
                  exact ⟨q1, q2, q3, fun q5 => q4 (by omega)⟩⟩ he3
              exact this
      have z0 : mv_sm (fun i => mv_w1 (T + 1 < N) (mv_gt1 G a T i)) 0 0 = 0 := rfl
      have start : ∀ v : Int, v = (if T = N - 1 then 1 else 0) → mv_JP mm_X1_countWays P 33 [some (.inr (86, 0)), some (.inl ((N - 1 : Nat) : Int)), some (.inl (T : Int)), some (.inl 0), none] (mv_up G1 88 0 T v) := fun v hv => by
        have := inner (mv_c8 a) 0 (mv_up G1 88 0 T v) (by omega) (hc.uc rfl) (fun U h1 h2 => by
          rw [mv_up_j (by omega), mv_up_k (by decide)]
          exact hd U (by omega) h2) (fun U hU => by rw [mv_up_k (by decide)]; exact hz U (by omega)) ⟨x0, hx0, by rw [mv_up_k (by decide), hz T (by omega)]; exact hx09, fun i hi => by
          rw [hx0b i hi]
          exact ⟨fun h => ⟨h.1, h.2.1, h.2.2, fun h2 => absurd h2 (Nat.not_lt_zero i)⟩, fun h => ⟨h.1, h.2.1, h.2.2.1⟩⟩⟩ (by rw [mv_ups_eq, hv, z0, Int.add_zero])
        exact this
      refine mv_JP.of (rg_X1_countWays_11 _ _ G1) (mv_J.f (by omega) ?_)
      rw [Int.toNat_natCast, mv_ckp (n := 256) (by omega), mv_ckp (n := 256) (by omega)]
      refine mv_J.i (fun h1 => mv_J.cut (start 1 ?_)) (fun h1 => mv_J.cut (start 0 ?_))
      · rw [if_pos (by omega)]
      · rw [if_neg (by omega)]
  refine mv_Kp.of (mv_JP.of (rg_X1_countWays_0 G) ?_)
  rw [hW.1, hall]
  refine mv_J.cut ?_
  have := key N G (Nat.le_refl _) mv_ch.rf (fun T h1 h2 => by omega) (fun T _ => rfl)
  rw [show (N : Int) - 1 = ((N - 1 : Nat) : Int) by omega] at this
  exact this
end CY
