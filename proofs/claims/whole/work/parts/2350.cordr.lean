/-! ORDERS, the class: the first order, and the row itself. -/
theorem mv_sm_ge {g : Nat → Int} : ∀ q y, (∀ a, y ≤ a → a < y + q → 0 ≤ g a) → ∀ j, y ≤ j → j < y + q → g j ≤ mv_sm g q y
  | 0, y, _, j, h1, h2 => absurd h2 (by omega)
  | q + 1, y, h, j, h1, h2 => by
    show g j ≤ g y + mv_sm g q (y + 1)
    have hy := h y (Nat.le_refl _) (by omega)
    have nn : ∀ q y, (∀ a, y ≤ a → a < y + q → 0 ≤ g a) → 0 ≤ mv_sm g q y := fun q => by
      induction q with
      | zero => intro y _; exact Int.le_refl _
      | succ q ih =>
        intro y h
        show 0 ≤ g y + mv_sm g q (y + 1)
        have := h y (Nat.le_refl _) (by omega)
        have := ih (y + 1) (fun a h1 h2 => h a (by omega) (by omega))
        omega
    by_cases e : j = y
    · subst e
      have := nn q (j + 1) (fun a h1 h2 => h a (by omega) (by omega))
      omega
    · have := mv_sm_ge q (y + 1) (fun a h1 h2 => h a (by omega) (by omega)) j (by omega) (by omega)
      omega
section CZ
variable {G : mv_G} {a : mv_a}
/-- who may come next by places, and by persons -/
theorem mv_gd_og {G0 : mv_G} {T i : Nat} (hi : i < mv_c8 a) (hM : 0 < G0 88 0 T) : mv_gd a (mv_ep (mv_w8 a) T (mv_c8 a)) (mv_w8 a i) ↔ mv_og G0 a T i ∧ mv_oh a T i := by
  unfold mv_gd mv_og mv_oh
  rw [mv_ep_w hi, mv_ep_ad hi]
  exact ⟨fun h => ⟨⟨h.2.1, hM, h.2.2.2⟩, h.2.2.1⟩, fun h => ⟨((mv_w8_sp (a := a)).1 i hi).2, h.1.1, h.2, h.1.2.2⟩⟩
set_option maxHeartbeats 1000000 in
set_option maxRecDepth 100000 in
theorem fx_inFirst {G0 : mv_G} (hi : mv_iB a) (hW : mv_cW G a) (h8 : mv_c8 a ≤ 8) (hX : mv_NX G0 a) (hA : mv_WA G0 G a 0) (wanted : Int) (hw : 0 ≤ wanted) : ff_X1_inFirst [.inr (86, 0), .inl wanted] G = some (if mv_OO a 0 = 0 then -1 else if wanted < (mv_c8 a : Int) then ((mv_nx2 a (mv_seq a wanted.toNat) : Nat) : Int) else -1, G) := by
  obtain ⟨hP, hPe⟩ := mv_P_le hi
  have hpow : 2 ^ mv_c8 a ≤ 256 := Nat.pow_le_pow_right (n := 2) (by decide) h8
  have hpos : 0 < 2 ^ mv_c8 a := Nat.two_pow_pos _
  obtain ⟨X1, X2, X3⟩ := hX
  have r8 : ∀ m, mv_rmc a m (mv_P a) ≤ 8 := fun m => by
    have h1 := mv_rmc_le (a := a) (m := m) (mv_P a)
    have h2 := mv_rmc_wh (a := a) (mv_P a)
    unfold mv_c8 at h8
    omega
  have bO : ∀ m, 0 ≤ mv_OO a m ∧ mv_OO a m ≤ 40320 := fun m => mv_OO_b (r8 m)
  by_cases h0 : mv_OO a 0 = 0
  · rw [if_pos h0]
    refine mv_Kp.eq (mv_Kp.of (mv_JP.of (rg_X1_inFirst_0 wanted G) (mv_J.cut (mv_JP.of (rg_X1_inFirst_4 _ _ _ G) ?_))))
    rw [hW.1]
    refine mv_J.i (fun h1 => ?_) (fun h1 => mv_J.ret ⟨rfl, rfl⟩)
    obtain ⟨x, x1, x2, x3⟩ := (hA 0 (Nat.le_refl _) hpos).2
    have hbits : ∀ i, i < 8 → x.testBit i = false := fun i hi8 => by
      cases hb : x.testBit i with
      | false => rfl
      | true =>
        exfalso
        obtain ⟨g1, g2, g3, g4⟩ := (x3 i hi8).mp hb
        have hO := mv_OO_ep (a := a) (T := 0) hi hpos (by omega)
        rw [mv_ep_z, h0] at hO
        have := mv_sm_ge (g := fun i => mv_w1 ((0 : Nat).testBit i = false ∧ mv_cnc a (mv_w8 a i) 0) (mv_OO a (mv_ep (mv_w8 a) (0 ||| 2 ^ i) (mv_c8 a)))) (mv_c8 a) 0 (fun j _ _ => (mv_w1_b (bO _)).1) i (Nat.zero_le _) (by omega)
        rw [← hO] at this
        have hc : mv_cnc a (mv_w8 a i) 0 := by have := g3.2.2; rw [mv_ep_z] at this; exact this
        rw [mv_w1_t ⟨g3.1, hc⟩] at this
        have b := bO (mv_ep (mv_w8 a) (0 ||| 2 ^ i) (mv_c8 a))
        have : mv_OO a (mv_ep (mv_w8 a) (0 ||| 2 ^ i) (mv_c8 a)) = 0 := by omega
        exact g4 this
    have e32 : mv_nt x 8 0 = 32 := by
      have : ∀ k i, (∀ q, i ≤ q → q < i + k → x.testBit q = false) → mv_nt x k i = 32 := fun k => by
        induction k with
        | zero => intro i _; rfl
        | succ k ih =>
          intro i h
          unfold mv_nt
          rw [h i (Nat.le_refl _) (by omega), if_neg (by decide)]
          exact ih (i + 1) (fun q h1 h2 => h q (by omega) (by omega))
      exact this 8 0 (fun q _ h2 => hbits q (by omega))
    have hz := fx_ntz G x x1
    rw [e32] at hz
    rw [mv_ckp (n := 256) (by omega), show Int.toNat 0 = 0 from rfl, x2]
    refine mv_J.ce hz ?_
    rw [hW.1]
    exact mv_J.f (by omega) (mv_J.ret ⟨rfl, rfl⟩)
  · rw [if_neg h0]
    have key : ∀ (k i T : Nat), i + k = mv_c8 a → (i : Int) ≤ wanted → T < 2 ^ mv_c8 a → 0 < G0 88 0 T → mv_ep (mv_w8 a) T (mv_c8 a) = mv_seq a i → mv_JP mm_X1_inFirst (fun v G' => v = (if wanted < (mv_c8 a : Int) then ((mv_nx2 a (mv_seq a wanted.toNat) : Nat) : Int) else -1) ∧ G' = G) 4 [some (.inr (86, 0)), some (.inl wanted), some (.inl (T : Int)), some (.inl (i : Int)), none] G := by
      intro k
      induction k with
      | zero =>
        intro i T hk hiw hT hM he
        refine mv_JP.of (rg_X1_inFirst_4 _ _ _ G) ?_
        rw [hW.1]
        exact mv_J.f (by omega) (mv_J.ret ⟨by rw [if_neg (by omega)], rfl⟩)
      | succ k ih =>
        intro i T hk hiw hT hM he
        have hic : i < mv_c8 a := by omega
        obtain ⟨s1, s2, s3, s4⟩ := mv_seq_sp hi h8 h0 i (show i ≤ mv_c8 a by omega)
        have s4 : mv_rmc a (mv_seq a i) (mv_P a) + i = mv_c8 a := s4
        obtain ⟨q, hq, hg⟩ := mv_gd_ex (a := a) (m := mv_seq a i) (r8 _) (by omega) s3
        obtain ⟨n1, n2, n3, n4⟩ := mv_nx1_sp (a := a) (m := mv_seq a i) (mv_P a) 0 ⟨q, by omega, by omega, hg⟩
        have n2 : mv_nx2 a (mv_seq a i) < mv_P a := by unfold mv_nx2; omega
        have n3 : mv_gd a (mv_seq a i) (mv_nx2 a (mv_seq a i)) := n3
        have n4 : ∀ q, q < mv_nx2 a (mv_seq a i) → ¬ mv_gd a (mv_seq a i) q := fun q h => n4 q (Nat.zero_le _) h
        obtain ⟨j1, hj1, ej1⟩ := mv_wh_has n3.1 (mv_P a) n2
        have hj1 : j1 < mv_c8 a := hj1
        have ej1 : mv_w8 a j1 = mv_nx2 a (mv_seq a i) := ej1
        have hTn : T ≠ 2 ^ mv_c8 a - 1 := fun e => by
          have := (mv_ep_all hT).mpr e
          rw [he] at this
          omega
        obtain ⟨x, x1, x2, x3⟩ := (hA T (Nat.zero_le _) hT).2
        have b1 : x.testBit j1 = true := (x3 j1 (by omega)).mpr ⟨by omega, hj1, (mv_gd_og hj1 hM).mp (by rw [he, ej1]; exact n3)⟩
        obtain ⟨t1, t2, t3, t4⟩ := mv_nt_sp (x := x) 8 0 ⟨j1, Nat.zero_le _, by omega, b1⟩
        have hz := fx_ntz G x x1
        have ej : mv_nt x 8 0 = j1 := by
          obtain ⟨y1, y2, y3⟩ := (x3 (mv_nt x 8 0) (by omega)).mp t3
          have yg := (mv_gd_og y2 hM).mpr y3
          rw [he] at yg
          rcases Nat.lt_trichotomy (mv_nt x 8 0) j1 with h1 | h1 | h1
          · have := (mv_w8_sp (a := a)).2 _ _ h1 hj1
            rw [ej1] at this
            exact absurd yg (n4 _ this)
          · exact h1
          · have := t4 j1 (Nat.zero_le _) h1
            rw [b1] at this
            cases this
        rw [ej] at hz
        have hgj := ((x3 j1 (by omega)).mp b1).2.2
        refine mv_JP.of (rg_X1_inFirst_4 _ _ _ G) ?_
        rw [hW.1, mv_ckp (n := 256) (by omega), Int.toNat_natCast, x2]
        refine mv_J.t (by omega) (mv_J.ce hz ?_)
        rw [hW.1, Int.toNat_natCast, hW.2 j1 hj1, ej1]
        refine mv_J.t (by omega) (mv_J.i (fun h1 => mv_J.ck (by omega) (mv_J.ret ⟨?_, rfl⟩)) (fun h1 => mv_J.cut ?_))
        · rw [if_pos (by omega), ← h1, Int.toNat_natCast]
        · rw [mv_ad_n (show T < 1024 by omega) (by omega), mv_ws (by omega)]
          refine ih (i + 1) (T ||| 2 ^ j1) (by omega) (by omega) (mv_ad_lt hT hj1) ((X2 T (by omega)).1 j1 hj1 hgj.1) ?_
          rw [mv_ep_ad hj1, he, ej1]
          rfl
    exact mv_Kp.eq (mv_Kp.of (mv_JP.of (rg_X1_inFirst_0 wanted G) (mv_J.cut (key (mv_c8 a) 0 0 (Nat.zero_add _) (by omega) hpos X1 (mv_ep_z _)))))
theorem fx_orders (hB : mv_cB G a) (hi : mv_iB a) (hL : mv_cL G 8 a 17) (hLi : mv_iL mv_qs a 17) (what : Int) (hwi : -2147483648 ≤ what ∧ what < 2147483648) : mv_Kp (ff_X11_orders [.inr (0, 0), .inl what] G) (fun v G' => v = mv_ord a what ∧ mv_ch [13, 67, 68, 69, 70, 71, 73, 87, 88, 89] [(66, 0), (66, 6), (66, 7), (66, 8), (66, 9), (86, 6)] G G') := by
  obtain ⟨P, hPP⟩ : ∃ P : Int → mv_G → Prop, P = (fun v G' => v = mv_ord a what ∧ mv_ch [13, 67, 68, 69, 70, 71, 73, 87, 88, 89] [(66, 0), (66, 6), (66, 7), (66, 8), (66, 9), (86, 6)] G G') := ⟨_, rfl⟩
  rw [← hPP]
  have dead : ∀ G2, ¬ ((mv_wh a (mv_P a)).1 ≤ 8 ∧ (what = 0 ∨ 10 ≤ what ∧ what ≤ 9 + ((mv_wh a (mv_P a)).1 : Int))) → mv_ch [13, 67, 68, 69, 70, 71, 73, 87, 88, 89] [(66, 0), (66, 6), (66, 7), (66, 8), (66, 9), (86, 6)] G G2 → mv_J mm_X11_orders P (some (.inl (-1, G2))) := fun G2 h2 h3 => by
    refine mv_J.ret ?_
    rw [hPP]
    exact ⟨(if_neg h2).symm, h3⟩
  have tail : (what = 0 ∨ 10 ≤ what) → mv_J mm_X11_orders P (mv_cn (ff_X1_gatherAll [.inr (86, 0)] G) fun r0 G0 => if r0 = 0 then some (.inl (-1, G0)) else mv_cn (ff_X1_findNextOnes [.inr (86, 0)] G0) fun _ G1 => mv_cn (ff_X1_countWays [.inr (86, 0)] G1) fun _ G2 => if what = 0 then mv_cn (ff_X1_howMany [.inr (86, 0)] G2) fun r3 G3 => some (.inl (r3, G3)) else mv_cn (ff_X1_inFirst [.inr (86, 0), .inl (mv_w (what - 10))] G2) fun r3 G3 => some (.inl (r3, G3))) := by
    intro hw
    refine mv_J.cn (fx_gatherAll hB hi) (fun v G1 h1 => ?_)
    obtain ⟨h1, h2, c1⟩ := h1
    subst h1
    have hc1 : mv_ch [13, 67, 68, 69, 70, 71, 73, 87, 88, 89] [(66, 0), (66, 6), (66, 7), (66, 8), (66, 9), (86, 6)] G G1 := c1.mono rfl rfl
    refine mv_J.bt (fun h3 => dead G1 (fun h => h3 h.1) hc1) (fun h8 => ?_)
    have hW1 := h2 h8
    have hB1 := hB.ch hc1 (by decide)
    have hL1 := hL.ch hc1 (by decide)
    refine mv_J.cn (fx_findNextOnes hB1 hi hL1 hLi hW1 h8) (fun v G2 h4 => ?_)
    obtain ⟨hX, c2⟩ := h4
    have hW2 := hW1.ch c2 rfl rfl
    refine mv_J.cn (fx_countWays hi hW2 h8 hX) (fun v G3 h5 => ?_)
    obtain ⟨hA, c3⟩ := h5
    have hW3 := hW2.ch c3 rfl rfl
    have hc3 : mv_ch [13, 67, 68, 69, 70, 71, 73, 87, 88, 89] [(66, 0), (66, 6), (66, 7), (66, 8), (66, 9), (86, 6)] G G3 := (hc1.tr (c2.mono rfl rfl)).tr (c3.mono rfl rfl)
    have er : mv_ord a what = if mv_c8 a ≤ 8 ∧ (what = 0 ∨ 10 ≤ what ∧ what ≤ 9 + (mv_c8 a : Int)) then (if what = 0 then mv_OO a 0 else if mv_OO a 0 = 0 then -1 else ((mv_nx2 a (mv_seq a (what - 10).toNat) : Nat) : Int)) else -1 := rfl
    refine mv_J.i (fun h6 => ?_) (fun h6 => ?_)
    · have hh : ff_X1_howMany [.inr (86, 0)] G3 = some (mv_OO a 0, G3) := by
        refine mv_Kp.eq (mv_Kp.of (mv_JP.of (rg_X1_howMany_0 G3) ?_))
        have := (hA 0 (Nat.le_refl _) (Nat.two_pow_pos _)).1 hX.1
        rw [mv_ep_z] at this
        rw [this, mv_ckp (n := 256) (by omega)]
        exact mv_J.ret ⟨rfl, rfl⟩
      refine mv_J.ce hh (mv_J.ret ?_)
      rw [hPP]
      exact ⟨by rw [er, if_pos ⟨h8, Or.inl h6⟩, if_pos h6], hc3⟩
    · have h10 : 10 ≤ what := hw.resolve_left h6
      rw [mv_ws (by omega)]
      refine mv_J.ce (fx_inFirst hi hW3 h8 hX hA _ (by omega)) (mv_J.ret ?_)
      rw [hPP]
      refine ⟨?_, hc3⟩
      rw [er]
      by_cases h7 : what ≤ 9 + (mv_c8 a : Int)
      · rw [if_pos (c := mv_c8 a ≤ 8 ∧ (what = 0 ∨ 10 ≤ what ∧ what ≤ 9 + (mv_c8 a : Int))) ⟨h8, Or.inr ⟨h10, h7⟩⟩, if_neg h6, if_pos (show what - 10 < (mv_c8 a : Int) by omega)]
      · rw [if_neg (c := mv_c8 a ≤ 8 ∧ (what = 0 ∨ 10 ≤ what ∧ what ≤ 9 + (mv_c8 a : Int))) (fun h => h.2.elim h6 (fun h => h7 h.2)), if_neg (show ¬ what - 10 < (mv_c8 a : Int) by omega)]
        exact ite_self _
  refine mv_Kp.of (mv_JP.of (rg_X11_orders_0 what G) ?_)
  refine mv_J.i (fun h => tail (Or.inl h)) (fun h => mv_J.i (fun h2 => dead G (fun h3 => h3.2.elim h (fun h4 => ?_)) mv_ch.rf) (fun h2 => tail (Or.inr ?_)))
  · omega
  · omega
end CZ
