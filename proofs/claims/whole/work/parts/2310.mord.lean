/-! ORDERS, the reference. -/
def mv_P (a : mv_a) : Nat := (a 0 1).toNat
noncomputable def mv_gtm (a : mv_a) (m : Nat) : Nat × mv_a := mv_gat a (m : Int) (mv_P a)
/-- one sits just where the law would have him come, those of the set being there -/
def mv_cnc (a : mv_a) (p m : Nat) : Prop := mv_bi a (mv_gtm a m).1 (mv_gtm a m).2 (a 4 p) (a 5 p) (a 6 p) (a 7 p) = a 3 p
noncomputable def mv_Of (a : mv_a) : Nat → Nat → Int
  | 0, _ => 1
  | d + 1, m => mv_sm (fun q => if a 3 q = -1 then 0 else mv_w1 (m.testBit q = false ∧ mv_cnc a q m) (mv_Of a d (m ||| 2 ^ q))) (mv_P a) 0
def mv_rmc (a : mv_a) (m : Nat) : Nat → Nat
  | 0 => 0
  | p + 1 => (if a 3 p ≠ -1 ∧ m.testBit p = false then 1 else 0) + mv_rmc a m p
/-- in how many orders the others can come -/
noncomputable def mv_OO (a : mv_a) (m : Nat) : Int := mv_Of a (mv_rmc a m (mv_P a)) m
/-- what one gives who comes next -/
noncomputable def mv_Ot (a : mv_a) (m q : Nat) : Int := if a 3 q = -1 then 0 else mv_w1 (m.testBit q = false ∧ mv_cnc a q m) (mv_OO a (m ||| 2 ^ q))
theorem mv_rmc_ad {a : mv_a} {m q : Nat} (h1 : a 3 q ≠ -1) (h2 : m.testBit q = false) : ∀ p, mv_rmc a (m ||| 2 ^ q) p + (if q < p then 1 else 0) = mv_rmc a m p
  | 0 => rfl
  | p + 1 => by
    have ih := mv_rmc_ad h1 h2 p
    unfold mv_rmc
    rw [mv_ad_tb]
    by_cases e : q = p
    · subst e
      rw [if_neg (Nat.lt_irrefl q)] at ih
      rw [decide_eq_true rfl, Bool.or_true, if_neg (fun h => by cases h.2), if_pos (by omega), if_pos ⟨h1, h2⟩]
      omega
    · rw [decide_eq_false e, Bool.or_false]
      by_cases c : q < p
      · rw [if_pos c] at ih
        rw [if_pos (show q < p + 1 by omega)]
        omega
      · rw [if_neg c] at ih
        rw [if_neg (show ¬ q < p + 1 by omega)]
        omega
theorem mv_rmc_0 {a : mv_a} {m : Nat} : ∀ p, mv_rmc a m p = 0 ↔ ∀ q, q < p → a 3 q ≠ -1 → m.testBit q = true
  | 0 => ⟨fun _ q h => absurd h (Nat.not_lt_zero q), fun _ => rfl⟩
  | p + 1 => by
    have ih := mv_rmc_0 (a := a) (m := m) p
    unfold mv_rmc
    constructor
    · intro h q hq hs
      by_cases e : q = p
      · subst e
        cases hb : m.testBit q with
        | true => rfl
        | false => rw [if_pos ⟨hs, hb⟩] at h; omega
      · exact ih.mp (by omega) q (by omega) hs
    · intro h
      rw [if_neg (fun h2 => by rw [h p (by omega) h2.1] at h2; cases h2.2), ih.mpr (fun q hq hs => h q (by omega) hs)]
theorem mv_OO_0 {a : mv_a} {m : Nat} (h : mv_rmc a m (mv_P a) = 0) : mv_OO a m = 1 := by
  unfold mv_OO
  rw [h]
  rfl
theorem mv_OO_s {a : mv_a} {m : Nat} (h : mv_rmc a m (mv_P a) ≠ 0) : mv_OO a m = mv_sm (mv_Ot a m) (mv_P a) 0 := by
  obtain ⟨d, hd⟩ : ∃ d, mv_rmc a m (mv_P a) = d + 1 := ⟨mv_rmc a m (mv_P a) - 1, by omega⟩
  unfold mv_OO
  rw [hd]
  show mv_sm _ (mv_P a) 0 = _
  refine mv_sm_cg _ _ (fun q h1 h2 => ?_)
  unfold mv_Ot
  by_cases c : a 3 q = -1
  · rw [if_pos c, if_pos c]
  · rw [if_neg c, if_neg c]
    by_cases c2 : m.testBit q = false ∧ mv_cnc a q m
    · rw [mv_w1_t c2, mv_w1_t c2]
      have e := mv_rmc_ad (a := a) (m := m) (q := q) c c2.1 (mv_P a)
      rw [if_pos (by omega)] at e
      unfold mv_OO
      rw [show mv_rmc a (m ||| 2 ^ q) (mv_P a) = d by omega]
    · rw [mv_w1_f c2, mv_w1_f c2]
/-- all who sit are there: none comes next -/
theorem mv_Ot_0 {a : mv_a} {m : Nat} (h : mv_rmc a m (mv_P a) = 0) {q : Nat} (hq : q < mv_P a) : mv_Ot a m q = 0 := by
  unfold mv_Ot
  by_cases c : a 3 q = -1
  · rw [if_pos c]
  · rw [if_neg c]
    refine mv_w1_f (fun h2 => ?_)
    rw [(mv_rmc_0 (mv_P a)).mp h q hq c] at h2
    cases h2.1
def mv_fc : Nat → Int
  | 0 => 1
  | d + 1 => mv_fc d * ((d + 1 : Nat) : Int)
theorem mv_fc_b : ∀ d : Nat, d ≤ 8 → mv_fc d ≤ 40320 := by decide
theorem mv_rmc_sm {a : mv_a} {m : Nat} : ∀ p, mv_sm (fun q => if a 3 q ≠ -1 ∧ m.testBit q = false then (1 : Int) else 0) p 0 = (mv_rmc a m p : Int)
  | 0 => rfl
  | p + 1 => by
    rw [mv_sm_s, mv_rmc_sm p, Nat.zero_add]
    have e : mv_rmc a m (p + 1) = (if a 3 p ≠ -1 ∧ m.testBit p = false then 1 else 0) + mv_rmc a m p := rfl
    rw [e]
    by_cases c : a 3 p ≠ -1 ∧ m.testBit p = false
    · rw [if_pos c, if_pos c]; omega
    · rw [if_neg c, if_neg c]; omega
theorem mv_OO_fc {a : mv_a} : ∀ (d m : Nat), mv_rmc a m (mv_P a) = d → 0 ≤ mv_OO a m ∧ mv_OO a m ≤ mv_fc d := by
  intro d
  induction d with
  | zero =>
    intro m hm
    rw [mv_OO_0 hm]
    exact ⟨by omega, Int.le_refl _⟩
  | succ d ih =>
    intro m hm
    rw [mv_OO_s (by omega)]
    have h := mv_sm_le (N := fun q => if a 3 q ≠ -1 ∧ m.testBit q = false then (1 : Int) else 0) (S := mv_Ot a m) (B := mv_fc d) (mv_P a) 0 (fun q h1 h2 => by
      unfold mv_Ot
      by_cases c : a 3 q = -1
      · rw [if_pos c]
        exact Or.inl ⟨if_neg (fun h => h.1 c), rfl⟩
      · rw [if_neg c]
        by_cases c2 : m.testBit q = false
        · refine Or.inr ⟨if_pos ⟨c, c2⟩, ?_⟩
          have e := mv_rmc_ad (a := a) (m := m) (q := q) c c2 (mv_P a)
          rw [if_pos (by omega)] at e
          exact mv_w1_b (ih (m ||| 2 ^ q) (by omega))
        · exact Or.inl ⟨if_neg (fun h => c2 h.2), mv_w1_f (fun h => c2 h.1)⟩)
    rw [mv_rmc_sm, hm] at h
    exact ⟨h.2.1, h.2.2⟩
theorem mv_OO_b {a : mv_a} {m : Nat} (h : mv_rmc a m (mv_P a) ≤ 8) : 0 ≤ mv_OO a m ∧ mv_OO a m ≤ 40320 := by
  have h1 := mv_OO_fc (a := a) _ m rfl
  have h2 := mv_fc_b _ h
  omega
theorem mv_rmc_le {a : mv_a} {m : Nat} : ∀ p, mv_rmc a m p ≤ mv_rmc a 0 p
  | 0 => Nat.le_refl _
  | p + 1 => by
    have ih := mv_rmc_le (a := a) (m := m) p
    unfold mv_rmc
    by_cases c : a 3 p ≠ -1
    · rw [if_pos (show a 3 p ≠ -1 ∧ (0 : Nat).testBit p = false from ⟨c, Nat.zero_testBit p⟩)]
      split <;> omega
    · rw [if_neg (fun h => c h.1), if_neg (fun h => c h.1)]
      omega
theorem mv_rmc_wh {a : mv_a} : ∀ p, mv_rmc a 0 p = (mv_wh a p).1
  | 0 => rfl
  | p + 1 => by
    have ih := mv_rmc_wh (a := a) p
    unfold mv_rmc mv_wh
    by_cases c : a 3 p = -1
    · rw [if_neg (fun h => h.1 c), if_pos c, ih, Nat.zero_add]
    · rw [if_pos ⟨c, Nat.zero_testBit p⟩, if_neg c, ih, Nat.add_comm]
/-- how many ones -/
def mv_pcr (m : Nat) : Nat → Nat
  | 0 => 0
  | q + 1 => (if m.testBit q = true then 1 else 0) + mv_pcr m q
theorem mv_pc_dec : ∀ m : Nat, m < 1024 → 0 < m → mv_and (m : Int) (mv_w ((m : Int) - 1)) = ((m &&& (m - 1) : Nat) : Int) ∧ m &&& (m - 1) < m ∧ mv_pcr m 10 = mv_pcr (m &&& (m - 1)) 10 + 1 := by decide +kernel
theorem mv_pcr_cg {m n : Nat} : ∀ d, (∀ q, q < d → m.testBit q = n.testBit q) → mv_pcr m d = mv_pcr n d
  | 0, _ => rfl
  | d + 1, h => by
    unfold mv_pcr
    rw [h d (by omega), mv_pcr_cg d (fun q hq => h q (by omega))]
theorem mv_pcr_sit {a : mv_a} : ∀ p, mv_pcr (mv_sit a p) p = (mv_wh a p).1
  | 0 => rfl
  | p + 1 => by
    have ih := mv_pcr_sit (a := a) p
    have cg : mv_pcr (mv_sit a (p + 1)) p = mv_pcr (mv_sit a p) p := mv_pcr_cg p (fun q hq => by
      have h1 := mv_sit_tb (a := a) (q := q) p
      have h2 := mv_sit_tb (a := a) (q := q) (p + 1)
      cases hb1 : (mv_sit a p).testBit q with
      | true => exact h2.mpr ⟨by omega, (h1.mp hb1).2⟩
      | false =>
        cases hb2 : (mv_sit a (p + 1)).testBit q with
        | true => rw [h1.mpr ⟨hq, (h2.mp hb2).2⟩] at hb1; cases hb1
        | false => rfl)
    have hp := mv_sit_tb (a := a) (q := p) (p + 1)
    conv => lhs; unfold mv_pcr
    conv => rhs; unfold mv_wh
    rw [cg, ih]
    by_cases c : a 3 p = -1
    · rw [if_neg (fun h => (hp.mp h).2 c), if_pos c, Nat.zero_add]
    · rw [if_pos (hp.mpr ⟨by omega, c⟩), if_neg c, Nat.add_comm]
theorem mv_pcr_hi {m d : Nat} (h : m < 2 ^ d) : ∀ e, mv_pcr m (d + e) = mv_pcr m d
  | 0 => rfl
  | e + 1 => by
    show (if m.testBit (d + e) = true then 1 else 0) + mv_pcr m (d + e) = _
    rw [mv_tb_hi h (Nat.le_add_right d e), if_neg (by decide), mv_pcr_hi h e, Nat.zero_add]
section MO2
variable {G : mv_G} {a : mv_a}
theorem mv_P_le (hi : mv_iB a) : mv_P a ≤ 10 ∧ ((mv_P a : Nat) : Int) = a 0 1 := by
  have b1 := hi.1
  unfold mv_P
  omega
theorem mv_sit_1024 (hi : mv_iB a) : mv_sit a (mv_P a) < 1024 := by
  have h := mv_sit_lt (a := a) (mv_P a)
  have h2 : (2 : Nat) ^ mv_P a ≤ 2 ^ 10 := Nat.pow_le_pow_right (by decide) (mv_P_le hi).1
  omega
theorem gx_sittingSet (hB : mv_mB G a) (hi : mv_iB a) : ff_X12_sittingSet [.inr (100, 0)] G = some (((mv_sit a (mv_P a) : Nat) : Int), G) := by
  obtain ⟨hP, hPe⟩ := mv_P_le hi
  have key : ∀ q p : Nat, p + q = mv_P a → mv_JP mm_X12_sittingSet (fun v G' => v = ((mv_sit a (mv_P a) : Nat) : Int) ∧ G' = G) 4 [some (.inr (100, 0)), some (.inl ((mv_sit a p : Nat) : Int)), some (.inl (p : Int))] G := by
    intro q
    induction q with
    | zero =>
      intro p hq
      refine mv_JP.of (rg_X12_sittingSet_4 _ _ G) ?_
      rw [hB.1.2.1]
      exact mv_J.f (by omega) (mv_J.ret ⟨by rw [show mv_P a = p by omega], rfl⟩)
    | succ q ih =>
      intro p hq
      have hs : mv_sit a p < 1024 := by
        have h := mv_sit_lt (a := a) p
        have h2 : (2 : Nat) ^ p ≤ 2 ^ 10 := Nat.pow_le_pow_right (by decide) (by omega)
        omega
      have nx := ih (p + 1) (by omega)
      have est : mv_sit a (p + 1) = if a 3 p = -1 then mv_sit a p else mv_sit a p ||| 2 ^ p := rfl
      rw [est] at nx
      refine mv_JP.of (rg_X12_sittingSet_4 _ _ G) ?_
      rw [hB.1.2.1, mv_ad_n hs (by omega), mv_ws (x := (p : Int) + 1) (by omega)]
      refine mv_J.t (by omega) (mv_J.ce (gx_sits hB hi p (by omega)) (mv_J.bt (fun h => mv_J.cut ?_) (fun h => mv_J.cut ?_)))
      · rw [if_pos (Classical.byContradiction h)] at nx; exact nx
      · rw [if_neg h] at nx; exact nx
  exact mv_Kp.eq (mv_Kp.of (mv_JP.of (rg_X12_sittingSet_0 G) (mv_J.cut (key (mv_P a) 0 (by omega)))))
theorem gx_onesOf (G : mv_G) (m : Nat) (hm : m < 1024) : ff_X12_onesOf [.inr (100, 0), .inl m] G = some (((mv_pcr m 10 : Nat) : Int), G) := by
  have key : ∀ (d m n : Nat), m ≤ d → m < 1024 → n + mv_pcr m 10 ≤ 10 → mv_JP mm_X12_onesOf (fun v G' => v = ((n + mv_pcr m 10 : Nat) : Int) ∧ G' = G) 4 [none, none, some (.inl (n : Int)), some (.inl (m : Int))] G := by
    intro d
    induction d with
    | zero =>
      intro m n h1 h2 h3
      have e : m = 0 := by omega
      subst e
      exact mv_JP.of (rg_X12_onesOf_4 _ _ G) (mv_J.t rfl (mv_J.ret ⟨rfl, rfl⟩))
    | succ d ih =>
      intro m n h1 h2 h3
      by_cases e : m = 0
      · subst e
        exact mv_JP.of (rg_X12_onesOf_4 _ _ G) (mv_J.t rfl (mv_J.ret ⟨rfl, rfl⟩))
      · obtain ⟨d1, d2, d3⟩ := mv_pc_dec m h2 (by omega)
        refine mv_JP.of (rg_X12_onesOf_4 _ _ G) (mv_J.f (by omega) (mv_J.cut ?_))
        rw [d1]
        clear d1
        rw [mv_ws (x := (n : Int) + 1) (by omega)]
        have := ih (m &&& (m - 1)) (n + 1) (by omega) (by omega) (by omega)
        rw [show n + 1 + mv_pcr (m &&& (m - 1)) 10 = n + mv_pcr m 10 by omega] at this
        exact this
  have hb : ∀ d, mv_pcr m d ≤ d := fun d => by
    induction d with
    | zero => exact Nat.le_refl _
    | succ d ih =>
      unfold mv_pcr
      split <;> omega
  have := key m m 0 (Nat.le_refl _) hm (by have := hb 10; omega)
  rw [Nat.zero_add] at this
  exact mv_Kp.eq (mv_Kp.of (mv_JP.of (rg_X12_onesOf_0 m G) (mv_J.cut this)))
theorem gx_howMany (hi : mv_iB a) : mv_pcr (mv_sit a (mv_P a)) 10 = (mv_wh a (mv_P a)).1 := by
  have h := mv_pcr_hi (mv_sit_lt (a := a) (mv_P a)) (10 - mv_P a)
  rw [show mv_P a + (10 - mv_P a) = 10 by have := mv_P_le hi; omega] at h
  rw [h, mv_pcr_sit]
theorem gx_canCome (hB : mv_mB G a) (hi : mv_iB a) (hL : mv_mL G 0 a 17) (hLi : mv_iL mv_qs a 17) (p m : Nat) (hp : p < mv_P a) : mv_Kp (ff_X12_canCome [.inr (100, 0), .inl p, .inl m] G) (fun v G' => v = mv_b (mv_cnc a p m) ∧ mv_ch [121, 122, 123, 124, 125, 126, 127] [(100, 46), (100, 47), (100, 48), (100, 49), (100, 50)] G G') := by
  obtain ⟨hP, hPe⟩ := mv_P_le hi
  refine mv_Kp.of (mv_JP.of (rg_X12_canCome_0 p m G) (mv_J.cn (gx_lists hB hi m) (fun v G1 h1 => ?_)))
  have hR1 : mv_mR G1 (mv_gtm a m).1 (mv_gtm a m).2 := h1.1
  have hB1 := hB.ch h1.2 (by decide) rfl rfl
  refine mv_J.cn (gx_asksFor hB1 p (by omega)) (fun v G2 h2 => ?_)
  have hB2 := hB1.ch h2.2 (by decide) rfl rfl
  have hok : mv_rok (a 0 0) (mv_gtm a m).1 (mv_gtm a m).2 := mv_gat_ok hi _ (by omega)
  have hL2 := (hL.ch h1.2 (by decide)).ch h2.2 (by decide)
  refine mv_J.cn (gx_bestInch hB2 hi (hR1.ch h2.2 (by decide) rfl) h2.1 hok (mv_ask_ok hi p (by omega)) hL2 hLi) (fun v G3 h3 => ?_)
  obtain ⟨h3, c3⟩ := h3
  subst h3
  have hc : mv_ch [121, 122, 123, 124, 125, 126, 127] [(100, 46), (100, 47), (100, 48), (100, 49), (100, 50)] G G3 := ((h1.2.mono rfl rfl).tr (h2.2.mono rfl rfl)).tr (c3.mono rfl rfl)
  exact mv_J.ce (gx_inchOf (hB2.ch c3 (by decide) rfl rfl) hi p (by omega)) (mv_J.i (fun h => mv_J.r0 (Or.inr rfl) ⟨(mv_b1 h).symm, hc⟩) (fun h => mv_J.r0 (Or.inl rfl) ⟨(mv_b0 h).symm, hc⟩))
end MO2
