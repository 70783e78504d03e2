/-! ORDERS, the reference. -/
/-- who can come next, and leads to an order -/
def mv_gd (a : mv_a) (m q : Nat) : Prop := a 3 q ≠ -1 ∧ m.testBit q = false ∧ mv_OO a (m ||| 2 ^ q) ≠ 0 ∧ mv_cnc a q m
/-- the first of them, from i on -/
noncomputable def mv_nx1 (a : mv_a) (m : Nat) : Nat → Nat → Nat
  | 0, i => i
  | k + 1, i => @ite _ (mv_gd a m i) (Classical.propDecidable _) i (mv_nx1 a m k (i + 1))
noncomputable def mv_nx2 (a : mv_a) (m : Nat) : Nat := mv_nx1 a m (mv_P a) 0
theorem mv_nx1_sp {a : mv_a} {m : Nat} : ∀ k i, (∃ q, i ≤ q ∧ q < i + k ∧ mv_gd a m q) → i ≤ mv_nx1 a m k i ∧ mv_nx1 a m k i < i + k ∧ mv_gd a m (mv_nx1 a m k i) ∧ ∀ q, i ≤ q → q < mv_nx1 a m k i → ¬ mv_gd a m q
  | 0, i, ⟨q, h1, h2, _⟩ => by omega
  | k + 1, i, ⟨q, h1, h2, h3⟩ => by
    unfold mv_nx1
    by_cases c : mv_gd a m i
    · rw [if_pos c]
      exact ⟨Nat.le_refl _, by omega, c, fun q h4 h5 => by omega⟩
    · rw [if_neg c]
      have hne : q ≠ i := fun e => c (e ▸ h3)
      obtain ⟨g1, g2, g3, g4⟩ := mv_nx1_sp (a := a) (m := m) k (i + 1) ⟨q, by omega, by omega, h3⟩
      refine ⟨by omega, by omega, g3, fun q h4 h5 => ?_⟩
      by_cases e : q = i
      · rw [e]; exact c
      · exact g4 q (by omega) h5
/-- the first so many of the first order -/
noncomputable def mv_seq (a : mv_a) : Nat → Nat
  | 0 => 0
  | i + 1 => mv_seq a i ||| 2 ^ mv_nx2 a (mv_seq a i)
noncomputable def mv_ord (a : mv_a) (what : Int) : Int := if (mv_wh a (mv_P a)).1 ≤ 8 ∧ (what = 0 ∨ 10 ≤ what ∧ what ≤ 9 + ((mv_wh a (mv_P a)).1 : Int)) then (if what = 0 then mv_OO a 0 else if mv_OO a 0 = 0 then -1 else ((mv_nx2 a (mv_seq a (what - 10).toNat) : Nat) : Int)) else -1
/-- who is in a set, sits -/
def mv_sbs (a : mv_a) (m : Nat) : Prop := ∀ q, q < 10 → m.testBit q = true → q < mv_P a ∧ a 3 q ≠ -1
theorem mv_sbs_ad {a : mv_a} {m q : Nat} (h : mv_sbs a m) (hq : q < mv_P a) (hs : a 3 q ≠ -1) : mv_sbs a (m ||| 2 ^ q) := fun r hr hb => by
  rw [mv_ad_tb] at hb
  by_cases e : q = r
  · exact e ▸ ⟨hq, hs⟩
  · rw [decide_eq_false e, Bool.or_false] at hb
    exact h r hr hb
/-- if there is an order, there is one who comes next -/
theorem mv_gd_ex {a : mv_a} {m : Nat} (h8 : mv_rmc a m (mv_P a) ≤ 8) (hr : mv_rmc a m (mv_P a) ≠ 0) (h : mv_OO a m ≠ 0) : ∃ q, q < mv_P a ∧ mv_gd a m q := by
  refine Classical.byContradiction fun hn => h ?_
  rw [mv_OO_s hr]
  have : mv_sm (mv_Ot a m) (mv_P a) 0 = mv_sm (fun _ => 0) (mv_P a) 0 := mv_sm_cg _ _ (fun q h1 h2 => by
    unfold mv_Ot
    by_cases c : a 3 q = -1
    · rw [if_pos c]
    · rw [if_neg c]
      by_cases c2 : m.testBit q = false ∧ mv_cnc a q m
      · rw [mv_w1_t c2]
        exact Classical.byContradiction fun h3 => hn ⟨q, by omega, c, c2.1, h3, c2.2⟩
      · exact mv_w1_f c2)
  rw [this]
  have z : ∀ q y, mv_sm (fun _ => 0) q y = 0 := fun q => by
    induction q with
    | zero => intro y; rfl
    | succ q ih => intro y; show 0 + mv_sm (fun _ => 0) q (y + 1) = 0; rw [ih]; rfl
  exact z _ _
section MQ
variable {G : mv_G} {a : mv_a}
/-- the reference's table, from a set on -/
def mv_mO (G : mv_G) (a : mv_a) (n : Nat) : Prop := ∀ m : Nat, m < 1024 → n ≤ m → mv_sbs a m → G 136 0 m = mv_OO a m
theorem mv_sit_max (hi : mv_iB a) {m : Nat} (hm : m < 1024) (h : mv_sbs a m) : m ≤ mv_sit a (mv_P a) := by
  have e : m &&& mv_sit a (mv_P a) = m := by
    refine Nat.eq_of_testBit_eq (fun i => ?_)
    rw [Nat.testBit_and]
    by_cases c : i < 10
    · cases hb : m.testBit i with
      | false => rfl
      | true => rw [(mv_sit_tb (a := a) (q := i) (mv_P a)).mpr (h i c hb)]; rfl
    · rw [mv_tb_hi (d := 10) hm (by omega)]; rfl
  have : m &&& mv_sit a (mv_P a) ≤ mv_sit a (mv_P a) := Nat.and_le_right
  omega
theorem mv_sit_eq (hi : mv_iB a) {m : Nat} (hm : m < 1024) (h : mv_sbs a m) : m = mv_sit a (mv_P a) ↔ mv_rmc a m (mv_P a) = 0 := by
  rw [mv_rmc_0]
  constructor
  · intro e q h1 h2
    rw [e]
    exact (mv_sit_tb (mv_P a)).mpr ⟨h1, h2⟩
  · intro h2
    refine Nat.eq_of_testBit_eq (fun i => ?_)
    by_cases c : i < 10
    · cases hb : m.testBit i with
      | true => exact ((mv_sit_tb (a := a) (q := i) (mv_P a)).mpr (h i c hb)).symm
      | false =>
        cases hb2 : (mv_sit a (mv_P a)).testBit i with
        | false => rfl
        | true =>
          have := (mv_sit_tb (a := a) (q := i) (mv_P a)).mp hb2
          rw [h2 i this.1 this.2] at hb
          cases hb
    · rw [mv_tb_hi (d := 10) hm (by omega), mv_tb_hi (d := 10) (mv_sit_1024 hi) (by omega)]
set_option maxHeartbeats 2000000 in
set_option maxRecDepth 100000 in
theorem gx_findsOrders (hB : mv_mB G a) (hi : mv_iB a) (hL : mv_mL G 0 a 17) (hLi : mv_iL mv_qs a 17) (h66 : G 100 0 66 = ((mv_sit a (mv_P a) : Nat) : Int)) (h8 : (mv_wh a (mv_P a)).1 ≤ 8) : mv_Kp (ff_X12_findsOrders [.inr (100, 0)] G) (fun _ G' => mv_mO G' a 0 ∧ mv_ch [121, 122, 123, 124, 125, 126, 127, 136] [(100, 46), (100, 47), (100, 48), (100, 49), (100, 50)] G G') := by
  obtain ⟨hP, hPe⟩ := mv_P_le hi
  have hS := mv_sit_1024 hi
  have r8 : ∀ m, mv_rmc a m (mv_P a) ≤ 8 := fun m => by
    have h1 := mv_rmc_le (a := a) (m := m) (mv_P a)
    have h2 := mv_rmc_wh (a := a) (mv_P a)
    omega
  obtain ⟨P, hPP⟩ : ∃ P : Int → mv_G → Prop, P = (fun _ G' => mv_mO G' a 0 ∧ mv_ch [121, 122, 123, 124, 125, 126, 127, 136] [(100, 46), (100, 47), (100, 48), (100, 49), (100, 50)] G G') := ⟨_, rfl⟩
  rw [← hPP]
  have key : ∀ (n : Nat) (G1 : mv_G), n ≤ mv_sit a (mv_P a) + 1 → mv_ch [121, 122, 123, 124, 125, 126, 127, 136] [(100, 46), (100, 47), (100, 48), (100, 49), (100, 50)] G G1 → mv_mO G1 a n → mv_JP mm_X12_findsOrders P 5 [some (.inr (100, 0)), some (.inl ((n : Int) - 1)), none] G1 := by
    intro n
    induction n with
    | zero =>
      intro G1 hn hc ht
      refine mv_JP.of (rg_X12_findsOrders_5 _ G1) (mv_J.t (by omega) (mv_J.ret ?_))
      rw [hPP]
      exact ⟨ht, hc⟩
    | succ m ih =>
      intro G1 hn hc ht
      have hm : m < 1024 := by omega
      have h661 : G1 100 0 66 = ((mv_sit a (mv_P a) : Nat) : Int) := by rw [hc.slot 100 66 rfl]; exact h66
      rw [show ((m + 1 : Nat) : Int) - 1 = (m : Int) by omega]
      refine mv_JP.of (rg_X12_findsOrders_5 _ G1) (mv_J.f (by omega) ?_)
      rw [h661, Int.toNat_natCast, mv_ws (x := (m : Int) + -1) (by omega), show (m : Int) + -1 = (m : Int) - 1 by omega]
      refine mv_J.i (fun h1 => ?_) (fun h1 => mv_J.cut (ih G1 (by omega) hc (fun x h2 h3 h4 => ?_)))
      · rw [mv_wo_0 hm hS] at h1
        have hsb : mv_sbs a m := fun q hq hb => (mv_sit_tb (mv_P a)).mp (h1 q hq hb)
        have inner : ∀ (k p : Nat) (G2 : mv_G), p + k = mv_P a → mv_ch [121, 122, 123, 124, 125, 126, 127, 136] [(100, 46), (100, 47), (100, 48), (100, 49), (100, 50)] G G2 → mv_mO G2 a (m + 1) → G2 136 0 m = (if mv_rmc a m (mv_P a) = 0 then 1 else 0) + mv_sm (mv_Ot a m) p 0 → mv_JP mm_X12_findsOrders P 44 [some (.inr (100, 0)), some (.inl (m : Int)), some (.inl (p : Int))] G2 := by
          intro k
          induction k with
          | zero =>
            intro p G2 hk hc2 ht2 he
            have hB2 := hB.ch hc2 (by decide) rfl rfl
            refine mv_JP.of (rg_X12_findsOrders_44 _ _ G2) ?_
            rw [hB2.1.2.1, mv_ws (x := (m : Int) + -1) (by omega), show (m : Int) + -1 = (m : Int) - 1 by omega]
            refine mv_J.f (by omega) (mv_J.cut (ih G2 (by omega) hc2 (fun x h2 h3 h4 => ?_)))
            by_cases e : x = m
            · subst e
              rw [he]
              by_cases c : mv_rmc a x (mv_P a) = 0
              · have : mv_sm (mv_Ot a x) p 0 = mv_sm (fun _ => 0) p 0 := mv_sm_cg _ _ (fun q h5 h6 => mv_Ot_0 c (by omega))
                have z : ∀ q y, mv_sm (fun _ => 0) q y = 0 := fun q => by
                  induction q with
                  | zero => intro y; rfl
                  | succ q ih => intro y; show 0 + mv_sm (fun _ => 0) q (y + 1) = 0; rw [ih]; rfl
                rw [if_pos c, this, z, mv_OO_0 c]
                rfl
              · rw [if_neg c, mv_OO_s c, show mv_P a = p by omega]
                omega
            · exact ht2 x h2 (by omega) h4
          | succ k ihk =>
            intro p G2 hk hc2 ht2 he
            have hB2 := hB.ch hc2 (by decide) rfl rfl
            have hL2 := hL.ch hc2 (by decide)
            have h662 : G2 100 0 66 = ((mv_sit a (mv_P a) : Nat) : Int) := by rw [hc2.slot 100 66 rfl]; exact h66
            have hp10 : p < 10 := by omega
            have hmp : m ||| 2 ^ p < 1024 := mv_ad_lt (d := 10) hm hp10
            have es := mv_sm_s (g := mv_Ot a m) p 0
            rw [Nat.zero_add] at es
            have nx : ∀ G3, mv_ch [121, 122, 123, 124, 125, 126, 127, 136] [(100, 46), (100, 47), (100, 48), (100, 49), (100, 50)] G G3 → mv_mO G3 a (m + 1) → G3 136 0 m = (if mv_rmc a m (mv_P a) = 0 then 1 else 0) + (mv_sm (mv_Ot a m) p 0 + mv_Ot a m p) → mv_JP mm_X12_findsOrders P 44 [some (.inr (100, 0)), some (.inl (m : Int)), some (.inl ((p : Int) + 1))] G3 := fun G3 h2 h3 h4 => by
              have := ihk (p + 1) G3 (by omega) h2 h3 (by rw [es]; exact h4)
              exact this
            refine mv_JP.of (rg_X12_findsOrders_44 _ _ G2) ?_
            rw [hB2.1.2.1, h662, mv_in_wo hS hm hp10, mv_ad_n hm hp10, mv_ws (x := (p : Int) + 1) (by omega), Int.toNat_natCast, Int.toNat_natCast]
            refine mv_J.t (by omega) (mv_J.i (fun h2 => ?_) (fun h2 => mv_J.cut (nx G2 hc2 ht2 ?_)))
            · have h2 : (mv_sit a (mv_P a)).testBit p = true ∧ m.testBit p = false := Classical.byContradiction fun h3 => by
                rw [if_neg h3] at h2; cases h2
              have hs := (mv_sit_tb (mv_P a)).mp h2.1
              have hgt := mv_ad_gt h2.2
              have hrm : mv_rmc a m (mv_P a) ≠ 0 := fun h3 => by
                rw [(mv_rmc_0 (mv_P a)).mp h3 p hs.1 hs.2] at h2
                cases h2.2
              have e136 := ht2 (m ||| 2 ^ p) hmp (by omega) (mv_sbs_ad hsb hs.1 hs.2)
              have bO := mv_OO_b (a := a) (m := m ||| 2 ^ p) (r8 _)
              rw [mv_ckp (n := 1024) (by omega), e136]
              refine mv_J.i (fun h3 => mv_J.cn (gx_canCome hB2 hi hL2 hLi p m (by omega)) (fun v G3 h4 => ?_)) (fun h3 => mv_J.cut (nx G2 hc2 ht2 ?_))
              · obtain ⟨h4, c3⟩ := h4
                subst h4
                have hc3 : mv_ch [121, 122, 123, 124, 125, 126, 127, 136] [(100, 46), (100, 47), (100, 48), (100, 49), (100, 50)] G G3 := hc2.tr (c3.mono rfl rfl)
                have ht3 : mv_mO G3 a (m + 1) := fun x h5 h6 h7 => by rw [c3.cell 136 rfl]; exact ht2 x h5 h6 h7
                have he3 : G3 136 0 m = (if mv_rmc a m (mv_P a) = 0 then 1 else 0) + mv_sm (mv_Ot a m) p 0 := by rw [c3.cell 136 rfl]; exact he
                refine mv_J.bt (fun h5 => mv_J.cut (nx G3 hc3 ht3 ?_)) (fun h5 => ?_)
                · have : mv_Ot a m p = 0 := by
                    unfold mv_Ot
                    rw [if_neg hs.2]
                    exact mv_w1_f (fun h6 => h5 h6.2)
                  rw [he3, this, Int.add_zero]
                · have eo : mv_Ot a m p = mv_OO a (m ||| 2 ^ p) := by
                    unfold mv_Ot
                    rw [if_neg hs.2]
                    exact mv_w1_t ⟨h2.2, h5⟩
                  have bs := mv_sm_b (g := mv_Ot a m) (B := 40320) p 0 (fun q _ _ => by
                    unfold mv_Ot
                    by_cases c : a 3 q = -1
                    · rw [if_pos c]; omega
                    · rw [if_neg c]; exact mv_w1_b (mv_OO_b (r8 _)))
                  have e1363 := ht3 (m ||| 2 ^ p) hmp (by omega) (mv_sbs_ad hsb hs.1 hs.2)
                  rw [mv_ckp (n := 1024) (by omega), mv_ckp (n := 1024) (by omega), mv_ckp (n := 1024) (by omega), e1363, he3, if_neg hrm, mv_ws (by omega)]
                  refine mv_J.cut (nx _ (hc3.uc rfl) (fun x h6 h7 h8 => ?_) ?_)
                  · rw [mv_up_j (by omega)]
                    exact ht3 x h6 h7 h8
                  · rw [mv_ups_eq, if_neg hrm, eo]
                    omega
              · have eo : mv_Ot a m p = 0 := by
                  unfold mv_Ot
                  rw [if_neg hs.2]
                  by_cases c : m.testBit p = false ∧ mv_cnc a p m
                  · rw [mv_w1_t c]; omega
                  · exact mv_w1_f c
                rw [he, eo, Int.add_zero]
            · have h2 : ¬ ((mv_sit a (mv_P a)).testBit p = true ∧ m.testBit p = false) := fun h3 => h2 (if_pos h3)
              have eo : mv_Ot a m p = 0 := by
                unfold mv_Ot
                by_cases c : a 3 p = -1
                · rw [if_pos c]
                · rw [if_neg c]
                  exact mv_w1_f (fun h3 => h2 ⟨(mv_sit_tb (mv_P a)).mpr ⟨by omega, c⟩, h3.1⟩)
              rw [he, eo, Int.add_zero]
        have z0 : mv_sm (mv_Ot a m) 0 0 = 0 := rfl
        have start : ∀ v : Int, v = (if mv_rmc a m (mv_P a) = 0 then 1 else 0) → mv_JP mm_X12_findsOrders P 44 [some (.inr (100, 0)), some (.inl (m : Int)), some (.inl 0)] (mv_up G1 136 0 m v) := fun v hv => by
          have := inner (mv_P a) 0 (mv_up G1 136 0 m v) (by omega) (hc.uc rfl) (fun x h2 h3 h4 => by
            rw [mv_up_j (by omega)]
            exact ht x h2 h3 h4) (by rw [mv_ups_eq, hv, z0, Int.add_zero])
          exact this
        have hse := mv_sit_eq hi hm hsb
        rw [mv_ckp (n := 1024) (by omega), mv_ckp (n := 1024) (by omega)]
        refine mv_J.i (fun h2 => mv_J.cut (start 1 ?_)) (fun h2 => mv_J.cut (start 0 ?_))
        · rw [if_pos (hse.mp (by omega))]
        · rw [if_neg (fun h3 => h2 (by have := hse.mpr h3; omega))]
      · by_cases e : x = m
        · exfalso
          rw [mv_wo_0 hm hS] at h1
          refine h1 (fun q hq hb => ?_)
          rw [← e] at hb
          exact (mv_sit_tb (mv_P a)).mpr (h4 q hq hb)
        · exact ht x h2 (by omega) h4
  refine mv_Kp.of (mv_JP.of (rg_X12_findsOrders_0 G) (mv_J.cut ?_))
  rw [h66]
  have := key (mv_sit a (mv_P a) + 1) G (Nat.le_refl _) mv_ch.rf (fun m h1 h2 h3 => by
    have := mv_sit_max hi h1 h3
    omega)
  rw [show ((mv_sit a (mv_P a) + 1 : Nat) : Int) - 1 = ((mv_sit a (mv_P a) : Nat) : Int) by omega] at this
  exact this
set_option maxRecDepth 100000 in
theorem gx_nextOf (hB : mv_mB G a) (hi : mv_iB a) (hL : mv_mL G 0 a 17) (hLi : mv_iL mv_qs a 17) (h66 : G 100 0 66 = ((mv_sit a (mv_P a) : Nat) : Int)) (hO : mv_mO G a 0) (m : Nat) (hm : m < 1024) (hsb : mv_sbs a m) (hex : ∃ q, q < mv_P a ∧ mv_gd a m q) : mv_Kp (ff_X12_nextOf [.inr (100, 0), .inl m] G) (fun v G' => v = ((mv_nx2 a m : Nat) : Int) ∧ mv_ch [121, 122, 123, 124, 125, 126, 127] [(100, 46), (100, 47), (100, 48), (100, 49), (100, 50)] G G') := by
  obtain ⟨hP, hPe⟩ := mv_P_le hi
  have hS := mv_sit_1024 hi
  obtain ⟨q0, hq0, hg0⟩ := hex
  have key : ∀ (k p : Nat) (G1 : mv_G), p + k = mv_P a → mv_ch [121, 122, 123, 124, 125, 126, 127] [(100, 46), (100, 47), (100, 48), (100, 49), (100, 50)] G G1 → (∃ q, p ≤ q ∧ q < p + k ∧ mv_gd a m q) → mv_JP mm_X12_nextOf (fun v G' => v = ((mv_nx1 a m k p : Nat) : Int) ∧ mv_ch [121, 122, 123, 124, 125, 126, 127] [(100, 46), (100, 47), (100, 48), (100, 49), (100, 50)] G G') 2 [some (.inr (100, 0)), some (.inl (m : Int)), some (.inl (p : Int))] G1 := by
    intro k
    induction k with
    | zero => rintro p G1 hk hc ⟨q, h1, h2, h3⟩; omega
    | succ k ih =>
      rintro p G1 hk hc ⟨q, h1, h2, h3⟩
      have hB1 := hB.ch hc (by decide) rfl rfl
      have hL1 := hL.ch hc (by decide)
      have h661 : G1 100 0 66 = ((mv_sit a (mv_P a) : Nat) : Int) := by rw [hc.slot 100 66 rfl]; exact h66
      have hp10 : p < 10 := by omega
      have hmp : m ||| 2 ^ p < 1024 := mv_ad_lt (d := 10) hm hp10
      have no : ¬ mv_gd a m p → ∀ G2, mv_ch [121, 122, 123, 124, 125, 126, 127] [(100, 46), (100, 47), (100, 48), (100, 49), (100, 50)] G G2 → mv_JP mm_X12_nextOf (fun v G' => v = ((mv_nx1 a m (k + 1) p : Nat) : Int) ∧ mv_ch [121, 122, 123, 124, 125, 126, 127] [(100, 46), (100, 47), (100, 48), (100, 49), (100, 50)] G G') 2 [some (.inr (100, 0)), some (.inl (m : Int)), some (.inl ((p : Int) + 1))] G2 := fun hn G2 hc2 => by
        have hne : q ≠ p := fun e => hn (e ▸ h3)
        have := ih (p + 1) G2 (by omega) hc2 ⟨q, by omega, by omega, h3⟩
        have e : mv_nx1 a m (k + 1) p = mv_nx1 a m k (p + 1) := if_neg hn
        rw [e]
        exact this
      refine mv_JP.of (rg_X12_nextOf_2 _ _ G1) ?_
      rw [h661, mv_in_wo hS hm hp10, mv_ad_n hm hp10, mv_ws (x := (p : Int) + 1) (by omega), Int.toNat_natCast]
      refine mv_J.i (fun h4 => mv_J.cut (no (fun hg => ?_) G1 hc)) (fun h4 => ?_)
      · rw [if_pos ⟨(mv_sit_tb (mv_P a)).mpr ⟨by omega, hg.1⟩, hg.2.1⟩] at h4
        cases h4
      · have h4 : (mv_sit a (mv_P a)).testBit p = true ∧ m.testBit p = false := Classical.byContradiction fun h5 => h4 (if_neg h5)
        have hs := (mv_sit_tb (mv_P a)).mp h4.1
        have e136 : G1 136 0 (m ||| 2 ^ p) = mv_OO a (m ||| 2 ^ p) := by
          rw [hc.cell 136 rfl]
          exact hO (m ||| 2 ^ p) hmp (Nat.zero_le _) (mv_sbs_ad hsb hs.1 hs.2)
        rw [mv_ckp (n := 1024) (by omega), e136]
        refine mv_J.i (fun h5 => mv_J.cut (no (fun hg => hg.2.2.1 h5) G1 hc)) (fun h5 => mv_J.cn (gx_canCome hB1 hi hL1 hLi p m (by omega)) (fun v G2 h6 => ?_))
        obtain ⟨h6, c2⟩ := h6
        subst h6
        have hc2 := hc.tr c2
        refine mv_J.bt (fun h7 => mv_J.cut (no (fun hg => h7 hg.2.2.2) G2 hc2)) (fun h7 => mv_J.ret ⟨?_, hc2⟩)
        have e : mv_nx1 a m (k + 1) p = p := if_pos ⟨hs.2, h4.2, h5, h7⟩
        rw [e]
  exact mv_Kp.of (mv_JP.of (rg_X12_nextOf_0 m G) (mv_J.cut (key (mv_P a) 0 G (by omega) mv_ch.rf ⟨q0, by omega, by omega, hg0⟩)))
/-- the first order goes on as long as some are left -/
theorem mv_seq_sp (hi : mv_iB a) (h8 : (mv_wh a (mv_P a)).1 ≤ 8) (h0 : mv_OO a 0 ≠ 0) : ∀ i, i ≤ (mv_wh a (mv_P a)).1 → mv_seq a i < 1024 ∧ mv_sbs a (mv_seq a i) ∧ mv_OO a (mv_seq a i) ≠ 0 ∧ mv_rmc a (mv_seq a i) (mv_P a) + i = (mv_wh a (mv_P a)).1
  | 0, _ => ⟨(by decide : 0 < 1024), (fun q hq hb => absurd ((Nat.zero_testBit q).symm.trans hb) (by decide)), h0, mv_rmc_wh (mv_P a)⟩
  | i + 1, h => by
    obtain ⟨s1, s2, s3, s4⟩ := mv_seq_sp hi h8 h0 i (by omega)
    obtain ⟨hP, hPe⟩ := mv_P_le hi
    obtain ⟨q, hq, hg⟩ := mv_gd_ex (a := a) (m := mv_seq a i) (by omega) (by omega) s3
    obtain ⟨n1, n2, n3, n4⟩ := mv_nx1_sp (a := a) (m := mv_seq a i) (mv_P a) 0 ⟨q, by omega, by omega, hg⟩
    have n2 : mv_nx2 a (mv_seq a i) < mv_P a := by unfold mv_nx2; omega
    have n3 : mv_gd a (mv_seq a i) (mv_nx2 a (mv_seq a i)) := n3
    show mv_seq a i ||| 2 ^ mv_nx2 a (mv_seq a i) < 1024 ∧ mv_sbs a (mv_seq a i ||| 2 ^ mv_nx2 a (mv_seq a i)) ∧ mv_OO a (mv_seq a i ||| 2 ^ mv_nx2 a (mv_seq a i)) ≠ 0 ∧ mv_rmc a (mv_seq a i ||| 2 ^ mv_nx2 a (mv_seq a i)) (mv_P a) + (i + 1) = _
    have hr := mv_rmc_ad (a := a) (m := mv_seq a i) n3.1 n3.2.1 (mv_P a)
    rw [if_pos n2] at hr
    exact ⟨mv_ad_lt (d := 10) s1 (by omega), mv_sbs_ad s2 n2 n3.1, n3.2.2.1, by omega⟩
set_option maxHeartbeats 1000000 in
set_option maxRecDepth 100000 in
theorem gx_orders (hB : mv_mB G a) (hi : mv_iB a) (hL : mv_mL G 0 a 17) (hLi : mv_iL mv_qs a 17) (what : Int) (hwi : -2147483648 ≤ what ∧ what < 2147483648) : mv_Kp (ff_X12_orders [.inr (100, 0), .inl what] G) (fun v G' => v = mv_ord a what ∧ mv_ch [121, 122, 123, 124, 125, 126, 127, 136] [(100, 0), (100, 46), (100, 47), (100, 48), (100, 49), (100, 50), (100, 66)] G G') := by
  obtain ⟨hP, hPe⟩ := mv_P_le hi
  have hS := mv_sit_1024 hi
  have hn10 := mv_wh_le (a := a) (mv_P a)
  obtain ⟨P, hPP⟩ : ∃ P : Int → mv_G → Prop, P = (fun v G' => v = mv_ord a what ∧ mv_ch [121, 122, 123, 124, 125, 126, 127, 136] [(100, 0), (100, 46), (100, 47), (100, 48), (100, 49), (100, 50), (100, 66)] G G') := ⟨_, rfl⟩
  rw [← hPP]
  have c0 : mv_ch [121, 122, 123, 124, 125, 126, 127, 136] [(100, 0), (100, 46), (100, 47), (100, 48), (100, 49), (100, 50), (100, 66)] G (mv_up G 100 0 0 0) := mv_ch.rf.up rfl
  refine mv_Kp.of (mv_JP.of (rg_X12_orders_0 what G) ?_)
  generalize mv_up G 100 0 0 0 = G0 at c0
  have hB0 := hB.ch c0 (by decide) rfl rfl
  refine mv_J.ce (gx_sittingSet hB0 hi) ?_
  have c1 : mv_ch [121, 122, 123, 124, 125, 126, 127, 136] [(100, 0), (100, 46), (100, 47), (100, 48), (100, 49), (100, 50), (100, 66)] G (mv_up G0 100 0 66 ((mv_sit a (mv_P a) : Nat) : Int)) := c0.up rfl
  have h66 : (mv_up G0 100 0 66 ((mv_sit a (mv_P a) : Nat) : Int)) 100 0 66 = ((mv_sit a (mv_P a) : Nat) : Int) := mv_ups_eq
  generalize mv_up G0 100 0 66 ((mv_sit a (mv_P a) : Nat) : Int) = G1 at c1 h66
  rw [h66]
  have h1 := gx_onesOf G1 _ hS
  rw [gx_howMany hi] at h1
  have hB1 := hB.ch c1 (by decide) rfl rfl
  have hL1 := hL.ch c1 (by decide)
  have dead : ∀ G2, ¬ ((mv_wh a (mv_P a)).1 ≤ 8 ∧ (what = 0 ∨ 10 ≤ what ∧ what ≤ 9 + ((mv_wh a (mv_P a)).1 : Int))) → mv_ch [121, 122, 123, 124, 125, 126, 127, 136] [(100, 0), (100, 46), (100, 47), (100, 48), (100, 49), (100, 50), (100, 66)] G G2 → mv_J mm_X12_orders P (some (.inl (-1, G2))) := fun G2 h2 h3 => by
    refine mv_J.ret ?_
    rw [hPP]
    exact ⟨(if_neg h2).symm, h3⟩
  refine mv_J.ce h1 (mv_J.i (fun h2 => dead _ (fun h => by omega) c1) (fun h2 => ?_))
  have h8 : (mv_wh a (mv_P a)).1 ≤ 8 := by omega
  have tail : (what = 0 ∨ 10 ≤ what ∧ what ≤ 9 + ((mv_wh a (mv_P a)).1 : Int)) → mv_J mm_X12_orders P (mv_cn (ff_X12_findsOrders [.inr (100, 0)] G1) fun r2 G2 => if what = 0 then mv_ck 0 1024 (some (.inl (G2 136 0 0, G2))) else mv_ck 0 1024 (if G2 136 0 0 = 0 then some (.inl (-1, G2)) else some (.inr (82, [some (.inr (100, 0)), some (.inl what), none, some (.inl 0), some (.inl (-1)), some (.inl 0)], G2)))) := by
    intro hk
    have er : mv_ord a what = if what = 0 then mv_OO a 0 else if mv_OO a 0 = 0 then -1 else ((mv_nx2 a (mv_seq a (what - 10).toNat) : Nat) : Int) := if_pos ⟨h8, hk⟩
    refine mv_J.cn (gx_findsOrders hB1 hi hL1 hLi h66 h8) (fun v G2 h3 => ?_)
    obtain ⟨hO, c2⟩ := h3
    have hc2 : mv_ch [121, 122, 123, 124, 125, 126, 127, 136] [(100, 0), (100, 46), (100, 47), (100, 48), (100, 49), (100, 50), (100, 66)] G G2 := c1.tr (c2.mono rfl rfl)
    have e0 := hO 0 (by decide) (Nat.le_refl _) (fun q hq hb => by rw [Nat.zero_testBit] at hb; cases hb)
    rw [mv_ckp (n := 1024) (by omega), mv_ckp (n := 1024) (by omega), e0]
    refine mv_J.i (fun h3 => mv_J.ret ?_) (fun h3 => mv_J.i (fun h4 => mv_J.ret ?_) (fun h4 => mv_J.cut ?_))
    · rw [hPP]; exact ⟨by rw [er, if_pos h3], hc2⟩
    · rw [hPP]; exact ⟨by rw [er, if_neg h3, if_pos h4], hc2⟩
    · rw [if_neg h3, if_neg h4] at er
      have key : ∀ (k i : Nat) (p : Int) (G3 : mv_G), (i : Int) + k = what - 10 + 1 → (0 < i → p = ((mv_nx2 a (mv_seq a (i - 1)) : Nat) : Int)) → mv_ch [121, 122, 123, 124, 125, 126, 127, 136] [(100, 0), (100, 46), (100, 47), (100, 48), (100, 49), (100, 50), (100, 66)] G G3 → G3 100 0 66 = ((mv_sit a (mv_P a) : Nat) : Int) → mv_mO G3 a 0 → mv_JP mm_X12_orders P 82 [some (.inr (100, 0)), some (.inl what), none, some (.inl ((mv_seq a i : Nat) : Int)), some (.inl p), some (.inl (i : Int))] G3 := by
        intro k
        induction k with
        | zero =>
          intro i p G3 hk hp hc h663 hO3
          refine mv_JP.of (rg_X12_orders_82 _ _ _ _ G3) ?_
          rw [mv_ws (by omega)]
          refine mv_J.t (by omega) (mv_J.ret ?_)
          rw [hPP]
          exact ⟨by rw [er, hp (by omega), show (what - 10).toNat = i - 1 by omega], hc⟩
        | succ k ih =>
          intro i p G3 hk hp hc h663 hO3
          obtain ⟨s1, s2, s3, s4⟩ := mv_seq_sp hi h8 h4 i (by omega)
          have hex := mv_gd_ex (a := a) (m := mv_seq a i) (by omega) (by omega) s3
          have hB3 := hB.ch hc (by decide) rfl rfl
          have hL3 := hL.ch hc (by decide)
          refine mv_JP.of (rg_X12_orders_82 _ _ _ _ G3) ?_
          rw [mv_ws (by omega), mv_ws (x := (i : Int) + 1) (by omega)]
          refine mv_J.f (by omega) (mv_J.cn (gx_nextOf hB3 hi hL3 hLi h663 hO3 _ s1 s2 hex) (fun v G4 h5 => mv_J.cut ?_))
          obtain ⟨h5, c4⟩ := h5
          subst h5
          obtain ⟨q, hq, hg⟩ := hex
          obtain ⟨n1, n2, n3, n4⟩ := mv_nx1_sp (a := a) (m := mv_seq a i) (mv_P a) 0 ⟨q, by omega, by omega, hg⟩
          have n2 : mv_nx2 a (mv_seq a i) < mv_P a := by unfold mv_nx2; omega
          rw [mv_ad_n s1 (by omega)]
          have := ih (i + 1) _ G4 (by omega) (fun _ => by rw [Nat.add_sub_cancel]) (hc.tr (c4.mono rfl rfl)) (by rw [c4.slot 100 66 rfl]; exact h663) (fun x h6 h7 h8 => by rw [c4.cell 136 rfl]; exact hO3 x h6 h7 h8)
          exact this
      have := key (what - 10 + 1).toNat 0 (-1) G2 (by omega) (fun h => absurd h (Nat.lt_irrefl 0)) hc2 (by rw [c2.slot 100 66 rfl]; exact h66) hO
      exact this
  refine mv_J.i (fun h3 => tail (Or.inl h3)) (fun h3 => ?_)
  rw [mv_ws (x := 9 + (((mv_wh a (mv_P a)).1 : Nat) : Int)) (by omega)]
  refine mv_J.ce (gx_isIn _ _ _ _) (mv_J.bt (fun h4 => dead _ (fun h => h.2.elim h3 h4) c1) (fun h4 => tail (Or.inr h4)))
end MQ
