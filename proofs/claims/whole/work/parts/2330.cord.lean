/-! ORDERS, the class. -/
def mv_c8 (a : mv_a) : Nat := (mv_wh a (mv_P a)).1
def mv_w8 (a : mv_a) : Nat → Nat := (mv_wh a (mv_P a)).2
/-- the persons of a set of places -/
def mv_ep (w : Nat → Nat) (T : Nat) : Nat → Nat
  | 0 => 0
  | i + 1 => if T.testBit i = true then mv_ep w T i ||| 2 ^ w i else mv_ep w T i
theorem mv_ep_lt {w : Nat → Nat} {T : Nat} : ∀ c, (∀ i, i < c → w i < 10) → mv_ep w T c < 1024
  | 0, _ => (by decide : 0 < 1024)
  | c + 1, h => by
    have ih := mv_ep_lt (w := w) (T := T) c (fun i hi => h i (by omega))
    unfold mv_ep
    split
    · exact mv_ad_lt (d := 10) ih (h c (by omega))
    · exact ih
theorem mv_ep_tb {w : Nat → Nat} {T q : Nat} : ∀ c, (mv_ep w T c).testBit q = true ↔ ∃ i, i < c ∧ T.testBit i = true ∧ w i = q
  | 0 => by
    show (0 : Nat).testBit q = true ↔ _
    rw [Nat.zero_testBit]
    exact ⟨fun h => (by cases h), fun ⟨i, h, _⟩ => absurd h (Nat.not_lt_zero i)⟩
  | c + 1 => by
    have ih := mv_ep_tb (w := w) (T := T) (q := q) c
    unfold mv_ep
    by_cases hb : T.testBit c = true
    · rw [if_pos hb, mv_ad_tb, Bool.or_eq_true, ih, decide_eq_true_iff]
      constructor
      · rintro (⟨i, h1, h2, h3⟩ | h)
        · exact ⟨i, by omega, h2, h3⟩
        · exact ⟨c, by omega, hb, h⟩
      · rintro ⟨i, h1, h2, h3⟩
        by_cases e : i = c
        · exact Or.inr (e ▸ h3)
        · exact Or.inl ⟨i, by omega, h2, h3⟩
    · rw [if_neg hb, ih]
      constructor
      · rintro ⟨i, h1, h2, h3⟩
        exact ⟨i, by omega, h2, h3⟩
      · rintro ⟨i, h1, h2, h3⟩
        by_cases e : i = c
        · exact absurd (e ▸ h2) hb
        · exact ⟨i, by omega, h2, h3⟩
theorem mv_ep_ad {w : Nat → Nat} {T i c : Nat} (hi : i < c) : mv_ep w (T ||| 2 ^ i) c = mv_ep w T c ||| 2 ^ w i := by
  refine Nat.eq_of_testBit_eq (fun q => ?_)
  rw [mv_ad_tb]
  have h1 := mv_ep_tb (w := w) (T := T ||| 2 ^ i) (q := q) c
  have h2 := mv_ep_tb (w := w) (T := T) (q := q) c
  rw [Bool.eq_iff_iff, Bool.or_eq_true, h1, h2, decide_eq_true_iff]
  constructor
  · rintro ⟨j, g1, g2, g3⟩
    rw [mv_ad_tb, Bool.or_eq_true, decide_eq_true_iff] at g2
    rcases g2 with g2 | g2
    · exact Or.inl ⟨j, g1, g2, g3⟩
    · exact Or.inr (g2 ▸ g3)
  · rintro (⟨j, g1, g2, g3⟩ | g)
    · exact ⟨j, g1, by rw [mv_ad_tb, g2, Bool.true_or], g3⟩
    · exact ⟨i, hi, by rw [mv_ad_tb, decide_eq_true rfl, Bool.or_true], g⟩
theorem mv_ep_z {w : Nat → Nat} : ∀ c, mv_ep w 0 c = 0
  | 0 => rfl
  | c + 1 => by
    unfold mv_ep
    rw [Nat.zero_testBit, if_neg (by decide), mv_ep_z c]
theorem mv_wh_mono {a : mv_a} {p : Nat} : ∀ q, (mv_wh a p).1 ≤ (mv_wh a (p + q)).1
  | 0 => Nat.le_refl _
  | q + 1 => by
    have ih := mv_wh_mono (a := a) (p := p) q
    rw [show p + (q + 1) = p + q + 1 by omega]
    conv => rhs; unfold mv_wh
    split
    · exact ih
    · dsimp only; omega
section CW
variable {a : mv_a}
theorem mv_w8_sp : (∀ i, i < mv_c8 a → mv_w8 a i < mv_P a ∧ a 3 (mv_w8 a i) ≠ -1) ∧ ∀ i j, i < j → j < mv_c8 a → mv_w8 a i < mv_w8 a j := mv_wh_sp (mv_P a)
theorem mv_w8_inj {i j : Nat} (hi : i < mv_c8 a) (hj : j < mv_c8 a) (h : mv_w8 a i = mv_w8 a j) : i = j := by
  have hs := (mv_w8_sp (a := a)).2
  rcases Nat.lt_trichotomy i j with h1 | h1 | h1
  · have := hs i j h1 hj; omega
  · exact h1
  · have := hs j i h1 hi; omega
/-- a place is in the set just when its person is -/
theorem mv_ep_w {T i : Nat} (hi : i < mv_c8 a) : (mv_ep (mv_w8 a) T (mv_c8 a)).testBit (mv_w8 a i) = T.testBit i := by
  have h := mv_ep_tb (w := mv_w8 a) (T := T) (q := mv_w8 a i) (mv_c8 a)
  rw [Bool.eq_iff_iff, h]
  constructor
  · rintro ⟨j, h1, h2, h3⟩
    rw [← mv_w8_inj h1 hi h3]
    exact h2
  · intro h1
    exact ⟨i, hi, h1, rfl⟩
theorem mv_ep_sbs (hi : mv_iB a) (T : Nat) : mv_ep (mv_w8 a) T (mv_c8 a) < 1024 ∧ mv_sbs a (mv_ep (mv_w8 a) T (mv_c8 a)) := by
  obtain ⟨hP, hPe⟩ := mv_P_le hi
  have hs := (mv_w8_sp (a := a)).1
  refine ⟨mv_ep_lt _ (fun i hi => by have := (hs i hi).1; omega), fun q hq hb => ?_⟩
  obtain ⟨i, h1, h2, h3⟩ := (mv_ep_tb (mv_c8 a)).mp hb
  rw [← h3]
  exact hs i h1
/-- all are there just when all places are -/
theorem mv_ep_all {T : Nat} (hT : T < 2 ^ mv_c8 a) : mv_rmc a (mv_ep (mv_w8 a) T (mv_c8 a)) (mv_P a) = 0 ↔ T = 2 ^ mv_c8 a - 1 := by
  rw [mv_rmc_0]
  have hs := (mv_w8_sp (a := a)).1
  constructor
  · intro h
    refine Nat.eq_of_testBit_eq (fun i => ?_)
    rw [Nat.testBit_two_pow_sub_one]
    by_cases c : i < mv_c8 a
    · have := h (mv_w8 a i) (hs i c).1 (hs i c).2
      rw [mv_ep_w c] at this
      rw [this, decide_eq_true c]
    · rw [mv_tb_hi hT (by omega), decide_eq_false c]
  · intro h q h1 h2
    obtain ⟨i, g1, g2⟩ := mv_wh_has h2 (mv_P a) h1
    have g1 : i < mv_c8 a := g1
    have g2 : mv_w8 a i = q := g2
    rw [← g2]
    have := mv_ep_w (a := a) (T := T) (i := i) g1
    rw [this, h, Nat.testBit_two_pow_sub_one, decide_eq_true g1]
/-- the orders from a set, by places -/
theorem mv_OO_ep (hi : mv_iB a) {T : Nat} (hT : T < 2 ^ mv_c8 a) (hne : T ≠ 2 ^ mv_c8 a - 1) : mv_OO a (mv_ep (mv_w8 a) T (mv_c8 a)) = mv_sm (fun i => mv_w1 (T.testBit i = false ∧ mv_cnc a (mv_w8 a i) (mv_ep (mv_w8 a) T (mv_c8 a))) (mv_OO a (mv_ep (mv_w8 a) (T ||| 2 ^ i) (mv_c8 a)))) (mv_c8 a) 0 := by
  have hr : mv_rmc a (mv_ep (mv_w8 a) T (mv_c8 a)) (mv_P a) ≠ 0 := fun h => hne ((mv_ep_all hT).mp h)
  rw [mv_OO_s hr]
  have h := mv_wh_sm (a := a) (f := fun q => mv_w1 ((mv_ep (mv_w8 a) T (mv_c8 a)).testBit q = false ∧ mv_cnc a q (mv_ep (mv_w8 a) T (mv_c8 a))) (mv_OO a (mv_ep (mv_w8 a) T (mv_c8 a) ||| 2 ^ q))) (mv_P a)
  refine h.trans ?_
  refine mv_sm_cg _ _ (fun i h1 h2 => ?_)
  have hic : i < mv_c8 a := by unfold mv_c8; omega
  have e1 := mv_ep_w (a := a) (T := T) hic
  have e2 := mv_ep_ad (w := mv_w8 a) (T := T) hic
  show mv_w1 ((mv_ep (mv_w8 a) T (mv_c8 a)).testBit (mv_w8 a i) = false ∧ _) _ = _
  rw [e1, e2]
  rfl
end CW
theorem mv_tb_and {x i : Nat} (hx : x < 1024) (hi : i < 10) : mv_and (x : Int) (mv_shl 1 (i : Int)) = 0 ↔ x.testBit i = false := by
  have hp := mv_pw hi
  rw [mv_shl_n i hi, mv_and_n (by omega) (by omega)]
  constructor
  · intro h
    have h : x &&& 2 ^ i = 0 := by omega
    have h2 : (x &&& 2 ^ i).testBit i = (x.testBit i && true) := by rw [Nat.testBit_and, Nat.testBit_two_pow, decide_eq_true rfl]
    rw [h, Nat.zero_testBit, Bool.and_true] at h2
    exact h2.symm
  · intro h
    have : x &&& 2 ^ i = 0 := by
      refine Nat.eq_of_testBit_eq (fun j => ?_)
      rw [Nat.testBit_and, Nat.testBit_two_pow, Nat.zero_testBit]
      by_cases e : i = j
      · rw [← e, h, Bool.false_and]
      · rw [decide_eq_false e, Bool.and_false]
    rw [this]
    rfl
/-- the first of a set; 32, if there is none -/
def mv_nt (x : Nat) : Nat → Nat → Nat
  | 0, _ => 32
  | k + 1, i => if x.testBit i = true then i else mv_nt x k (i + 1)
def mv_ny (t : Nat) : Int := if t = 32 then -1 else ((2 ^ t : Nat) : Int) - 1
theorem mv_nt_dec : ∀ x : Nat, x < 256 → (mv_nt x 8 0 < 8 ∨ mv_nt x 8 0 = 32) ∧ mv_and (mv_xor (x : Int) (-1)) (mv_w ((x : Int) - 1)) = mv_ny (mv_nt x 8 0) := by decide +kernel
theorem mv_sub_dec : ∀ x : Nat, x < 256 → ∀ i : Nat, i < 8 → x.testBit i = true → 2 ^ i ≤ x ∧ ∀ j : Nat, j < 8 → (x - 2 ^ i).testBit j = (x.testBit j && !decide (i = j)) := by decide +kernel
theorem mv_nt_sp {x : Nat} : ∀ k i, (∃ q, i ≤ q ∧ q < i + k ∧ x.testBit q = true) → i ≤ mv_nt x k i ∧ mv_nt x k i < i + k ∧ x.testBit (mv_nt x k i) = true ∧ ∀ q, i ≤ q → q < mv_nt x k i → x.testBit q = false
  | 0, i, ⟨q, h1, h2, _⟩ => by omega
  | k + 1, i, ⟨q, h1, h2, h3⟩ => by
    unfold mv_nt
    by_cases c : x.testBit i = true
    · rw [if_pos c]
      exact ⟨Nat.le_refl _, by omega, c, fun q h4 h5 => by omega⟩
    · rw [if_neg c]
      have hne : q ≠ i := fun e => c (e ▸ h3)
      obtain ⟨g1, g2, g3, g4⟩ := mv_nt_sp (x := x) k (i + 1) ⟨q, by omega, by omega, h3⟩
      refine ⟨by omega, by omega, g3, fun q h4 h5 => ?_⟩
      by_cases e : q = i
      · rw [e]; cases hb : x.testBit i with
        | false => rfl
        | true => exact absurd hb c
      · exact g4 q (by omega) h5
set_option maxHeartbeats 2000000 in
theorem fx_ntz (G : mv_G) (x : Nat) (hx : x < 256) : ff_J6_numberOfTrailingZeros_0f7a4 [.inl (x : Int)] G = some (((mv_nt x 8 0 : Nat) : Int), G) := by
  obtain ⟨h1, h2⟩ := mv_nt_dec x hx
  refine mv_Kp.eq (mv_Kp.of (mv_JP.of (rg_J6_numberOfTrailingZeros_0f7a4_0 (x : Int) G) ?_))
  rw [h2]
  clear h2
  generalize mv_nt x 8 0 = t at h1
  have h3 : t = 0 ∨ t = 1 ∨ t = 2 ∨ t = 3 ∨ t = 4 ∨ t = 5 ∨ t = 6 ∨ t = 7 ∨ t = 32 := by omega
  rcases h3 with rfl | rfl | rfl | rfl | rfl | rfl | rfl | rfl | rfl
  all_goals
    repeat first
      | exact mv_J.ret ⟨by decide +kernel, rfl⟩
      | refine mv_J.t (by decide +kernel) ?_
      | refine mv_J.f (by decide +kernel) ?_
section CX
variable {G : mv_G} {a : mv_a}
/-- the row of those who sit -/
def mv_cW (G : mv_G) (a : mv_a) : Prop := G 86 0 6 = ((mv_c8 a : Nat) : Int) ∧ ∀ i, i < mv_c8 a → G 87 0 i = ((mv_w8 a i : Nat) : Int)
theorem mv_cW.ch {S : List Nat} {T : List (Nat × Nat)} {G2 : mv_G} (h : mv_cW G a) (hc : mv_ch S T G G2) (h1 : (S.contains 87 || T.any fun q => q.1 == 87) = false) (h2 : (S.contains 86 || T.contains (86, 6)) = false) : mv_cW G2 a := by
  refine ⟨?_, fun i hi => ?_⟩
  · rw [hc.slot 86 6 h2]; exact h.1
  · rw [hc.cell 87 h1]; exact h.2 i hi
theorem fx_gatherAll (hB : mv_cB G a) (hi : mv_iB a) : mv_Kp (ff_X1_gatherAll [.inr (86, 0)] G) (fun v G' => v = mv_b (mv_c8 a ≤ 8) ∧ (mv_c8 a ≤ 8 → mv_cW G' a) ∧ mv_ch [87] [(86, 6)] G G') := by
  obtain ⟨hP, hPe⟩ := mv_P_le hi
  have key : ∀ (q p : Nat) (G1 : mv_G), p + q = mv_P a → mv_ch [87] [(86, 6)] G G1 → G1 86 0 6 = (((mv_wh a p).1 : Nat) : Int) → (mv_wh a p).1 ≤ 8 → (∀ i, i < (mv_wh a p).1 → G1 87 0 i = (((mv_wh a p).2 i : Nat) : Int)) → mv_JP mm_X1_gatherAll (fun v G' => v = mv_b (mv_c8 a ≤ 8) ∧ (mv_c8 a ≤ 8 → mv_cW G' a) ∧ mv_ch [87] [(86, 6)] G G') 7 [some (.inr (86, 0)), some (.inl (p : Int))] G1 := by
    intro q
    induction q with
    | zero =>
      intro p G1 hq hc h6 h8 hw
      have hB1 := hB.ch hc (by decide)
      refine mv_JP.of (rg_X1_gatherAll_7 _ G1) ?_
      rw [hB1.1.2.1]
      have e : mv_P a = p := by omega
      refine mv_J.f (by omega) (mv_J.r0 (Or.inr rfl) ⟨?_, fun _ => ?_, hc⟩)
      · unfold mv_c8; rw [e]; exact (mv_b1 h8).symm
      · unfold mv_cW mv_c8 mv_w8; rw [e]; exact ⟨h6, hw⟩
    | succ q ih =>
      intro p G1 hq hc h6 h8 hw
      have hB1 := hB.ch hc (by decide)
      refine mv_JP.of (rg_X1_gatherAll_7 _ G1) ?_
      rw [hB1.1.2.1, mv_ws (x := (p : Int) + 1) (by omega)]
      have nx := ih (p + 1)
      have est : mv_wh a (p + 1) = if a 3 p = -1 then mv_wh a p else ((mv_wh a p).1 + 1, fun i => if i = (mv_wh a p).1 then p else (mv_wh a p).2 i) := rfl
      have mono := mv_wh_mono (a := a) (p := p + 1) q
      rw [show p + 1 + q = mv_P a by omega] at mono
      refine mv_J.t (by omega) (mv_J.ce (fx_isSeated hB1 hi p) (mv_J.bt (fun h1 => mv_J.cut ?_) (fun h1 => ?_)))
      · have hs : a 3 p = -1 := Classical.byContradiction fun h2 => h1 ⟨by omega, by omega, by rw [Int.toNat_natCast]; exact h2⟩
        rw [if_pos hs] at est
        rw [est] at nx
        exact nx G1 (by omega) hc h6 h8 hw
      · have hs := h1.2.2
        rw [Int.toNat_natCast] at hs
        rw [if_neg hs] at est
        rw [est] at nx mono
        dsimp only at nx mono
        rw [h6]
        refine mv_J.i (fun h2 => mv_J.ck (by omega) (mv_J.cut ?_)) (fun h2 => mv_J.r0 (Or.inl rfl) ⟨(mv_b0 ?_).symm, ?_, hc⟩)
        · rw [Int.toNat_natCast, mv_up_k (by decide : (86 : Nat) ≠ 87), h6, mv_ws (by omega)]
          refine nx _ (by omega) ((hc.uc rfl).up rfl) ?_ (by omega) (fun i hi2 => ?_)
          · rw [mv_ups_eq]; omega
          · rw [mv_up_k (by decide), mv_up_at]
            by_cases e : i = (mv_wh a p).1
            · rw [if_pos e, if_pos e]
            · rw [if_neg e, if_neg e]; exact hw i (by omega)
        · unfold mv_c8; omega
        · intro h3; unfold mv_c8 at h3; omega
  refine mv_Kp.of (mv_JP.of (rg_X1_gatherAll_0 G) (mv_J.cut ?_))
  exact key (mv_P a) 0 _ (by omega) (mv_ch.rf.up rfl) mv_ups_eq (Nat.zero_le _) (fun i h => absurd h (Nat.not_lt_zero i))
set_option maxHeartbeats 1000000 in
theorem fx_sitsSo (hB : mv_cB G a) (hi : mv_iB a) (hL : mv_cL G 8 a 17) (hLi : mv_iL mv_qs a 17) (hW : mv_cW G a) (h8 : mv_c8 a ≤ 8) (i T : Nat) (hic : i < mv_c8 a) (hT : T < 256) : mv_Kp (ff_X1_sitsSo [.inr (86, 0), .inl i, .inl T] G) (fun v G' => v = mv_b (mv_cnc a (mv_w8 a i) (mv_ep (mv_w8 a) T (mv_c8 a))) ∧ mv_ch [13, 67, 68, 69, 70, 71, 73] [(66, 0), (66, 6), (66, 7), (66, 8), (66, 9)] G G') := by
  obtain ⟨hP, hPe⟩ := mv_P_le hi
  have hs := (mv_w8_sp (a := a)).1
  have hw10 : ∀ j, j < mv_c8 a → mv_w8 a j < 10 := fun j hj => by have := (hs j hj).1; omega
  have key : ∀ (q j : Nat), j + q = mv_c8 a → mv_JP mm_X1_sitsSo (fun v G' => v = mv_b (mv_cnc a (mv_w8 a i) (mv_ep (mv_w8 a) T (mv_c8 a))) ∧ mv_ch [13, 67, 68, 69, 70, 71, 73] [(66, 0), (66, 6), (66, 7), (66, 8), (66, 9)] G G') 5 [some (.inr (86, 0)), some (.inl (i : Int)), some (.inl (T : Int)), some (.inl ((mv_ep (mv_w8 a) T j : Nat) : Int)), some (.inl (j : Int))] G := by
    intro q
    induction q with
    | zero =>
      intro j hq
      have e : j = mv_c8 a := by omega
      refine mv_JP.of (rg_X1_sitsSo_5 _ _ _ _ G) ?_
      rw [hW.1]
      refine mv_J.f (by omega) (mv_J.cn (fx_gather hB hi _) (fun v G1 h1 => mv_J.ck (by omega) ?_))
      rw [e] at h1
      have hR1 : mv_cR G1 (mv_gtm a (mv_ep (mv_w8 a) T (mv_c8 a))).1 (mv_gtm a (mv_ep (mv_w8 a) T (mv_c8 a))).2 := h1.1
      have hB1 := hB.ch h1.2 (by decide)
      have hW1 := hW.ch h1.2 rfl rfl
      have hwp := (hs i hic).1
      rw [Int.toNat_natCast, hW1.2 i hic]
      refine mv_J.cn (fx_askFor hB1 hi (mv_w8 a i) (by omega)) (fun v G2 h2 => ?_)
      have hB2 := hB1.ch h2.2 (by decide)
      have hok : mv_rok (a 0 0) (mv_gtm a (mv_ep (mv_w8 a) T (mv_c8 a))).1 (mv_gtm a (mv_ep (mv_w8 a) T (mv_c8 a))).2 := mv_gat_ok hi _ (by omega)
      have hL2 := (hL.ch h1.2 (by decide)).ch h2.2 (by decide)
      refine mv_J.cn (fx_best hB2 hi (hR1.ch h2.2 (by decide) rfl) h2.1 hok (mv_ask_ok hi _ (by omega)) hL2 hLi) (fun v G3 h3 => ?_)
      obtain ⟨h3, c3⟩ := h3
      subst h3
      have hW3 := (hW1.ch h2.2 rfl rfl).ch c3 rfl rfl
      have hB3 := hB2.ch c3 (by decide)
      have hc : mv_ch [13, 67, 68, 69, 70, 71, 73] [(66, 0), (66, 6), (66, 7), (66, 8), (66, 9)] G G3 := ((h1.2.mono rfl rfl).tr (h2.2.mono rfl rfl)).tr (c3.mono rfl rfl)
      rw [hW3.2 i hic, Int.toNat_natCast, hB3.2.2.2.1]
      exact mv_J.ck (by omega) (mv_J.ck (by omega) (mv_J.i (fun h => mv_J.r0 (Or.inr rfl) ⟨(mv_b1 h).symm, hc⟩) (fun h => mv_J.r0 (Or.inl rfl) ⟨(mv_b0 h).symm, hc⟩)))
    | succ q ih =>
      intro j hq
      have nx := ih (j + 1) (by omega)
      have est : mv_ep (mv_w8 a) T (j + 1) = if T.testBit j = true then mv_ep (mv_w8 a) T j ||| 2 ^ mv_w8 a j else mv_ep (mv_w8 a) T j := rfl
      rw [est] at nx
      have he := mv_ep_lt (w := mv_w8 a) (T := T) j (fun x hx => hw10 x (by omega))
      refine mv_JP.of (rg_X1_sitsSo_5 _ _ _ _ G) ?_
      rw [hW.1, mv_in_n (by omega) (by omega), Int.toNat_natCast, hW.2 j (by omega), mv_ad_n he (hw10 j (by omega)), mv_ws (x := (j : Int) + 1) (by omega)]
      refine mv_J.t (by omega) ?_
      by_cases hb : T.testBit j = true
      · rw [if_pos hb] at nx
        rw [if_pos hb]
        exact mv_J.t rfl (mv_J.ck (by omega) (mv_J.cut nx))
      · rw [if_neg hb] at nx
        rw [if_neg hb]
        exact mv_J.f (by decide) (mv_J.cut nx)
  exact mv_Kp.of (mv_JP.of (rg_X1_sitsSo_0 i T G) (mv_J.cut (key (mv_c8 a) 0 (by omega))))
end CX
