/-! Sets as numbers. -/
theorem mv_i32 (a : Nat) : (Int32.ofInt (a : Int)).toBitVec = BitVec.ofNat 32 a := BitVec.ofInt_natCast 32 a
theorem mv_bv_int {x : BitVec 32} (h : x.toNat < 2147483648) : x.toInt = (x.toNat : Int) := BitVec.toInt_eq_toNat_of_lt (by omega)
theorem mv_i32_nat {a : Nat} (h : a < 2147483648) : (Int32.ofInt (a : Int)).toBitVec.toNat = a := by
  rw [mv_i32, BitVec.toNat_ofNat]
  exact Nat.mod_eq_of_lt (by omega)
theorem mv_and_n {a b : Nat} (ha : a < 2147483648) (hb : b < 2147483648) : mv_and (a : Int) (b : Int) = ((a &&& b : Nat) : Int) := by
  have e : (Int32.ofInt (a : Int) &&& Int32.ofInt (b : Int)).toBitVec.toNat = a &&& b := by
    rw [Int32.toBitVec_and, BitVec.toNat_and, mv_i32_nat ha, mv_i32_nat hb]
  have l : a &&& b ≤ a := Nat.and_le_left
  show (Int32.ofInt (a : Int) &&& Int32.ofInt (b : Int)).toBitVec.toInt = _
  rw [mv_bv_int (by omega), e]
theorem mv_or_n {a b : Nat} (ha : a < 1024) (hb : b < 1024) : mv_or (a : Int) (b : Int) = ((a ||| b : Nat) : Int) := by
  have l : a ||| b < 2 ^ 10 := Nat.or_lt_two_pow (by omega) (by omega)
  have e : (Int32.ofInt (a : Int) ||| Int32.ofInt (b : Int)).toBitVec.toNat = a ||| b := by
    rw [Int32.toBitVec_or, BitVec.toNat_or, mv_i32_nat (by omega), mv_i32_nat (by omega)]
  show (Int32.ofInt (a : Int) ||| Int32.ofInt (b : Int)).toBitVec.toInt = _
  rw [mv_bv_int (by omega), e]
theorem mv_shl_n : ∀ q : Nat, q < 10 → mv_shl 1 (q : Int) = ((2 ^ q : Nat) : Int) := by decide +kernel
theorem mv_pw {q : Nat} (h : q < 10) : 2 ^ q < 1024 := Nat.pow_lt_pow_right (by decide) h
theorem mv_shr_n {a : Nat} (ha : a < 1024) : ∀ q : Nat, q < 10 → mv_shr (a : Int) (q : Int) = ((a >>> q : Nat) : Int) := by
  have h : ∀ a : Nat, a < 1024 → ∀ q : Nat, q < 10 → mv_shr (a : Int) (q : Int) = ((a >>> q : Nat) : Int) := by decide +kernel
  exact h a ha
/-- without -/
theorem mv_wo_n {a b : Nat} (ha : a < 1024) (hb : b < 1024) : mv_and (a : Int) (mv_xor (b : Int) (-1)) = ((a &&& (1023 ^^^ b) : Nat) : Int) := by
  have h : ∀ b : Nat, b < 1024 → mv_xor (b : Int) (-1) = -((b : Int) + 1) ∧ (Int32.ofInt (-((b : Int) + 1))).toBitVec.toNat = 4294967295 - b ∧ (4294967295 - b) % 1024 = 1023 ^^^ b := by decide +kernel
  obtain ⟨h1, h2, h3⟩ := h b hb
  rw [h1]
  have e : (Int32.ofInt (a : Int) &&& Int32.ofInt (-((b : Int) + 1))).toBitVec.toNat = a &&& (4294967295 - b) := by
    rw [Int32.toBitVec_and, BitVec.toNat_and, mv_i32_nat (by omega), h2]
  have e2 : a &&& (4294967295 - b) = a &&& (1023 ^^^ b) := by
    refine Nat.eq_of_testBit_eq (fun i => ?_)
    rw [Nat.testBit_and, Nat.testBit_and, ← h3, show (1024 : Nat) = 2 ^ 10 from rfl, Nat.testBit_mod_two_pow]
    by_cases c : i < 10
    · rw [decide_eq_true c, Bool.true_and]
    · have : a.testBit i = false := Nat.testBit_lt_two_pow (Nat.lt_of_lt_of_le ha (Nat.pow_le_pow_right (n := 2) (by decide) (show 10 ≤ i by omega)))
      rw [this, Bool.false_and, Bool.false_and]
  have l : a &&& (1023 ^^^ b) ≤ a := Nat.and_le_left
  show (Int32.ofInt (a : Int) &&& Int32.ofInt (-((b : Int) + 1))).toBitVec.toInt = _
  rw [mv_bv_int (by omega), e, e2]
theorem mv_tb1 {a q : Nat} : (a >>> q) &&& 1 = if a.testBit q then 1 else 0 := by
  have : a.testBit q = ((1 &&& (a >>> q)) != 0) := rfl
  rw [this, Nat.and_comm]
  have h : 1 &&& (a >>> q) ≤ 1 := Nat.and_le_left
  by_cases c : 1 &&& (a >>> q) = 0
  · rw [c]; rfl
  · rw [show 1 &&& (a >>> q) = 1 by omega]; rfl
/-- whether one is in the set -/
theorem mv_in_n {a : Nat} (ha : a < 1024) {q : Nat} (hq : q < 10) : mv_and (mv_shr (a : Int) (q : Int)) 1 = if a.testBit q then 1 else 0 := by
  rw [mv_shr_n ha q hq]
  have l : a >>> q ≤ a := Nat.shiftRight_le a q
  have := mv_and_n (a := a >>> q) (b := 1) (by omega) (by omega)
  rw [show (((1 : Nat)) : Int) = 1 from rfl] at this
  rw [this, mv_tb1]
  split <;> rfl
theorem mv_wo_lt {a b : Nat} (ha : a < 1024) : a &&& (1023 ^^^ b) < 1024 := Nat.lt_of_le_of_lt Nat.and_le_left ha
theorem mv_wo_tb {a b q : Nat} (hq : q < 10) : (a &&& (1023 ^^^ b)).testBit q = (a.testBit q && !b.testBit q) := by
  rw [Nat.testBit_and, Nat.testBit_xor]
  have h : ∀ q : Nat, q < 10 → (1023 : Nat).testBit q = true := by decide
  rw [h q hq, Bool.true_xor]
/-- in the one, not in the other -/
theorem mv_in_wo {a b : Nat} (ha : a < 1024) (hb : b < 1024) {q : Nat} (hq : q < 10) : mv_and (mv_shr (mv_and (a : Int) (mv_xor (b : Int) (-1))) (q : Int)) 1 = if a.testBit q = true ∧ b.testBit q = false then 1 else 0 := by
  rw [mv_wo_n ha hb, mv_in_n (mv_wo_lt ha) hq, mv_wo_tb hq]
  cases a.testBit q <;> cases b.testBit q <;> rfl
theorem mv_wo_0 {a b : Nat} (ha : a < 1024) (hb : b < 1024) : mv_and (a : Int) (mv_xor (b : Int) (-1)) = 0 ↔ ∀ q, q < 10 → a.testBit q = true → b.testBit q = true := by
  rw [mv_wo_n ha hb]
  constructor
  · intro h q hq h1
    have h : a &&& (1023 ^^^ b) = 0 := by omega
    have h2 := mv_wo_tb (a := a) (b := b) hq
    rw [h, Nat.zero_testBit, h1, Bool.true_and] at h2
    cases hb2 : b.testBit q with
    | true => rfl
    | false => rw [hb2] at h2; cases h2
  · intro h
    have : a &&& (1023 ^^^ b) = 0 := by
      refine Nat.eq_of_testBit_eq (fun i => ?_)
      rw [Nat.zero_testBit]
      by_cases c : i < 10
      · rw [mv_wo_tb c]
        cases h1 : a.testBit i with
        | false => rfl
        | true => rw [h i c h1]; rfl
      · have : a.testBit i = false := Nat.testBit_lt_two_pow (Nat.lt_of_lt_of_le ha (Nat.pow_le_pow_right (n := 2) (by decide) (show 10 ≤ i by omega)))
        rw [Nat.testBit_and, this, Bool.false_and]
    rw [this]
    rfl
/-- one more in the set -/
theorem mv_ad_n {a : Nat} (ha : a < 1024) {q : Nat} (hq : q < 10) : mv_or (a : Int) (mv_shl 1 (q : Int)) = ((a ||| 2 ^ q : Nat) : Int) := by
  rw [mv_shl_n q hq, mv_or_n ha (mv_pw hq)]
theorem mv_ad_lt {a : Nat} {d : Nat} (ha : a < 2 ^ d) {q : Nat} (hq : q < d) : a ||| 2 ^ q < 2 ^ d := Nat.or_lt_two_pow ha (Nat.pow_lt_pow_right (by decide) hq)
theorem mv_ad_tb {a q r : Nat} : (a ||| 2 ^ q).testBit r = (a.testBit r || decide (q = r)) := by
  rw [Nat.testBit_or, Nat.testBit_two_pow]
theorem mv_ad_gt {a q : Nat} (h : a.testBit q = false) : a < a ||| 2 ^ q := by
  have h1 : a ≤ a ||| 2 ^ q := Nat.left_le_or
  rcases Nat.lt_or_eq_of_le h1 with h2 | h2
  · exact h2
  · have h3 : (a ||| 2 ^ q).testBit q = true := by
      rw [mv_ad_tb, decide_eq_true rfl, Bool.or_true]
    rw [← h2, h] at h3
    cases h3
theorem mv_tb_hi {a d q : Nat} (h : a < 2 ^ d) (hq : d ≤ q) : a.testBit q = false := Nat.testBit_lt_two_pow (Nat.lt_of_lt_of_le h (Nat.pow_le_pow_right (n := 2) (by decide) hq))
/-! who sits, as a set and as a row -/
def mv_sit (a : mv_a) : Nat → Nat
  | 0 => 0
  | p + 1 => if a 3 p = -1 then mv_sit a p else mv_sit a p ||| 2 ^ p
theorem mv_sit_lt {a : mv_a} : ∀ p, mv_sit a p < 2 ^ p
  | 0 => Nat.zero_lt_one
  | p + 1 => by
    have h := mv_sit_lt (a := a) p
    have h2 : (2 : Nat) ^ p < 2 ^ (p + 1) := Nat.pow_lt_pow_right (by decide) (by omega)
    unfold mv_sit
    split
    · omega
    · exact mv_ad_lt (by omega) (by omega)
theorem mv_sit_tb {a : mv_a} {q : Nat} : ∀ p, (mv_sit a p).testBit q = true ↔ q < p ∧ a 3 q ≠ -1
  | 0 => by
    show (0 : Nat).testBit q = true ↔ _
    rw [Nat.zero_testBit]
    constructor
    · intro h; cases h
    · intro h; omega
  | p + 1 => by
    have ih := mv_sit_tb (a := a) (q := q) p
    unfold mv_sit
    by_cases c : a 3 p = -1
    · rw [if_pos c, ih]
      constructor
      · intro h; exact ⟨by omega, h.2⟩
      · intro h
        refine ⟨?_, h.2⟩
        by_cases e : q = p
        · exact absurd (e ▸ c) h.2
        · omega
    · rw [if_neg c, mv_ad_tb]
      by_cases e : p = q
      · rw [decide_eq_true e, Bool.or_true]
        exact ⟨fun _ => ⟨by omega, e ▸ c⟩, fun _ => rfl⟩
      · rw [decide_eq_false e, Bool.or_false, ih]
        constructor
        · intro h; exact ⟨by omega, h.2⟩
        · intro h; exact ⟨by omega, h.2⟩
/-- how many sit, and who is the how many-th -/
def mv_wh (a : mv_a) : Nat → Nat × (Nat → Nat)
  | 0 => (0, fun _ => 0)
  | p + 1 => if a 3 p = -1 then mv_wh a p else ((mv_wh a p).1 + 1, fun i => if i = (mv_wh a p).1 then p else (mv_wh a p).2 i)
theorem mv_wh_le {a : mv_a} : ∀ p, (mv_wh a p).1 ≤ p
  | 0 => Nat.le_refl _
  | p + 1 => by
    have h := mv_wh_le (a := a) p
    unfold mv_wh
    split
    · omega
    · dsimp only; omega
theorem mv_wh_sp {a : mv_a} : ∀ p, (∀ i, i < (mv_wh a p).1 → (mv_wh a p).2 i < p ∧ a 3 ((mv_wh a p).2 i) ≠ -1) ∧ ∀ i j, i < j → j < (mv_wh a p).1 → (mv_wh a p).2 i < (mv_wh a p).2 j
  | 0 => ⟨fun i h => absurd h (Nat.not_lt_zero i), fun i j _ h => absurd h (Nat.not_lt_zero j)⟩
  | p + 1 => by
    obtain ⟨h1, h2⟩ := mv_wh_sp (a := a) p
    unfold mv_wh
    by_cases c : a 3 p = -1
    · rw [if_pos c]
      exact ⟨fun i hi => ⟨by have := (h1 i hi).1; omega, (h1 i hi).2⟩, h2⟩
    · rw [if_neg c]
      dsimp only
      refine ⟨fun i hi => ?_, fun i j hij hj => ?_⟩
      · by_cases e : i = (mv_wh a p).1
        · rw [if_pos e]; exact ⟨by omega, c⟩
        · rw [if_neg e]
          have := h1 i (by omega)
          exact ⟨by omega, this.2⟩
      · rw [if_neg (by omega)]
        by_cases e : j = (mv_wh a p).1
        · rw [if_pos e]
          exact (h1 i (by omega)).1
        · rw [if_neg e]
          exact h2 i j hij (by omega)
theorem mv_sm_cg {f g : Nat → Int} : ∀ q y, (∀ a, y ≤ a → a < y + q → f a = g a) → mv_sm f q y = mv_sm g q y
  | 0, _, _ => rfl
  | q + 1, y, h => by
    show f y + mv_sm f q (y + 1) = g y + mv_sm g q (y + 1)
    rw [h y (Nat.le_refl _) (by omega), mv_sm_cg q (y + 1) (fun a h1 h2 => h a (by omega) (by omega))]
/-- a sum over all who sit -/
theorem mv_wh_sm {a : mv_a} {f : Nat → Int} : ∀ p, mv_sm (fun q => if a 3 q = -1 then 0 else f q) p 0 = mv_sm (fun i => f ((mv_wh a p).2 i)) (mv_wh a p).1 0
  | 0 => rfl
  | p + 1 => by
    rw [mv_sm_s, mv_wh_sm p, Nat.zero_add]
    conv => rhs; unfold mv_wh
    by_cases c : a 3 p = -1
    · rw [if_pos c, if_pos c]
      omega
    · rw [if_neg c, if_neg c]
      dsimp only
      rw [mv_sm_s, Nat.zero_add, if_pos rfl]
      congr 1
      refine mv_sm_cg _ _ (fun i h1 h2 => ?_)
      rw [if_neg (by omega)]
theorem mv_wh_has {a : mv_a} {q : Nat} (h : a 3 q ≠ -1) : ∀ p, q < p → ∃ i, i < (mv_wh a p).1 ∧ (mv_wh a p).2 i = q
  | 0, hq => by omega
  | p + 1, hq => by
    unfold mv_wh
    by_cases c : a 3 p = -1
    · rw [if_pos c]
      exact mv_wh_has h p (by
        by_cases e : q = p
        · exact absurd (e ▸ c) h
        · omega)
    · rw [if_neg c]
      dsimp only
      by_cases e : q = p
      · exact ⟨(mv_wh a p).1, by omega, by rw [if_pos rfl, e]⟩
      · obtain ⟨i, h1, h2⟩ := mv_wh_has h p (by omega)
        exact ⟨i, by omega, by rw [if_neg (by omega)]; exact h2⟩
