/-! TEXT: what a law is read as. A state: the token, how many codes, the codes. A fault: which, and at what token. -/
abbrev pr_S : Type := Nat × Nat × (Nat → Int)
abbrev pr_R : Type := pr_S ⊕ (Int × Nat)
def pr_ad (S : pr_S) (v : Int) : pr_S := (S.1, S.2.1 + 1, mv_sp S.2.2 S.2.1 v)
def pr_st (S : pr_S) : pr_S := (S.1 + 1, S.2)
/-- the law that is read may ask for it -/
def pr_tm (kd : Nat) (v : Int) : Prop := 20009 ≤ v ∧ v ≤ 20020 ∧ (v ≤ 20013 ∨ (kd = 1 ↔ v = 20020))
def pr_nb (v : Int) : Prop := 0 ≤ v ∧ v ≤ 9999
noncomputable def pr_if {α : Type} (c : Prop) (a b : α) : α := @ite _ c (Classical.propDecidable _) a b
theorem pr_t {α : Type} {c : Prop} {a b : α} (h : c) : pr_if c a b = a := if_pos h
theorem pr_f {α : Type} {c : Prop} {a b : α} (h : ¬ c) : pr_if c a b = b := if_neg h
def pr_bd (R : pr_R) (k : pr_S → pr_R) : pr_R := match R with
  | .inl S => k S
  | .inr e => .inr e
/-- what a unit is as a code -/
noncomputable def pr_un (v : Int) : Int := pr_if (pr_nb v) v (v - 10009)
def pr_sg (S : pr_S) (sg : Int) : pr_S := if sg = 0 then S else pr_ad S sg
section PU
variable (I : Nat → Int) (kd : Nat)
noncomputable def pr_pp : Nat → Int → pr_S → pr_R
  | 0, _, S => .inr (0, S.1)
  | f + 1, sg, S => pr_if (¬ pr_nb (I S.1) ∧ (sg = 30047 ∨ ¬ pr_tm kd (I S.1))) (.inr (1, S.1)) (pr_if (sg = 30047 ∧ I S.1 = 0) (.inr (2, S.1))
      (pr_if (I (S.1 + 1) = 30042 ∨ I (S.1 + 1) = 30047) (pr_pp f (I (S.1 + 1)) (pr_st (pr_st (pr_sg (pr_ad S (pr_un (I S.1))) sg)))) (.inl (pr_st (pr_sg (pr_ad S (pr_un (I S.1))) sg)))))
noncomputable def pr_ps : Nat → Int → pr_S → pr_R
  | 0, _, S => .inr (0, S.1)
  | f + 1, sg, S => pr_bd (pr_pp I kd 500 0 S) fun S1 => pr_if (I S1.1 = 30043 ∨ I S1.1 = 30045) (pr_ps f (I S1.1) (pr_st (pr_sg S1 sg))) (.inl (pr_sg S1 sg))
def pr_wd (w : Nat) : Int := if w = 1 then 20004 else 20003
def pr_cmp (v : Int) : Prop := v = 30060 ∨ v = 30061 ∨ v = 30062
/-- 0: one claim; 1: joined by and; 2: by or -/
noncomputable def pr_cl : Nat → Nat → Nat → Bool → pr_S → pr_R
  | 0, _, _, _, S => .inr (0, S.1)
  | f + 1, 0, o, _, S => pr_if (I S.1 = 20005 ∨ I S.1 = 30040) (pr_if (8 ≤ o) (.inr (3, S.1)) (pr_if (I S.1 = 20005) (pr_bd (pr_cl f 0 (o + 1) false (pr_st S)) fun S1 => .inl (pr_ad S1 20005))
      (pr_bd (pr_cl f 2 (o + 1) false (pr_st S)) fun S1 => pr_if (I S1.1 = 30041) (.inl (pr_st S1)) (.inr (1, S1.1)))))
      (pr_bd (pr_ps I kd 500 0 S) fun S1 => pr_if (pr_cmp (I S1.1)) (pr_bd (pr_ps I kd 500 0 (pr_st S1)) fun S2 => .inl (pr_ad S2 (I S1.1))) (.inr (1, S1.1)))
  | f + 1, w + 1, o, b, S => pr_bd (pr_cl f w o false S) fun S1 => pr_if (I S1.1 = pr_wd (w + 1)) (pr_cl f (w + 1) o true (pr_st (pr_sg S1 (if b = true then pr_wd (w + 1) else 0)))) (.inl (pr_sg S1 (if b = true then pr_wd (w + 1) else 0)))
end PU
section PB
variable {I : Nat → Int} {kd m : Nat}
theorem pr_sg_1 {S : pr_S} {sg : Int} : (pr_sg S sg).1 = S.1 := by
  unfold pr_sg
  split <;> rfl
theorem pr_sg_2 {S : pr_S} {sg : Int} : (pr_sg S sg).2.1 = S.2.1 + (if sg = 0 then 0 else 1) := by
  unfold pr_sg
  split <;> rfl
/-- the tokens go on, and the codes are not more than they -/
theorem pr_pp_b (hm : I m = -2) : ∀ (f : Nat) (sg : Int) (S S2 : pr_S) (p : Nat), S.1 ≤ m → S.2.1 + p + (if sg = 0 then 0 else 1) ≤ S.1 → pr_pp I kd f sg S = .inl S2 → S.1 < S2.1 ∧ S2.1 ≤ m ∧ S2.2.1 + p ≤ S2.1 ∧ S.2.1 < S2.2.1
  | 0, sg, S, S2, p, h1, h2, h3 => by cases h3
  | f + 1, sg, S, S2, p, h1, h2, h3 => by
    unfold pr_pp at h3
    by_cases c1 : ¬ pr_nb (I S.1) ∧ (sg = 30047 ∨ ¬ pr_tm kd (I S.1))
    · rw [pr_t c1] at h3; cases h3
    · rw [pr_f c1] at h3
      by_cases c2 : sg = 30047 ∧ I S.1 = 0
      · rw [pr_t c2] at h3; cases h3
      · rw [pr_f c2] at h3
        have hk : S.1 < m := by
          rcases Nat.lt_or_eq_of_le h1 with h | h
          · exact h
          · exfalso
            rw [h, hm] at c1
            refine c1 ⟨fun h => by have := h.1; omega, Or.inr fun h => by have := h.1; omega⟩
        have z : (pr_sg (pr_ad S (pr_un (I S.1))) sg).2.1 = S.2.1 + 1 + (if sg = 0 then 0 else 1) := pr_sg_2
        have y : (pr_sg (pr_ad S (pr_un (I S.1))) sg).1 = S.1 := pr_sg_1
        generalize pr_sg (pr_ad S (pr_un (I S.1))) sg = U at h3 y z
        have z1 : S.2.1 < U.2.1 := by rw [z]; omega
        by_cases c3 : I (S.1 + 1) = 30042 ∨ I (S.1 + 1) = 30047
        · rw [pr_t c3] at h3
          have hk2 : S.1 + 1 ≠ m := fun e => by rw [e, hm] at c3; omega
          have := pr_pp_b hm f _ _ S2 p (show U.1 + 1 + 1 ≤ m by omega) (show U.2.1 + p + (if I (S.1 + 1) = 0 then 0 else 1) ≤ U.1 + 1 + 1 by rw [z, y, if_neg (show ¬ I (S.1 + 1) = 0 by omega)]; omega) h3
          have e1 : (pr_st (pr_st U)).1 = U.1 + 1 + 1 := rfl
          have e2 : (pr_st (pr_st U)).2.1 = U.2.1 := rfl
          exact ⟨by omega, this.2.1, this.2.2.1, by omega⟩
        · rw [pr_f c3] at h3
          cases h3
          show S.1 < U.1 + 1 ∧ U.1 + 1 ≤ m ∧ U.2.1 + p ≤ U.1 + 1 ∧ S.2.1 < U.2.1
          omega
theorem pr_ps_b (hm : I m = -2) : ∀ (f : Nat) (sg : Int) (S S2 : pr_S) (p : Nat), S.1 ≤ m → S.2.1 + p + (if sg = 0 then 0 else 1) ≤ S.1 → pr_ps I kd f sg S = .inl S2 → S.1 < S2.1 ∧ S2.1 ≤ m ∧ S2.2.1 + p ≤ S2.1 ∧ S.2.1 < S2.2.1
  | 0, sg, S, S2, p, h1, h2, h3 => by cases h3
  | f + 1, sg, S, S2, p, h1, h2, h3 => by
    unfold pr_ps at h3
    cases hp : pr_pp I kd 500 0 S with
    | inr e => rw [hp] at h3; cases h3
    | inl S1 =>
      rw [hp] at h3
      have h3 : pr_if (I S1.1 = 30043 ∨ I S1.1 = 30045) (pr_ps I kd f (I S1.1) (pr_st (pr_sg S1 sg))) (.inl (pr_sg S1 sg)) = Sum.inl S2 := h3
      have b := pr_pp_b hm 500 0 S S1 (p + (if sg = 0 then 0 else 1)) h1 (by rw [if_pos rfl]; omega) hp
      have z : (pr_sg S1 sg).2.1 = S1.2.1 + (if sg = 0 then 0 else 1) := pr_sg_2
      have y : (pr_sg S1 sg).1 = S1.1 := pr_sg_1
      by_cases c : I S1.1 = 30043 ∨ I S1.1 = 30045
      · rw [pr_t c] at h3
        have hk2 : S1.1 ≠ m := fun e => by rw [e, hm] at c; omega
        generalize pr_sg S1 sg = U at h3 y z
        have := pr_ps_b hm f _ _ S2 p (show U.1 + 1 ≤ m by omega) (show U.2.1 + p + (if I S1.1 = 0 then 0 else 1) ≤ U.1 + 1 by rw [z, y, if_neg (show ¬ I S1.1 = 0 by omega)]; omega) h3
        have e1 : (pr_st U).1 = U.1 + 1 := rfl
        have e2 : (pr_st U).2.1 = U.2.1 := rfl
        refine ⟨by omega, this.2.1, this.2.2.1, by omega⟩
      · rw [pr_f c] at h3
        cases h3
        rw [y, z]
        omega
theorem pr_cl_b (hm : I m = -2) : ∀ (f w o : Nat) (b : Bool) (S S2 : pr_S) (p : Nat), S.1 ≤ m → S.2.1 + p + (if b = true ∧ w ≠ 0 then 1 else 0) ≤ S.1 → pr_cl I kd f w o b S = .inl S2 → S.1 < S2.1 ∧ S2.1 ≤ m ∧ S2.2.1 + p ≤ S2.1 ∧ S.2.1 < S2.2.1
  | 0, w, o, b, S, S2, p, h1, h2, h3 => by cases w <;> cases h3
  | f + 1, 0, o, b, S, S2, p, h1, h2, h3 => by
    unfold pr_cl at h3
    by_cases c1 : I S.1 = 20005 ∨ I S.1 = 30040
    · rw [pr_t c1] at h3
      have hk : S.1 ≠ m := fun e => by rw [e, hm] at c1; omega
      by_cases c2 : 8 ≤ o
      · rw [pr_t c2] at h3; cases h3
      · rw [pr_f c2] at h3
        by_cases c3 : I S.1 = 20005
        · rw [pr_t c3] at h3
          cases hp : pr_cl I kd f 0 (o + 1) false (pr_st S) with
          | inr e => rw [hp] at h3; cases h3
          | inl S1 =>
            rw [hp] at h3
            have h3 : Sum.inl (pr_ad S1 20005) = (Sum.inl S2 : pr_R) := h3
            cases h3
            have b := pr_cl_b hm f 0 (o + 1) false (pr_st S) S1 (p + 1) (show S.1 + 1 ≤ m by omega) (show S.2.1 + (p + 1) + 0 ≤ S.1 + 1 by split at h2 <;> omega) hp
            have e1 : (pr_st S).1 = S.1 + 1 := rfl
            have e2 : (pr_st S).2.1 = S.2.1 := rfl
            show S.1 < S1.1 ∧ S1.1 ≤ m ∧ S1.2.1 + 1 + p ≤ S1.1 ∧ S.2.1 < S1.2.1 + 1
            omega
        · rw [pr_f c3] at h3
          cases hp : pr_cl I kd f 2 (o + 1) false (pr_st S) with
          | inr e => rw [hp] at h3; cases h3
          | inl S1 =>
            rw [hp] at h3
            have h3 : pr_if (I S1.1 = 30041) (.inl (pr_st S1)) (.inr (1, S1.1)) = (Sum.inl S2 : pr_R) := h3
            have b := pr_cl_b hm f 2 (o + 1) false (pr_st S) S1 p (show S.1 + 1 ≤ m by omega) (show S.2.1 + p + 0 ≤ S.1 + 1 by split at h2 <;> omega) hp
            have e1 : (pr_st S).1 = S.1 + 1 := rfl
            have e2 : (pr_st S).2.1 = S.2.1 := rfl
            by_cases c4 : I S1.1 = 30041
            · rw [pr_t c4] at h3
              cases h3
              have hk2 : S1.1 ≠ m := fun e => by rw [e, hm] at c4; omega
              show S.1 < S1.1 + 1 ∧ S1.1 + 1 ≤ m ∧ S1.2.1 + p ≤ S1.1 + 1 ∧ S.2.1 < S1.2.1
              omega
            · rw [pr_f c4] at h3; cases h3
    · rw [pr_f c1] at h3
      cases hp : pr_ps I kd 500 0 S with
      | inr e => rw [hp] at h3; cases h3
      | inl S1 =>
        rw [hp] at h3
        have h3 : pr_if (pr_cmp (I S1.1)) (pr_bd (pr_ps I kd 500 0 (pr_st S1)) fun S2 => .inl (pr_ad S2 (I S1.1))) (.inr (1, S1.1)) = Sum.inl S2 := h3
        have b1 := pr_ps_b hm 500 0 S S1 p h1 (by rw [if_pos rfl]; split at h2 <;> omega) hp
        by_cases c4 : pr_cmp (I S1.1)
        · rw [pr_t c4] at h3
          have hk2 : S1.1 ≠ m := fun e => by rw [e, hm] at c4; unfold pr_cmp at c4; omega
          cases hp2 : pr_ps I kd 500 0 (pr_st S1) with
          | inr e => rw [hp2] at h3; cases h3
          | inl S3 =>
            rw [hp2] at h3
            have h3 : Sum.inl (pr_ad S3 (I S1.1)) = (Sum.inl S2 : pr_R) := h3
            cases h3
            have b2 := pr_ps_b hm 500 0 (pr_st S1) S3 (p + 1) (show S1.1 + 1 ≤ m by omega) (show S1.2.1 + (p + 1) + 0 ≤ S1.1 + 1 by omega) hp2
            have e1 : (pr_st S1).1 = S1.1 + 1 := rfl
            have e2 : (pr_st S1).2.1 = S1.2.1 := rfl
            show S.1 < S3.1 ∧ S3.1 ≤ m ∧ S3.2.1 + 1 + p ≤ S3.1 ∧ S.2.1 < S3.2.1 + 1
            omega
        · rw [pr_f c4] at h3; cases h3
  | f + 1, w + 1, o, b, S, S2, p, h1, h2, h3 => by
    unfold pr_cl at h3
    have hwd : pr_wd (w + 1) ≠ 0 ∧ pr_wd (w + 1) ≠ -2 := by unfold pr_wd; split <;> decide
    cases hp : pr_cl I kd f w o false S with
    | inr e => rw [hp] at h3; cases h3
    | inl S1 =>
      rw [hp] at h3
      have h3 : pr_if (I S1.1 = pr_wd (w + 1)) (pr_cl I kd f (w + 1) o true (pr_st (pr_sg S1 (if b = true then pr_wd (w + 1) else 0)))) (.inl (pr_sg S1 (if b = true then pr_wd (w + 1) else 0))) = Sum.inl S2 := h3
      have hb : (if b = true ∧ w + 1 ≠ 0 then 1 else 0) = (if b = true then 1 else 0) := by
        cases b with
        | false => rfl
        | true => rw [if_pos rfl, if_pos ⟨rfl, by omega⟩]
      rw [hb] at h2
      have b1 := pr_cl_b hm f w o false S S1 (p + (if b = true then 1 else 0)) h1 (by rw [if_neg (c := false = true ∧ w ≠ 0) (fun h => by cases h.1)]; omega) hp
      have y : (pr_sg S1 (if b = true then pr_wd (w + 1) else 0)).1 = S1.1 := pr_sg_1
      have z : (pr_sg S1 (if b = true then pr_wd (w + 1) else 0)).2.1 = S1.2.1 + (if b = true then 1 else 0) := by
        rw [pr_sg_2]
        cases b with
        | false => rfl
        | true => rw [if_pos rfl, if_pos rfl, if_neg hwd.1]
      by_cases c : I S1.1 = pr_wd (w + 1)
      · rw [pr_t c] at h3
        have hk2 : S1.1 ≠ m := fun e => by rw [e, hm] at c; exact hwd.2 c.symm
        generalize pr_sg S1 (if b = true then pr_wd (w + 1) else 0) = U at h3 y z
        have := pr_cl_b hm f (w + 1) o true (pr_st U) S2 p (show U.1 + 1 ≤ m by omega) (show U.2.1 + p + (if true = true ∧ w + 1 ≠ 0 then 1 else 0) ≤ U.1 + 1 by rw [y, z, if_pos (c := true = true ∧ w + 1 ≠ 0) ⟨rfl, by omega⟩]; omega) h3
        have e1 : (pr_st U).1 = U.1 + 1 := rfl
        have e2 : (pr_st U).2.1 = U.2.1 := rfl
        omega
      · rw [pr_f c] at h3
        cases h3
        rw [y, z]
        omega
end PB
