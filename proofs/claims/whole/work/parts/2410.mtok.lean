/-! TEXT: its tokens, the reference. -/
/-- the reference's words, in the class's numbers -/
def mv_pm (w : Nat) : Nat := if w < 6 then w else if w < 18 then w + 3 else w - 12
def mv_wsm : Nat → Nat
  | 0 => 0
  | w + 1 => mv_wsm w + mv_wln (mv_pm w) + 1
theorem mv_wrd_tb : ∀ w : Nat, w < 21 → mv_pm w < 21 ∧ mv_wsm w + mv_wln (mv_pm w) < 103 ∧ ∀ j : Nat, j < mv_wln (mv_pm w) + 1 → mv_wo.getD (mv_wsm w + 1 + j) 0 = mv_wc (mv_pm w) j := by decide +kernel
noncomputable def mv_wfm (t : Nat → Int) (a b : Nat) : Nat → Nat → Int
  | 0, _ => -1
  | k + 1, w => @ite _ (mv_isw t a b (mv_pm w)) (Classical.propDecidable _) (w : Int) (mv_wfm t a b k (w + 1))
theorem mv_wfm_sp {t : Nat → Int} {a b : Nat} : ∀ k w, (mv_wfm t a b k w = -1 ∧ ∀ x, w ≤ x → x < w + k → ¬ mv_isw t a b (mv_pm x)) ∨ ∃ x : Nat, mv_wfm t a b k w = x ∧ w ≤ x ∧ x < w + k ∧ mv_isw t a b (mv_pm x)
  | 0, w => Or.inl ⟨rfl, fun x h1 h2 => by omega⟩
  | k + 1, w => by
    unfold mv_wfm
    by_cases c : mv_isw t a b (mv_pm w)
    · rw [if_pos c]
      exact Or.inr ⟨w, rfl, Nat.le_refl _, by omega, c⟩
    · rw [if_neg c]
      rcases mv_wfm_sp (t := t) (a := a) (b := b) k (w + 1) with ⟨h1, h2⟩ | ⟨x, h1, h2, h3, h4⟩
      · refine Or.inl ⟨h1, fun x h3 h4 => ?_⟩
        by_cases e : x = w
        · exact e ▸ c
        · exact h2 x (by omega) (by omega)
      · exact Or.inr ⟨x, h1, by omega, by omega, h4⟩
/-- both find the same word -/
theorem mv_wdx_m {t : Nat → Int} {a b : Nat} : (mv_wdx t a b = -1 ∧ mv_wfm t a b 21 0 = -1) ∨ ∃ w : Nat, w < 21 ∧ mv_wfm t a b 21 0 = w ∧ mv_wdx t a b = ((mv_pm w : Nat) : Int) := by
  have onto : ∀ x : Nat, x < 21 → ∃ w : Nat, w < 21 ∧ mv_pm w = x := by decide
  have lt : ∀ w : Nat, w < 21 → mv_pm w < 21 := by decide
  rcases mv_wf_sp (t := t) (a := a) (b := b) 21 0 with ⟨h1, h2⟩ | ⟨x, h1, h2, h3, h4⟩ <;> rcases mv_wfm_sp (t := t) (a := a) (b := b) 21 0 with ⟨g1, g2⟩ | ⟨y, g1, g2, g3, g4⟩
  · exact Or.inl ⟨h1, g1⟩
  · exact absurd g4 (h2 _ (Nat.zero_le _) (by have := lt y (by omega); omega))
  · obtain ⟨w, w1, w2⟩ := onto x (by omega)
    exact absurd (w2 ▸ h4) (g2 w (Nat.zero_le _) (by omega))
  · refine Or.inr ⟨y, by omega, g1, ?_⟩
    rw [← mv_isw_1 (by omega) (lt y (by omega)) h4 g4]
    exact h1
/-- the reference's token and value for the class's -/
def mv_tv (v tok val : Int) : Prop := (v = -2 ∧ tok = 0) ∨ (v = -1 ∧ tok = 1) ∨ (0 ≤ v ∧ v ≤ 9999 ∧ tok = 3 ∧ val = v) ∨ (∃ w : Nat, w < 21 ∧ v = 20000 + (mv_pm w : Int) ∧ tok = 2 ∧ val = w) ∨ (tok = 4 ∧ v = 30000 + val ∧ mv_sgn val = true)
section MT
variable {G : mv_G} {t : Nat → Int} {n : Nat}
theorem gx_isLetter (G : mv_G) (c : Int) : ff_X12_isLetter [.inr (100, 0), .inl c] G = some (if mv_ltr c = true then 1 else 0, G) := by
  refine mv_Kp.eq (mv_Kp.of (mv_JP.of (rg_X12_isLetter_0 c G) ?_))
  unfold mv_ltr
  refine mv_J.ce (gx_isIn _ _ _ _) (mv_J.bt (fun h1 => mv_J.ce (gx_isIn _ _ _ _) (mv_J.bt (fun h2 => mv_J.r0 (Or.inl rfl) ⟨?_, rfl⟩) (fun h2 => mv_J.r0 (Or.inr rfl) ⟨?_, rfl⟩))) (fun h1 => mv_J.r0 (Or.inr rfl) ⟨?_, rfl⟩))
  · exact (if_neg (fun h => by have := of_decide_eq_true h; omega)).symm
  · exact (if_pos (decide_eq_true (Or.inr h2))).symm
  · exact (if_pos (decide_eq_true (Or.inl h1))).symm
theorem gx_isDigit (G : mv_G) (c : Int) : ff_X12_isDigit [.inr (100, 0), .inl c] G = some (if mv_dgt c = true then 1 else 0, G) := by
  refine mv_Kp.eq (mv_Kp.of (mv_JP.of (rg_X12_isDigit_0 c G) ?_))
  unfold mv_dgt
  have h0 := gx_isIn G c 48 57
  by_cases h : 48 ≤ c ∧ c ≤ 57
  · rw [mv_b1 h] at h0
    exact mv_J.ce h0 (mv_J.r0 (Or.inr rfl) ⟨(if_pos (decide_eq_true h)).symm, rfl⟩)
  · rw [mv_b0 h] at h0
    exact mv_J.ce h0 (mv_J.r0 (Or.inl rfl) ⟨(if_neg (fun h2 => h (of_decide_eq_true h2))).symm, rfl⟩)
theorem gx_isMarkSign (G : mv_G) (c : Int) : ff_X12_isMarkSign [.inr (100, 0), .inl c] G = some (if mv_sgn c = true then 1 else 0, G) := by
  refine mv_Kp.eq (mv_Kp.of (mv_JP.of (rg_X12_isMarkSign_0 c G) ?_))
  unfold mv_sgn
  have y : (c = 59 ∨ c = 43 ∨ c = 45 ∨ c = 42 ∨ c = 47 ∨ c = 40 ∨ c = 41 ∨ c = 60 ∨ c = 61 ∨ c = 62) → mv_J mm_X12_isMarkSign (fun a b => a = (if decide (c = 59 ∨ c = 43 ∨ c = 45 ∨ c = 42 ∨ c = 47 ∨ c = 40 ∨ c = 41 ∨ c = 60 ∨ c = 61 ∨ c = 62) = true then 1 else 0) ∧ b = G) (mv_rzc 0 1 1 (some (.inl (1, G)))) := fun h => mv_J.r0 (Or.inr rfl) ⟨by rw [if_pos (decide_eq_true h)], rfl⟩
  refine mv_J.i (fun h => y (by omega)) (fun h1 => mv_J.i (fun h => y (by omega)) (fun h2 => mv_J.i (fun h => y (by omega)) (fun h3 => mv_J.i (fun h => y (by omega)) (fun h4 => mv_J.i (fun h => y (by omega)) (fun h5 => mv_J.i (fun h => y (by omega)) (fun h6 => mv_J.i (fun h => y (by omega)) (fun h7 => mv_J.i (fun h => y (by omega)) (fun h8 => mv_J.i (fun h => y (by omega)) (fun h9 => mv_J.i (fun h => y (by omega)) (fun h10 => mv_J.r0 (Or.inl rfl) ⟨?_, rfl⟩))))))))))
  rw [if_neg (fun h => by have := of_decide_eq_true h; omega)]
set_option maxRecDepth 100000 in
theorem gx_raw (hn : n ≤ 400) (hs : G 100 0 16 = n) (hT : ∀ j, j < n → G 111 0 j = t j) (i : Nat) : ff_X12_raw [.inr (100, 0), .inl i] G = some (if i < n then t i else -1, G) := by
  refine mv_Kp.eq (mv_Kp.of (mv_JP.of (rg_X12_raw_0 i G) ?_))
  rw [hs]
  refine mv_J.i (fun h => mv_J.ck (by omega) (mv_J.ret ⟨?_, rfl⟩)) (fun h => mv_J.ret ⟨?_, rfl⟩)
  · rw [Int.toNat_natCast, hT i (by omega), if_pos (by omega)]
  · rw [if_neg (by omega)]
set_option maxHeartbeats 1000000 in
set_option maxRecDepth 100000 in
theorem gx_wordAt (hn : n ≤ 400) (hT : ∀ j, j < n → G 111 0 j = t j) (h112 : ∀ j, G 112 0 j = mv_wo.getD j 0) (a b : Nat) (hab : a < b) (hbn : b ≤ n) (hl : ∀ j, a ≤ j → j < b → t j ≠ 32) : ff_X12_wordAt [.inr (100, 0), .inl a, .inl b] G = some (mv_wfm t a b 21 0, G) := by
  have words : ∀ (k w : Nat), w + k = 21 → mv_JP mm_X12_wordAt (fun r G' => r = mv_wfm t a b k w ∧ G' = G) 5 [some (.inr (100, 0)), some (.inl (a : Int)), some (.inl (b : Int)), some (.inl ((w : Int) - 1)), some (.inl ((mv_wsm w : Nat) : Int)), none] G := by
    intro k
    induction k with
    | zero =>
      intro w hw
      have e : mv_wsm w = 103 := by rw [show w = 21 by omega]; decide
      refine mv_JP.of (rg_X12_wordAt_5 _ _ _ _ G) ?_
      rw [e]
      exact mv_J.f (by omega) (mv_J.ret ⟨rfl, rfl⟩)
    | succ k ih =>
      intro w hw
      obtain ⟨t1, t2, t3⟩ := mv_wrd_tb w (by omega)
      obtain ⟨q1, q2, q3, q4⟩ := mv_wc_tb (mv_pm w) t1
      have next : ¬ mv_isw t a b (mv_pm w) → mv_JP mm_X12_wordAt (fun r G' => r = mv_wfm t a b (k + 1) w ∧ G' = G) 93 [some (.inr (100, 0)), some (.inl (a : Int)), some (.inl (b : Int)), some (.inl (w : Int)), some (.inl ((mv_wsm w : Nat) + 1 : Int)), none] G := fun hno => by
        have e : mv_wfm t a b (k + 1) w = mv_wfm t a b k (w + 1) := if_neg hno
        rw [e]
        have go : ∀ (d j : Nat), j + d = mv_wln (mv_pm w) → mv_JP mm_X12_wordAt (fun r G' => r = mv_wfm t a b k (w + 1) ∧ G' = G) 93 [some (.inr (100, 0)), some (.inl (a : Int)), some (.inl (b : Int)), some (.inl (w : Int)), some (.inl ((mv_wsm w + 1 + j : Nat) : Int)), none] G := by
          intro d
          induction d with
          | zero =>
            intro j hj
            have c1 := t3 j (by omega)
            rw [show j = mv_wln (mv_pm w) by omega] at c1
            rw [q3] at c1
            refine mv_JP.of (rg_X12_wordAt_93 _ _ _ _ G) (mv_J.ck (by omega) ?_)
            rw [Int.toNat_natCast, h112, show j = mv_wln (mv_pm w) by omega, c1]
            refine mv_J.t rfl (mv_J.cut ?_)
            have := ih (w + 1) (by omega)
            rw [show ((w + 1 : Nat) : Int) - 1 = w by omega, show mv_wsm (w + 1) = mv_wsm w + 1 + mv_wln (mv_pm w) by rw [show mv_wsm (w + 1) = mv_wsm w + mv_wln (mv_pm w) + 1 from rfl]; omega] at this
            exact this
          | succ d ihd =>
            intro j hj
            have c1 := t3 j (by omega)
            refine mv_JP.of (rg_X12_wordAt_93 _ _ _ _ G) (mv_J.ck (by omega) ?_)
            rw [Int.toNat_natCast, h112, c1, mv_ws (by omega)]
            exact mv_J.f (q4 j (by omega)) (mv_J.cut (ihd (j + 1) (by omega)))
        exact go (mv_wln (mv_pm w)) 0 (by omega)
      have inner : ∀ (d o : Nat), o + d = mv_wln (mv_pm w) → a + o ≤ b → mv_mtc t a (mv_pm w) o → mv_JP mm_X12_wordAt (fun r G' => r = mv_wfm t a b (k + 1) w ∧ G' = G) 19 [some (.inr (100, 0)), some (.inl (a : Int)), some (.inl (b : Int)), some (.inl (w : Int)), some (.inl ((mv_wsm w : Nat) : Int)), some (.inl (o : Int))] G := by
        intro d
        induction d with
        | zero =>
          intro o ho hob hm
          have eo : o = mv_wln (mv_pm w) := by omega
          have c1 := t3 o (by omega)
          refine mv_JP.of (rg_X12_wordAt_19 _ _ _ _ _ G) ?_
          rw [mv_ws (x := (a : Int) + o) (by omega), mv_ws (x := ((mv_wsm w : Nat) : Int) + 1) (by omega), mv_ws (x := ((mv_wsm w : Nat) : Int) + 1 + (o : Int)) (by omega), show Int.toNat (((mv_wsm w : Nat) : Int) + 1 + (o : Int)) = mv_wsm w + 1 + o by omega, h112, c1, show Int.toNat ((a : Int) + o) = a + o by omega]
          rw [eo, q3]
          refine mv_J.i (fun h1 => ?_) (fun h1 => ?_)
          · rw [mv_ckp (n := 400) (by omega), mv_ckp (n := 104) (by omega), hT (a + mv_wln (mv_pm w)) (by omega)]
            have := hl (a + mv_wln (mv_pm w)) (by omega) (by omega)
            refine mv_J.f (fun h => this h.symm) (mv_J.f (by omega) (mv_J.cut (next (fun h => by have := h.1; omega))))
          · refine mv_J.t (by omega) (mv_J.ck (by omega) (mv_J.t rfl (mv_J.ret ⟨?_, rfl⟩)))
            have : mv_isw t a b (mv_pm w) := ⟨by omega, eo ▸ hm⟩
            unfold mv_wfm
            rw [if_pos this]
        | succ d ihd =>
          intro o ho hob hm
          have c1 := t3 o (by omega)
          have c2 := q4 o (by omega)
          refine mv_JP.of (rg_X12_wordAt_19 _ _ _ _ _ G) ?_
          rw [mv_ws (x := (a : Int) + o) (by omega), mv_ws (x := ((mv_wsm w : Nat) : Int) + 1) (by omega), mv_ws (x := ((mv_wsm w : Nat) : Int) + 1 + (o : Int)) (by omega), show Int.toNat (((mv_wsm w : Nat) : Int) + 1 + (o : Int)) = mv_wsm w + 1 + o by omega, h112, c1, show Int.toNat ((a : Int) + o) = a + o by omega, mv_ws (x := (o : Int) + 1) (by omega)]
          refine mv_J.i (fun h1 => ?_) (fun h1 => ?_)
          · rw [mv_ckp (n := 400) (by omega), mv_ckp (n := 104) (by omega), hT (a + o) (by omega)]
            refine mv_J.i (fun h2 => mv_J.cut ?_) (fun h2 => mv_J.f (by omega) (mv_J.cut (next (fun h => h2 (h.2 o (by omega)).symm))))
            exact ihd (o + 1) (by omega) (by omega) (fun j hj => by
              by_cases e : j = o
              · exact e ▸ h2.symm
              · exact hm j (by omega))
          · exact mv_J.t (by omega) (mv_J.ck (by omega) (mv_J.f c2 (mv_J.cut (next (fun h => by have := h.1; omega)))))
      refine mv_JP.of (rg_X12_wordAt_5 _ _ _ _ G) (mv_J.t (by omega) (mv_J.cut ?_))
      rw [mv_ws (by omega), show (w : Int) - 1 + 1 = w by omega]
      exact inner (mv_wln (mv_pm w)) 0 (by omega) (by omega) (fun j hj => absurd hj (Nat.not_lt_zero j))
  exact mv_Kp.eq (mv_Kp.of (mv_JP.of (rg_X12_wordAt_0 a b G) (mv_J.cut (words 21 0 rfl))))
end MT
