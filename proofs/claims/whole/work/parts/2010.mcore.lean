/-! The reference's small questions, where its bench shows a. -/
section MC
variable {G : mv_G} {a : mv_a}
theorem gx_isIn (G : mv_G) (v lo hi : Int) : ff_X12_isIn [.inr (100, 0), .inl v, .inl lo, .inl hi] G = some (mv_b (lo ≤ v ∧ v ≤ hi), G) :=
  mv_Kp.eq (mv_Kp.of (mv_JP.of (rg_X12_isIn_0 v lo hi G) (mv_J.i (fun h => mv_J.r0 (Or.inl rfl) ⟨(mv_b0 (by omega)).symm, rfl⟩) (fun h => mv_J.i (fun h2 => mv_J.r0 (Or.inl rfl) ⟨(mv_b0 (by omega)).symm, rfl⟩) (fun h2 => mv_J.r0 (Or.inr rfl) ⟨(mv_b1 (by omega)).symm, rfl⟩)))))
theorem gx_greater (G : mv_G) (x y : Int) : ff_X12_greater [.inr (100, 0), .inl x, .inl y] G = some (if x < y then y else x, G) :=
  mv_Kp.eq (mv_Kp.of (mv_JP.of (rg_X12_greater_0 x y G) (mv_J.i (fun h => mv_J.ret ⟨by rw [if_neg (by omega)], rfl⟩) (fun h => mv_J.ret ⟨by split <;> omega, rfl⟩))))
theorem gx_apartOf (G : mv_G) (k1 g1 k2 g2 : Int) : ff_X12_apartOf [.inr (100, 0), .inl k1, .inl g1, .inl k2, .inl g2] G = some (mv_ap k1 g1 k2 g2, G) := by
  refine mv_Kp.eq (mv_Kp.of (mv_JP.of (rg_X12_apartOf_0 k1 g1 k2 g2 G) ?_))
  unfold mv_ap
  exact mv_J.i (fun h => mv_J.i (fun h2 => mv_J.ret ⟨by rw [if_pos ⟨h, h2⟩], rfl⟩) (fun h2 => mv_J.ce (gx_greater _ _ _) (mv_J.ret ⟨(if_neg (fun h3 => h2 h3.2)).symm, rfl⟩))) (fun h => mv_J.ce (gx_greater _ _ _) (mv_J.ret ⟨(if_neg (fun h3 => h h3.1)).symm, rfl⟩))
theorem gx_length (h : mv_mB G a) (hi : mv_iB a) : ff_X12_length [.inr (100, 0)] G = some (a 0 0, G) := by
  have b := hi.1
  refine mv_Kp.eq (mv_Kp.of (mv_JP.of (rg_X12_length_0 G) (mv_J.ret ⟨?_, rfl⟩)))
  rw [h.1.1, mv_ws (by omega)]
  omega
theorem gx_isPerson (h : mv_mB G a) (p : Int) : ff_X12_isPerson [.inr (100, 0), .inl p] G = some (mv_b (0 ≤ p ∧ p < a 0 1), G) := by
  refine mv_Kp.eq (mv_Kp.of (mv_JP.of (rg_X12_isPerson_0 p G) ?_))
  rw [h.1.2.1]
  exact mv_J.i (fun h => mv_J.r0 (Or.inl rfl) ⟨(mv_b0 (by omega)).symm, rfl⟩) (fun h => mv_J.i (fun h2 => mv_J.r0 (Or.inr rfl) ⟨(mv_b1 (by omega)).symm, rfl⟩) (fun h2 => mv_J.r0 (Or.inl rfl) ⟨(mv_b0 (by omega)).symm, rfl⟩))
theorem gx_sits (h : mv_mB G a) (hi : mv_iB a) (p : Nat) (hp : p < 10) : ff_X12_sits [.inr (100, 0), .inl p] G = some (mv_b (a 3 p ≠ -1), G) := by
  have s := hi.2.2.2.1 p hp
  refine mv_Kp.eq (mv_Kp.of (mv_JP.of (rg_X12_sits_0 p G) ?_))
  rw [mv_ws (by omega)]
  refine mv_J.ck (by omega) ?_
  rw [show ((2 : Int) + (p : Int)).toNat = 2 + p by omega, h.2.2.2.1 p hp]
  exact mv_J.i (fun h2 => mv_J.r0 (Or.inr rfl) ⟨(mv_b1 (by omega)).symm, rfl⟩) (fun h2 => mv_J.r0 (Or.inl rfl) ⟨(mv_b0 (by omega)).symm, rfl⟩)
theorem gx_inchOf (h : mv_mB G a) (hi : mv_iB a) (p : Nat) (hp : p < 10) : ff_X12_inchOf [.inr (100, 0), .inl p] G = some (a 3 p, G) := by
  have s := hi.2.2.2.1 p hp
  refine mv_Kp.eq (mv_Kp.of (mv_JP.of (rg_X12_inchOf_0 p G) ?_))
  rw [mv_ws (x := 2 + (p : Int)) (by omega)]
  refine mv_J.ck (by omega) (mv_J.ret ⟨?_, rfl⟩)
  rw [show ((2 : Int) + (p : Int)).toNat = 2 + p by omega, h.2.2.2.1 p hp, mv_ws (by omega)]
  omega
theorem gx_takesOf (h : mv_mB G a) (hi : mv_iB a) (p : Nat) (hp : (p : Int) < a 0 1) : ff_X12_takesOf [.inr (100, 0), .inl p] G = some (mv_tk a p, G) := by
  have b := hi.1
  have t := hi.2.2.2.2.1 p hp
  refine mv_Kp.eq (mv_Kp.of (mv_JP.of (rg_X12_takesOf_0 p G) (mv_J.ck (by omega) (mv_J.ck (by omega) (mv_J.ret ⟨?_, rfl⟩)))))
  rw [Int.toNat_natCast, h.2.2.2.2.1 p (by omega), h.2.2.2.2.2.2.1 p (by omega), mv_ws (by omega)]
  rfl
theorem gx_isAside (h : mv_mB G a) (hi : mv_iB a) (p : Int) : ff_X12_isAside [.inr (100, 0), .inl p] G = some (mv_b (0 ≤ p ∧ p < a 0 1 ∧ a 3 p.toNat = -1), G) := by
  have b := hi.1
  refine mv_Kp.eq (mv_Kp.of (mv_JP.of (rg_X12_isAside_0 p G) (mv_J.ce (gx_isPerson h p) (mv_J.bt (fun h1 => mv_J.r0 (Or.inl rfl) ⟨(mv_b0 (fun h2 => h1 ⟨h2.1, h2.2.1⟩)).symm, rfl⟩) (fun h1 => ?_)))))
  have e := gx_sits h hi p.toNat (by omega)
  rw [show ((p.toNat : Nat) : Int) = p by omega] at e
  exact mv_J.ce e (mv_J.bt (fun h2 => mv_J.r0 (Or.inr rfl) ⟨(mv_b1 ⟨h1.1, h1.2, Classical.byContradiction h2⟩).symm, rfl⟩) (fun h2 => mv_J.r0 (Or.inl rfl) ⟨(mv_b0 (fun h3 => h2 h3.2.2)).symm, rfl⟩))
theorem gx_isOverRest (h : mv_mB G a) (hi : mv_iB a) (x w : Int) (hx : 0 ≤ x) (hw : 1 ≤ w) (hL : x + w ≤ a 0 0) : ff_X12_isOverRest [.inr (100, 0), .inl x, .inl w] G = some (mv_b (¬ mv_clr a x w), G) := by
  have b := hi.1
  refine mv_Kp.eq (mv_Kp.of (mv_JP.of (rg_X12_isOverRest_0 x w G) (mv_J.cut ?_)))
  rw [mv_ws (by omega)]
  have key : ∀ n r : Nat, x < r → (r : Int) + n = x + w → (∀ q : Nat, x < q → q < r → a 1 q ≠ 1) → mv_JP mm_X12_isOverRest (fun r G' => r = mv_b (¬ mv_clr a x w) ∧ G' = G) 4 [some (.inr (100, 0)), some (.inl x), some (.inl w), some (.inl (r : Int))] G := by
    intro n
    induction n with
    | zero =>
      intro r h1 h2 h3
      refine mv_JP.of (rg_X12_isOverRest_4 x w r G) ?_
      rw [mv_ws (x := x + w) (by omega)]
      exact mv_J.f (by omega) (mv_J.r0 (Or.inl rfl) ⟨(mv_b0 (fun h4 => h4 ⟨hx, hL, fun q h5 h6 => h3 q h5 (by omega)⟩)).symm, rfl⟩)
    | succ n ih =>
      intro r h1 h2 h3
      refine mv_JP.of (rg_X12_isOverRest_4 x w r G) ?_
      rw [mv_ws (x := x + w) (by omega)]
      have e := h.2.1 r (by omega)
      have v := hi.2.1 r (by omega)
      refine mv_J.t (by omega) (mv_J.ck (by omega) ?_)
      rw [Int.toNat_natCast, e, mv_ws (by omega)]
      refine mv_J.i (fun h4 => mv_J.cut ?_) (fun h4 => mv_J.r0 (Or.inr rfl) ⟨(mv_b1 (fun h5 => h5.2.2 r h1 (by omega) (by omega))).symm, rfl⟩)
      exact ih (r + 1) (by omega) (by omega) (fun q h5 h6 => by
        rcases Nat.lt_or_ge q r with h7 | h7
        · exact h3 q h5 h7
        · rw [show q = r by omega]; omega)
  have := key (w - 1).toNat (x + 1).toNat (by omega) (by omega) (fun q h1 h2 => by omega)
  rw [show (((x + 1).toNat : Nat) : Int) = x + 1 by omega] at this
  exact this
end MC
