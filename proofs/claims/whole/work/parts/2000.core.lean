/-! The bench, abstractly: a t j is attribute t at place j. 0: length, people, hour, lines of the book, lines of the day; 1 arm rests; 2 warm; 3 seats; 4 .. 8 what is told. -/
abbrev mv_a : Type := Nat → Nat → Int
/-- the class's bench shows a -/
def mv_cB (G : mv_G) (a : mv_a) : Prop :=
  (G 1 0 0 = a 0 0 ∧ G 1 0 1 = a 0 1 ∧ G 1 0 2 = a 0 2 ∧ True) ∧ G 2 0 = a 1 ∧ G 4 0 = a 2 ∧ G 6 0 = a 3 ∧ G 5 1 = a 4 ∧ G 5 2 = a 5 ∧ G 5 3 = a 6 ∧ G 5 4 = a 7 ∧ G 5 5 = a 8 ∧ ∀ i : Nat, (i : Int) < a 0 0 → mv_Rch (a 1) (a 0 0) i (G 3 0 i)
/-- the reference shows a -/
def mv_mB (G : mv_G) (a : mv_a) : Prop :=
  (G 100 0 6 = a 0 0 - 40 ∧ G 100 0 8 = a 0 1 ∧ G 101 0 0 = a 0 2 ∧ True) ∧ (∀ i, i < 60 → G 104 0 i = a 1 i) ∧ (∀ i, i < 60 → G 101 0 (12 + i) = a 2 i + 1) ∧ (∀ p, p < 10 → G 101 0 (2 + p) = a 3 p + 1) ∧
  (∀ p, p < 10 → G 105 0 p = a 4 p) ∧ (∀ p, p < 10 → G 106 0 p = a 5 p) ∧ (∀ p, p < 10 → G 107 0 p = a 6 p) ∧ (∀ p, p < 10 → G 108 0 p = a 7 p) ∧ (∀ p, p < 10 → G 109 0 p = a 8 p)
/-- what is true of a bench's numbers -/
def mv_iB (a : mv_a) : Prop :=
  (1 ≤ a 0 0 ∧ a 0 0 ≤ 60 ∧ 0 ≤ a 0 1 ∧ a 0 1 ≤ 10 ∧ 0 ≤ a 0 2 ∧ a 0 2 ≤ 1000 ∧ 0 ≤ a 0 3 ∧ a 0 3 ≤ 150) ∧ (∀ i, i < 60 → a 1 i = 0 ∨ a 1 i = 1) ∧ (∀ i, i < 60 → -1 ≤ a 2 i ∧ a 2 i ≤ 1000) ∧ (∀ p, p < 10 → -1 ≤ a 3 p ∧ a 3 p < 60) ∧
  (∀ p : Nat, (p : Int) < a 0 1 → (1 ≤ a 4 p ∧ a 4 p ≤ 20) ∧ (0 ≤ a 5 p ∧ a 5 p ≤ 15) ∧ (0 ≤ a 6 p ∧ a 6 p ≤ 10) ∧ (0 ≤ a 7 p ∧ a 7 p ≤ 9) ∧ (0 ≤ a 8 p ∧ a 8 p ≤ 1)) ∧
  (∀ p : Nat, (p : Int) < a 0 1 → a 3 p ≠ -1 → a 3 p + a 4 p + a 6 p ≤ a 0 0 ∧ ∀ r : Nat, a 3 p < r → (r : Int) < a 3 p + a 4 p → a 1 r = 0) ∧
  (∀ p q : Nat, (p : Int) < a 0 1 → (q : Int) < a 0 1 → p ≠ q → a 3 p ≠ -1 → a 3 q ≠ -1 → a 3 p + a 4 p + a 6 p ≤ a 3 q ∨ a 3 q + a 4 q + a 6 q ≤ a 3 p)
/-- clear: no arm rest within, and all on the bench -/
def mv_clr (a : mv_a) (x w : Int) : Prop := 0 ≤ x ∧ x + w ≤ a 0 0 ∧ ∀ r : Nat, x < r → (r : Int) < x + w → a 1 r ≠ 1
def mv_tk (a : mv_a) (p : Nat) : Int := a 4 p + a 6 p
def mv_ap (k1 g1 k2 g2 : Int) : Int := if 0 < g1 ∧ g1 = g2 then 0 else if k1 < k2 then k2 else k1
theorem mv_Rch_clr {a : mv_a} {f : Int} {i : Nat} {w : Int} (h : mv_Rch (a 1) (a 0 0) i f) : (i : Int) + w ≤ f ↔ mv_clr a i w ∨ w ≤ 0 ∨ ((i : Int) + w ≤ f) := by
  constructor
  · intro h2; exact Or.inr (Or.inr h2)
  · rintro (⟨-, h2, h3⟩ | h2 | h2)
    · obtain ⟨r1, r2, r3, r4⟩ := h
      rcases r4 with r4 | r4
      · omega
      · by_cases hf : f < (i : Int) + w
        · exact absurd r4 (h3 f.toNat (by omega) (by omega))
        · omega
    · have := h.1; omega
    · exact h2
theorem mv_Rch_iff {a : mv_a} {f : Int} {i : Nat} {w : Int} (h : mv_Rch (a 1) (a 0 0) i f) : (i : Int) + w ≤ f ↔ (mv_clr a i w ∨ w ≤ 0) := by
  constructor
  · intro h2
    obtain ⟨r1, r2, r3, r4⟩ := h
    exact Or.inl ⟨by omega, by omega, fun r h3 h4 => r3 r (by omega) (by omega)⟩
  · intro h2
    exact (mv_Rch_clr h).mpr (by rcases h2 with h2 | h2; exact Or.inl h2; exact Or.inr (Or.inl h2))
section CO
variable {G : mv_G} {a : mv_a}
theorem fx_isPerson (h : mv_cB G a) (hi : mv_iB a) (p : Int) : ff_X2_isPerson [.inr (1, 0), .inl p] G = some (mv_b (0 ≤ p ∧ p < a 0 1), G) := by
  have e := h.1.2.1
  have b := hi.1
  refine mv_Kp.eq (mv_Kp.of (mv_JP.of (rg_X2_isPerson_0 p G) ?_))
  rw [e]
  refine mv_J.i (fun h1 => mv_J.r0 (Or.inl rfl) ⟨(mv_b0 (by omega)).symm, rfl⟩) (fun h1 => mv_J.i (fun h2 => mv_J.i (fun h3 => mv_J.r0 (Or.inr rfl) ⟨(mv_b1 (by omega)).symm, rfl⟩) (fun h3 => by omega)) (fun h2 => mv_J.r0 (Or.inl rfl) ⟨(mv_b0 (by omega)).symm, rfl⟩))
theorem fx_isSeated (h : mv_cB G a) (hi : mv_iB a) (p : Int) : ff_X2_isSeated [.inr (1, 0), .inl p] G = some (mv_b (0 ≤ p ∧ p < a 0 1 ∧ a 3 p.toNat ≠ -1), G) := by
  have e := h.2.2.2.1
  have b := hi.1
  refine mv_Kp.eq (mv_Kp.of (mv_JP.of (rg_X2_isSeated_0 p G) (mv_J.ce (fx_isPerson h hi p) ?_)))
  refine mv_J.i (fun h1 => mv_J.r0 (Or.inl rfl) ⟨(mv_b0 (fun h2 => mv_b_z.mp h1 ⟨h2.1, h2.2.1⟩)).symm, rfl⟩) (fun h1 => ?_)
  have h1 : 0 ≤ p ∧ p < a 0 1 := Classical.byContradiction fun h2 => h1 (mv_b0 h2)
  refine mv_J.ck (by omega) ?_
  rw [e]
  exact mv_J.i (fun h2 => mv_J.r0 (Or.inl rfl) ⟨(mv_b0 (fun h3 => h3.2.2 h2)).symm, rfl⟩) (fun h2 => mv_J.r0 (Or.inr rfl) ⟨(mv_b1 ⟨h1.1, h1.2, h2⟩).symm, rfl⟩)
theorem fx_isAside (h : mv_cB G a) (hi : mv_iB a) (p : Int) : ff_X2_isAside [.inr (1, 0), .inl p] G = some (mv_b (0 ≤ p ∧ p < a 0 1 ∧ a 3 p.toNat = -1), G) := by
  have e := h.2.2.2.1
  have b := hi.1
  refine mv_Kp.eq (mv_Kp.of (mv_JP.of (rg_X2_isAside_0 p G) (mv_J.ce (fx_isPerson h hi p) ?_)))
  refine mv_J.i (fun h1 => mv_J.r0 (Or.inl rfl) ⟨(mv_b0 (fun h2 => mv_b_z.mp h1 ⟨h2.1, h2.2.1⟩)).symm, rfl⟩) (fun h1 => ?_)
  have h1 : 0 ≤ p ∧ p < a 0 1 := Classical.byContradiction fun h2 => h1 (mv_b0 h2)
  refine mv_J.ck (by omega) ?_
  rw [e]
  exact mv_J.i (fun h2 => mv_J.r0 (Or.inr rfl) ⟨(mv_b1 ⟨h1.1, h1.2, h2⟩).symm, rfl⟩) (fun h2 => mv_J.r0 (Or.inl rfl) ⟨(mv_b0 (fun h3 => h2 h3.2.2)).symm, rfl⟩)
theorem mv_J.bt {M : mv_M} {P : Int → mv_G → Prop} {c : Prop} {A B : Option mv_O} (h1 : ¬ c → mv_J M P A) (h2 : c → mv_J M P B) : mv_J M P (if mv_b c = 0 then A else B) := mv_J.i (fun h => h1 (mv_b_z.mp h)) (fun h => h2 (Classical.byContradiction fun h3 => h (mv_b0 h3)))
theorem fx_takes (h : mv_cB G a) (hi : mv_iB a) (p : Nat) (hp : (p : Int) < a 0 1) : ff_X2_takes [.inr (1, 0), .inl p] G = some (mv_tk a p, G) := by
  have b := hi.1
  have t := hi.2.2.2.2.1 p hp
  refine mv_Kp.eq (mv_Kp.of (mv_JP.of (rg_X2_takes_0 p G) (mv_J.ce (fx_isPerson h hi p) (mv_J.bt (fun h1 => absurd (⟨by omega, hp⟩ : 0 ≤ (p : Int) ∧ (p : Int) < a 0 1) h1) (fun h1 => ?_)))))
  refine mv_J.ck (by omega) (mv_J.ck (by omega) (mv_J.ck (by omega) (mv_J.ck (by omega) (mv_J.ret ⟨?_, rfl⟩))))
  rw [h.2.2.2.2.1, h.2.2.2.2.2.2.1, Int.toNat_natCast, mv_ws (by omega)]
  rfl
theorem fx_isClear (h : mv_cB G a) (hi : mv_iB a) (x w : Int) (hw : 1 ≤ w ∧ w ≤ 60) : ff_X2_isClear [.inr (1, 0), .inl x, .inl w] G = some (mv_b (mv_clr a x w), G) := by
  have b := hi.1
  have e := h.1.1
  refine mv_Kp.eq (mv_Kp.of (mv_JP.of (rg_X2_isClear_0 x w G) ?_))
  rw [e]
  refine mv_J.i (fun h1 => mv_J.r0 (Or.inl rfl) ⟨(mv_b0 (fun h2 => by have := h2.1; omega)).symm, rfl⟩) (fun h1 => mv_J.i (fun h2 => mv_J.ck (by omega) ?_) (fun h2 => mv_J.r0 (Or.inl rfl) ⟨(mv_b0 (fun h3 => by have := h3.2.1; omega)).symm, rfl⟩))
  rw [mv_ws (by omega)]
  have hr := mv_Rch_iff (w := w) (h.2.2.2.2.2.2.2.2.2 x.toNat (by omega))
  rw [show ((x.toNat : Nat) : Int) = x by omega] at hr
  exact mv_J.i (fun h3 => mv_J.r0 (Or.inl rfl) ⟨(mv_b0 (fun h4 => by have := hr.mpr (Or.inl h4); omega)).symm, rfl⟩) (fun h3 => mv_J.r0 (Or.inr rfl) ⟨(mv_b1 ((hr.mp (by omega)).resolve_right (by omega))).symm, rfl⟩)
theorem fx_fits (h : mv_cB G a) (hi : mv_iB a) (p : Nat) (hp : (p : Int) < a 0 1) (x : Int) : ff_X2_fits [.inr (1, 0), .inl p, .inl x] G = some (mv_b (mv_clr a x (a 4 p) ∧ x + mv_tk a p ≤ a 0 0), G) := by
  have b := hi.1
  have t := hi.2.2.2.2.1 p hp
  have e4 := h.2.2.2.2.1
  have e6 := h.2.2.2.2.2.2.1
  refine mv_Kp.eq (mv_Kp.of (mv_JP.of (rg_X2_fits_0 p x G) (mv_J.ce (fx_isPerson h hi p) (mv_J.bt (fun h1 => absurd (⟨by omega, hp⟩ : 0 ≤ (p : Int) ∧ (p : Int) < a 0 1) h1) (fun h1 => ?_)))))
  rw [e4, Int.toNat_natCast]
  refine mv_J.ck (by omega) (mv_J.ck (by omega) (mv_J.ce (fx_isClear h hi x _ (by omega)) (mv_J.bt (fun h2 => mv_J.r0 (Or.inl rfl) ⟨(mv_b0 (fun h3 => h2 h3.1)).symm, rfl⟩) (fun h2 => ?_))))
  have := h2.1
  have := h2.2.1
  refine mv_J.ck (by omega) (mv_J.ck (by omega) (mv_J.ck (by omega) (mv_J.ck (by omega) ?_)))
  rw [h.1.1, e4, e6, mv_ws (x := x + a 4 p) (by omega), mv_ws (by omega)]
  have ek : mv_tk a p = a 4 p + a 6 p := rfl
  exact mv_J.i (fun h3 => mv_J.r0 (Or.inl rfl) ⟨(mv_b0 (fun h4 => by have := h4.2; omega)).symm, rfl⟩) (fun h3 => mv_J.r0 (Or.inr rfl) ⟨(mv_b1 ⟨h2, by omega⟩).symm, rfl⟩)
theorem mv_max_eq (x y : Int) (G : mv_G) : mv_max [.inl x, .inl y] G = some (if x < y then y else x, G) := rfl
theorem mv_min_eq (x y : Int) (G : mv_G) : mv_min [.inl x, .inl y] G = some (if y < x then y else x, G) := rfl
theorem fx_apart (h : mv_cB G a) (hi : mv_iB a) (p q : Nat) (hp : (p : Int) < a 0 1) (hq : (q : Int) < a 0 1) : ff_X2_apart [.inr (1, 0), .inl p, .inl q] G = some (mv_ap (a 5 p) (a 7 p) (a 5 q) (a 7 q), G) := by
  have b := hi.1
  have e5 := h.2.2.2.2.2.1
  have e7 := h.2.2.2.2.2.2.2.1
  refine mv_Kp.eq (mv_Kp.of (mv_JP.of (rg_X2_apart_0 p q G) (mv_J.ce (fx_isPerson h hi p) (mv_J.bt (fun h1 => absurd (⟨by omega, hp⟩ : 0 ≤ (p : Int) ∧ (p : Int) < a 0 1) h1) (fun h1 => mv_J.ce (fx_isPerson h hi q) (mv_J.bt (fun h1 => absurd (⟨by omega, hq⟩ : 0 ≤ (q : Int) ∧ (q : Int) < a 0 1) h1) (fun h2 => ?_)))))))
  rw [e5, e7, Int.toNat_natCast, Int.toNat_natCast]
  unfold mv_ap
  refine mv_J.ck (by omega) (mv_J.ck (by omega) (mv_J.i (fun h3 => mv_J.ck (by omega) (mv_J.ck (by omega) (mv_J.i (fun h4 => mv_J.ret ⟨by rw [if_pos ⟨h3, h4⟩], rfl⟩) (fun h4 => ?_)))) (fun h3 => ?_)))
  · exact mv_J.ck (by omega) (mv_J.ck (by omega) (mv_J.ck (by omega) (mv_J.ck (by omega) (mv_J.ce (mv_max_eq _ _ _) (mv_J.ret ⟨(if_neg (fun h5 => h4 h5.2)).symm, rfl⟩)))))
  · exact mv_J.ck (by omega) (mv_J.ck (by omega) (mv_J.ck (by omega) (mv_J.ck (by omega) (mv_J.ce (mv_max_eq _ _ _) (mv_J.ret ⟨(if_neg (fun h5 => h3 h5.1)).symm, rfl⟩)))))
/-- a loop over the persons, that only reads: from p on -/
theorem fx_isSatOver (h : mv_cB G a) (hi : mv_iB a) (x : Int) : ff_X2_isSatOver [.inr (1, 0), .inl x] G = some (mv_b (∃ p : Nat, (p : Int) < a 0 1 ∧ a 3 p ≠ -1 ∧ a 3 p < x ∧ x < a 3 p + a 4 p), G) := by
  have b := hi.1
  have e1 := h.1.2.1
  have e3 := h.2.2.2.1
  have e4 := h.2.2.2.2.1
  refine mv_Kp.eq (mv_Kp.of (mv_JP.of (rg_X2_isSatOver_0 x G) (mv_J.cut ?_)))
  have key : ∀ n p : Nat, p + n = (a 0 1).toNat → (∀ q : Nat, q < p → ¬ (a 3 q ≠ -1 ∧ a 3 q < x ∧ x < a 3 q + a 4 q)) → mv_JP mm_X2_isSatOver (fun r G' => r = mv_b (∃ p : Nat, (p : Int) < a 0 1 ∧ a 3 p ≠ -1 ∧ a 3 p < x ∧ x < a 3 p + a 4 p) ∧ G' = G) 2 [some (.inr (1, 0)), some (.inl x), some (.inl (p : Int))] G := by
    intro n
    induction n with
    | zero =>
      intro p hp hn
      refine mv_JP.of (rg_X2_isSatOver_2 x p G) (mv_J.f (by omega) (mv_J.r0 (Or.inl rfl) ⟨(mv_b0 ?_).symm, rfl⟩))
      rintro ⟨q, h1, h2⟩
      exact hn q (by omega) h2
    | succ n ih =>
      intro p hp hn
      have s := hi.2.2.2.1 p (by omega)
      have t := hi.2.2.2.2.1 p (by omega)
      have nx : ¬ (a 3 p ≠ -1 ∧ a 3 p < x ∧ x < a 3 p + a 4 p) → mv_JP mm_X2_isSatOver (fun r G' => r = mv_b (∃ p : Nat, (p : Int) < a 0 1 ∧ a 3 p ≠ -1 ∧ a 3 p < x ∧ x < a 3 p + a 4 p) ∧ G' = G) 2 [some (.inr (1, 0)), some (.inl x), some (.inl (mv_w ((p : Int) + 1)))] G := fun h1 => by
        rw [mv_ws (by omega)]
        exact ih (p + 1) (by omega) (fun q hq => by
          rcases Nat.lt_or_ge q p with h2 | h2
          · exact hn q h2
          · rw [show q = p by omega]; exact h1)
      refine mv_JP.of (rg_X2_isSatOver_2 x p G) ?_
      rw [e1, e3, e4, Int.toNat_natCast]
      refine mv_J.t (by omega) (mv_J.ck (by omega) (mv_J.i (fun h1 => mv_J.cut (nx (fun h2 => h2.1 h1))) (fun h1 => mv_J.ck (by omega) (mv_J.i (fun h2 => mv_J.ck (by omega) (mv_J.ck (by omega) (mv_J.ck (by omega) ?_))) (fun h2 => mv_J.cut (nx (fun h3 => h2 h3.2.1)))))))
      rw [mv_ws (x := a 3 p + a 4 p) (by omega)]
      exact mv_J.i (fun h3 => mv_J.r0 (Or.inr rfl) ⟨(mv_b1 ⟨p, by omega, h1, h2, h3⟩).symm, rfl⟩) (fun h3 => mv_J.cut (nx (fun h4 => h3 h4.2.2)))
  exact key (a 0 1).toNat 0 (by omega) (fun q hq => by omega)
end CO
