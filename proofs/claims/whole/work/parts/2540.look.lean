/-! of, at, book, look. -/
noncomputable def st_ct (P : Nat → Prop) : Nat → Nat
  | 0 => 0
  | n + 1 => st_ct P n + @ite _ (P n) (Classical.propDecidable _) 1 0
theorem st_ct_t {P : Nat → Prop} {n : Nat} (h : P n) : st_ct P (n + 1) = st_ct P n + 1 := by
  show st_ct P n + @ite _ (P n) (Classical.propDecidable _) 1 0 = _
  rw [if_pos h]
theorem st_ct_f {P : Nat → Prop} {n : Nat} (h : ¬ P n) : st_ct P (n + 1) = st_ct P n := by
  show st_ct P n + @ite _ (P n) (Classical.propDecidable _) 1 0 = _
  rw [if_neg h]
  rfl
theorem st_ct_le {P : Nat → Prop} : ∀ n, st_ct P n ≤ n
  | 0 => Nat.le_refl _
  | n + 1 => by
    have := st_ct_le (P := P) n
    by_cases c : P n
    · rw [st_ct_t c]; omega
    · rw [st_ct_f c]; omega
theorem st_ct_cut {P Q : Nat → Prop} {s e : Nat} (hse : s ≤ e) (h : ∀ k, Q k ↔ P k ∧ ¬ (s ≤ k ∧ k < e)) (hp : ∀ k, s ≤ k → k < e → P k) : ∀ n, st_ct P n = st_ct Q n + (if n ≤ s then 0 else if n ≤ e then n - s else e - s)
  | 0 => by rw [if_pos (Nat.zero_le _)]; rfl
  | n + 1 => by
    have ih := st_ct_cut hse h hp n
    by_cases c : s ≤ n ∧ n < e
    · rw [st_ct_t (hp n c.1 c.2), st_ct_f (fun q => ((h n).mp q).2 c), ih]
      repeat' split
      all_goals omega
    · by_cases d : P n
      · rw [st_ct_t d, st_ct_t ((h n).mpr ⟨d, c⟩), ih]
        repeat' split
        all_goals omega
      · rw [st_ct_f d, st_ct_f (fun q => d ((h n).mp q).1), ih]
        repeat' split
        all_goals omega
noncomputable def st_f1 (P : Nat → Prop) : Nat → Nat → Int
  | 0, _ => -1
  | k + 1, i => @ite _ (P i) (Classical.propDecidable _) (i : Int) (st_f1 P k (i + 1))
theorem st_f1_t {P : Nat → Prop} {k i : Nat} (h : P i) : st_f1 P (k + 1) i = i := if_pos h
theorem st_f1_f {P : Nat → Prop} {k i : Nat} (h : ¬ P i) : st_f1 P (k + 1) i = st_f1 P k (i + 1) := if_neg h
theorem st_f1_n {P : Nat → Prop} : ∀ k i, st_f1 P k i = -1 ↔ ∀ q, i ≤ q → q < i + k → ¬ P q
  | 0, i => ⟨fun _ q h1 h2 => by omega, fun _ => rfl⟩
  | k + 1, i => by
    have ih := st_f1_n (P := P) k (i + 1)
    by_cases c : P i
    · rw [st_f1_t c]
      exact ⟨fun h => by omega, fun h => absurd c (h i (Nat.le_refl _) (by omega))⟩
    · rw [st_f1_f c, ih]
      exact ⟨fun h q h1 h2 => by
        by_cases e : q = i
        · exact e ▸ c
        · exact h q (by omega) (by omega), fun h q h1 h2 => h q (by omega) (by omega)⟩
/-- one's place among those who sit -/
noncomputable def st_rk (a : mv_a) (p : Nat) : Int := if a 3 p = -1 then -1 else ((st_ct (fun q => a 3 q ≠ -1 ∧ a 3 q < a 3 p) (mv_P a) : Nat) : Int)
/-- one takes up an inch -/
def st_on (a : mv_a) (x : Int) (p : Nat) : Prop := a 3 p ≠ -1 ∧ a 3 p ≤ x ∧ x < a 3 p + mv_tk a p
noncomputable def st_wa (a : mv_a) (x : Int) : Int := st_f1 (st_on a x) (mv_P a) 0
noncomputable def st_wi (a : mv_a) (i : Int) : Int := st_f1 (fun p => a 3 p ≠ -1 ∧ st_rk a p = i) (mv_P a) 0
section LK
variable {G G2 : mv_G} {a b : mv_a}
theorem fx_rank (h : mv_cB G a) (hi : mv_iB a) (p : Nat) (hp : p < mv_P a) : ff_X2_rank [.inr (1, 0), .inl p] G = some (st_rk a p, G) := by
  obtain ⟨hP, hPe⟩ := mv_P_le hi
  refine mv_Kp.eq (mv_Kp.of (mv_JP.of (rg_X2_rank_0 p G) (mv_J.ce (fx_isSeated h hi p) (mv_J.bt (fun h1 => mv_J.ret ⟨?_, rfl⟩) (fun h1 => mv_J.cut ?_)))))
  · have : a 3 p = -1 := Classical.byContradiction fun h2 => h1 ⟨by omega, by omega, by rw [Int.toNat_natCast]; exact h2⟩
    exact (if_pos this).symm
  · have hs : ¬ a 3 p = -1 := by have := h1.2.2; rw [Int.toNat_natCast] at this; exact this
    have e : st_rk a p = ((st_ct (fun q => a 3 q ≠ -1 ∧ a 3 q < a 3 p) (mv_P a) : Nat) : Int) := if_neg hs
    rw [e]
    have key : ∀ k q : Nat, q + k = mv_P a → mv_JP mm_X2_rank (fun r G' => r = ((st_ct (fun q => a 3 q ≠ -1 ∧ a 3 q < a 3 p) (mv_P a) : Nat) : Int) ∧ G' = G) 14 [some (.inr (1, 0)), some (.inl (p : Int)), some (.inl ((st_ct (fun q => a 3 q ≠ -1 ∧ a 3 q < a 3 p) q : Nat) : Int)), some (.inl (q : Int))] G := by
      intro k
      induction k with
      | zero =>
        intro q hq
        refine mv_JP.of (rg_X2_rank_14 _ _ _ G) ?_
        rw [h.1.2.1]
        exact mv_J.f (by omega) (mv_J.ret ⟨by rw [show q = mv_P a by omega], rfl⟩)
      | succ k ih =>
        intro q hq
        have nx := ih (q + 1) (by omega)
        have le := st_ct_le (P := fun q => a 3 q ≠ -1 ∧ a 3 q < a 3 p) q
        refine mv_JP.of (rg_X2_rank_14 _ _ _ G) ?_
        rw [h.1.2.1, h.2.2.2.1, Int.toNat_natCast, Int.toNat_natCast, mv_ws (x := (q : Int) + 1) (by omega), mv_ws (by omega)]
        refine mv_J.t (by omega) (mv_J.ck (by omega) (mv_J.i (fun h2 => mv_J.cut ?_) (fun h2 => mv_J.ck (by omega) (mv_J.ck (by omega) (mv_J.i (fun h3 => mv_J.cut ?_) (fun h3 => mv_J.cut ?_))))))
        · rw [st_ct_f (fun h3 => h3.1 h2)] at nx; exact nx
        · rw [st_ct_t (P := fun q => a 3 q ≠ -1 ∧ a 3 q < a 3 p) ⟨h2, h3⟩] at nx; exact nx
        · rw [st_ct_f (fun h4 => h3 h4.2)] at nx; exact nx
    exact key (mv_P a) 0 (Nat.zero_add _)
theorem gx_placeOf (h : mv_mB G a) (hi : mv_iB a) (p : Nat) (hp : p < mv_P a) : ff_X12_placeOf [.inr (100, 0), .inl p] G = some (st_rk a p, G) := by
  obtain ⟨hP, hPe⟩ := mv_P_le hi
  refine mv_Kp.eq (mv_Kp.of (mv_JP.of (rg_X12_placeOf_0 p G) (mv_J.ce (gx_sits h hi p (by omega)) (mv_J.bt (fun h1 => mv_J.ret ⟨(if_pos (Classical.byContradiction h1)).symm, rfl⟩) (fun h1 => mv_J.cut ?_)))))
  · have e : st_rk a p = ((st_ct (fun q => a 3 q ≠ -1 ∧ a 3 q < a 3 p) (mv_P a) : Nat) : Int) := if_neg h1
    rw [e]
    have key : ∀ k q : Nat, q + k = mv_P a → mv_JP mm_X12_placeOf (fun r G' => r = ((st_ct (fun q => a 3 q ≠ -1 ∧ a 3 q < a 3 p) (mv_P a) : Nat) : Int) ∧ G' = G) 14 [some (.inr (100, 0)), some (.inl (p : Int)), some (.inl ((st_ct (fun q => a 3 q ≠ -1 ∧ a 3 q < a 3 p) q : Nat) : Int)), some (.inl (q : Int))] G := by
      intro k
      induction k with
      | zero =>
        intro q hq
        refine mv_JP.of (rg_X12_placeOf_14 _ _ _ G) ?_
        rw [h.1.2.1]
        exact mv_J.f (by omega) (mv_J.ret ⟨by rw [show q = mv_P a by omega], rfl⟩)
      | succ k ih =>
        intro q hq
        have nx := ih (q + 1) (by omega)
        have le := st_ct_le (P := fun q => a 3 q ≠ -1 ∧ a 3 q < a 3 p) q
        refine mv_JP.of (rg_X12_placeOf_14 _ _ _ G) ?_
        rw [h.1.2.1, mv_ws (x := (q : Int) + 1) (by omega), mv_ws (by omega)]
        refine mv_J.t (by omega) (mv_J.ce (gx_sits h hi q (by omega)) (mv_J.bt (fun h2 => mv_J.cut ?_) (fun h2 => mv_J.ce (gx_inchOf h hi q (by omega)) (mv_J.ce (gx_inchOf h hi p (by omega)) (mv_J.i (fun h3 => mv_J.cut ?_) (fun h3 => mv_J.cut ?_))))))
        · rw [st_ct_f (fun h3 => h2 h3.1)] at nx; exact nx
        · rw [st_ct_t (P := fun q => a 3 q ≠ -1 ∧ a 3 q < a 3 p) ⟨h2, h3⟩] at nx; exact nx
        · rw [st_ct_f (fun h4 => h3 h4.2)] at nx; exact nx
    exact key (mv_P a) 0 (Nat.zero_add _)
theorem fx_whoIsAt (h : mv_cB G a) (hi : mv_iB a) (x : Int) : ff_X2_whoIsAt [.inr (1, 0), .inl x] G = some (st_wa a x, G) := by
  obtain ⟨hP, hPe⟩ := mv_P_le hi
  have key : ∀ k q : Nat, q + k = mv_P a → mv_JP mm_X2_whoIsAt (fun r G' => r = st_f1 (st_on a x) k q ∧ G' = G) 2 [some (.inr (1, 0)), some (.inl x), some (.inl (q : Int))] G := by
    intro k
    induction k with
    | zero =>
      intro q hq
      refine mv_JP.of (rg_X2_whoIsAt_2 _ _ G) ?_
      rw [h.1.2.1]
      exact mv_J.f (by omega) (mv_J.ret ⟨rfl, rfl⟩)
    | succ k ih =>
      intro q hq
      have nx := ih (q + 1) (by omega)
      have s := hi.2.2.2.1 q (by omega)
      have tl := hi.2.2.2.2.1 q (by omega)
      have tk : mv_tk a q = a 4 q + a 6 q := rfl
      refine mv_JP.of (rg_X2_whoIsAt_2 _ _ G) ?_
      rw [h.1.2.1, h.2.2.2.1, Int.toNat_natCast, mv_ws (x := (q : Int) + 1) (by omega)]
      have no : ¬ st_on a x q → mv_JP mm_X2_whoIsAt (fun r G' => r = st_f1 (st_on a x) (k + 1) q ∧ G' = G) 2 [some (.inr (1, 0)), some (.inl x), some (.inl ((q : Int) + 1))] G := fun hn => by rw [st_f1_f hn]; exact nx
      refine mv_J.t (by omega) (mv_J.ck (by omega) (mv_J.i (fun h2 => mv_J.cut (no (fun h3 => h3.1 h2))) (fun h2 => mv_J.ck (by omega) (mv_J.i (fun h3 => mv_J.cut (no (fun h4 => by have := h4.2.1; omega))) (fun h3 => mv_J.ck (by omega) (mv_J.ce (fx_takes h hi q (by omega)) ?_))))))
      rw [mv_ws (by omega)]
      exact mv_J.i (fun h4 => mv_J.ret ⟨(st_f1_t ⟨h2, by omega, h4⟩).symm, rfl⟩) (fun h4 => mv_J.cut (no (fun h5 => h4 h5.2.2)))
  exact mv_Kp.eq (mv_Kp.of (mv_JP.of (rg_X2_whoIsAt_0 x G) (mv_J.cut (key (mv_P a) 0 (Nat.zero_add _)))))
theorem gx_whoAt (h : mv_mB G a) (hi : mv_iB a) (x : Int) : ff_X12_whoAt [.inr (100, 0), .inl x] G = some (st_wa a x, G) := by
  obtain ⟨hP, hPe⟩ := mv_P_le hi
  have key : ∀ k q : Nat, q + k = mv_P a → mv_JP mm_X12_whoAt (fun r G' => r = st_f1 (st_on a x) k q ∧ G' = G) 2 [some (.inr (100, 0)), some (.inl x), some (.inl (q : Int))] G := by
    intro k
    induction k with
    | zero =>
      intro q hq
      refine mv_JP.of (rg_X12_whoAt_2 _ _ G) ?_
      rw [h.1.2.1]
      exact mv_J.f (by omega) (mv_J.ret ⟨rfl, rfl⟩)
    | succ k ih =>
      intro q hq
      have nx := ih (q + 1) (by omega)
      have s := hi.2.2.2.1 q (by omega)
      have tl := hi.2.2.2.2.1 q (by omega)
      have tk : mv_tk a q = a 4 q + a 6 q := rfl
      refine mv_JP.of (rg_X12_whoAt_2 _ _ G) ?_
      rw [h.1.2.1, mv_ws (x := (q : Int) + 1) (by omega)]
      have no : ¬ st_on a x q → mv_JP mm_X12_whoAt (fun r G' => r = st_f1 (st_on a x) (k + 1) q ∧ G' = G) 2 [some (.inr (100, 0)), some (.inl x), some (.inl ((q : Int) + 1))] G := fun hn => by rw [st_f1_f hn]; exact nx
      refine mv_J.t (by omega) (mv_J.ce (gx_sits h hi q (by omega)) (mv_J.bt (fun h2 => mv_J.cut (no (fun h3 => h2 h3.1))) (fun h2 => mv_J.ce (gx_inchOf h hi q (by omega)) (mv_J.ce (gx_inchOf h hi q (by omega)) (mv_J.ce (gx_takesOf h hi q (by omega)) ?_)))))
      rw [mv_ws (x := a 3 q + mv_tk a q) (by omega), mv_ws (by omega)]
      exact mv_J.ce (gx_isIn _ _ _ _) (mv_J.bt (fun h4 => mv_J.cut (no (fun h5 => h4 ⟨h5.2.1, by have := h5.2.2; omega⟩))) (fun h4 => mv_J.ret ⟨(st_f1_t ⟨h2, h4.1, by omega⟩).symm, rfl⟩))
  exact mv_Kp.eq (mv_Kp.of (mv_JP.of (rg_X12_whoAt_0 x G) (mv_J.cut (key (mv_P a) 0 (Nat.zero_add _)))))
theorem fx_whoIsNth (h : mv_cB G a) (hi : mv_iB a) (x : Int) : ff_X2_whoIsNth [.inr (1, 0), .inl x] G = some (st_wi a x, G) := by
  obtain ⟨hP, hPe⟩ := mv_P_le hi
  have key : ∀ k q : Nat, q + k = mv_P a → mv_JP mm_X2_whoIsNth (fun r G' => r = st_f1 (fun p => a 3 p ≠ -1 ∧ st_rk a p = x) k q ∧ G' = G) 2 [some (.inr (1, 0)), some (.inl x), some (.inl (q : Int))] G := by
    intro k
    induction k with
    | zero =>
      intro q hq
      refine mv_JP.of (rg_X2_whoIsNth_2 _ _ G) ?_
      rw [h.1.2.1]
      exact mv_J.f (by omega) (mv_J.ret ⟨rfl, rfl⟩)
    | succ k ih =>
      intro q hq
      have nx := ih (q + 1) (by omega)
      refine mv_JP.of (rg_X2_whoIsNth_2 _ _ G) ?_
      rw [h.1.2.1, h.2.2.2.1, Int.toNat_natCast, mv_ws (x := (q : Int) + 1) (by omega)]
      have no : ¬ (a 3 q ≠ -1 ∧ st_rk a q = x) → mv_JP mm_X2_whoIsNth (fun r G' => r = st_f1 (fun p => a 3 p ≠ -1 ∧ st_rk a p = x) (k + 1) q ∧ G' = G) 2 [some (.inr (1, 0)), some (.inl x), some (.inl ((q : Int) + 1))] G := fun hn => by rw [st_f1_f hn]; exact nx
      exact mv_J.t (by omega) (mv_J.ck (by omega) (mv_J.i (fun h2 => mv_J.cut (no (fun h3 => h3.1 h2))) (fun h2 => mv_J.ce (fx_rank h hi q (by omega)) (mv_J.i (fun h3 => mv_J.ret ⟨(st_f1_t (P := fun p => a 3 p ≠ -1 ∧ st_rk a p = x) ⟨h2, h3⟩).symm, rfl⟩) (fun h3 => mv_J.cut (no (fun h4 => h3 h4.2)))))))
  exact mv_Kp.eq (mv_Kp.of (mv_JP.of (rg_X2_whoIsNth_0 x G) (mv_J.cut (key (mv_P a) 0 (Nat.zero_add _)))))
theorem gx_whoIs (h : mv_mB G a) (hi : mv_iB a) (x : Int) (hx : 0 ≤ x) : ff_X12_whoIs [.inr (100, 0), .inl x] G = some (st_wi a x, G) := by
  obtain ⟨hP, hPe⟩ := mv_P_le hi
  have key : ∀ k q : Nat, q + k = mv_P a → mv_JP mm_X12_whoIs (fun r G' => r = st_f1 (fun p => a 3 p ≠ -1 ∧ st_rk a p = x) k q ∧ G' = G) 2 [some (.inr (100, 0)), some (.inl x), some (.inl (q : Int))] G := by
    intro k
    induction k with
    | zero =>
      intro q hq
      refine mv_JP.of (rg_X12_whoIs_2 _ _ G) ?_
      rw [h.1.2.1]
      exact mv_J.f (by omega) (mv_J.ret ⟨rfl, rfl⟩)
    | succ k ih =>
      intro q hq
      have nx := ih (q + 1) (by omega)
      refine mv_JP.of (rg_X12_whoIs_2 _ _ G) ?_
      rw [h.1.2.1, mv_ws (x := (q : Int) + 1) (by omega)]
      have no : ¬ (a 3 q ≠ -1 ∧ st_rk a q = x) → mv_JP mm_X12_whoIs (fun r G' => r = st_f1 (fun p => a 3 p ≠ -1 ∧ st_rk a p = x) (k + 1) q ∧ G' = G) 2 [some (.inr (100, 0)), some (.inl x), some (.inl ((q : Int) + 1))] G := fun hn => by rw [st_f1_f hn]; exact nx
      exact mv_J.t (by omega) (mv_J.ce (gx_placeOf h hi q (by omega)) (mv_J.i (fun h3 => mv_J.ret ⟨(st_f1_t (P := fun p => a 3 p ≠ -1 ∧ st_rk a p = x) ⟨fun h4 => by
        have : st_rk a q = -1 := if_pos h4
        omega, h3⟩).symm, rfl⟩) (fun h3 => mv_J.cut (no (fun h4 => h3 h4.2)))))
  exact mv_Kp.eq (mv_Kp.of (mv_JP.of (rg_X12_whoIs_0 x G) (mv_J.cut (key (mv_P a) 0 (Nat.zero_add _)))))
theorem fx_seated (h : mv_cB G a) (hi : mv_iB a) : ff_X2_seated [.inr (1, 0)] G = some ((((mv_wh a (mv_P a)).1 : Nat) : Int), G) := by
  obtain ⟨hP, hPe⟩ := mv_P_le hi
  have key : ∀ k q : Nat, q + k = mv_P a → mv_JP mm_X2_seated (fun r G' => r = (((mv_wh a (mv_P a)).1 : Nat) : Int) ∧ G' = G) 4 [some (.inr (1, 0)), some (.inl (((mv_wh a q).1 : Nat) : Int)), some (.inl (q : Int))] G := by
    intro k
    induction k with
    | zero =>
      intro q hq
      refine mv_JP.of (rg_X2_seated_4 _ _ G) ?_
      rw [h.1.2.1]
      exact mv_J.f (by omega) (mv_J.ret ⟨by rw [show q = mv_P a by omega], rfl⟩)
    | succ k ih =>
      intro q hq
      have nx := ih (q + 1) (by omega)
      have le := mv_wh_le (a := a) q
      have est : mv_wh a (q + 1) = if a 3 q = -1 then mv_wh a q else ((mv_wh a q).1 + 1, fun i => if i = (mv_wh a q).1 then q else (mv_wh a q).2 i) := rfl
      rw [est] at nx
      refine mv_JP.of (rg_X2_seated_4 _ _ G) ?_
      rw [h.1.2.1, h.2.2.2.1, Int.toNat_natCast, mv_ws (x := (q : Int) + 1) (by omega), mv_ws (by omega)]
      refine mv_J.t (by omega) (mv_J.ck (by omega) (mv_J.i (fun h2 => mv_J.cut ?_) (fun h2 => mv_J.cut ?_)))
      · rw [if_pos h2] at nx; exact nx
      · rw [if_neg h2] at nx; exact nx
  exact mv_Kp.eq (mv_Kp.of (mv_JP.of (rg_X2_seated_0 G) (mv_J.cut (key (mv_P a) 0 (Nat.zero_add _)))))
theorem fx_rests (h : mv_cB G a) (hi : mv_iB a) : ff_X2_rests [.inr (1, 0)] G = some (((st_ct (fun k => a 1 k = 1) (a 0 0).toNat : Nat) : Int), G) := by
  have b := hi.1
  have key : ∀ k q : Nat, q + k = (a 0 0).toNat → mv_JP mm_X2_rests (fun r G' => r = ((st_ct (fun k => a 1 k = 1) (a 0 0).toNat : Nat) : Int) ∧ G' = G) 4 [some (.inr (1, 0)), some (.inl ((st_ct (fun k => a 1 k = 1) q : Nat) : Int)), some (.inl (q : Int))] G := by
    intro k
    induction k with
    | zero =>
      intro q hq
      refine mv_JP.of (rg_X2_rests_4 _ _ G) ?_
      rw [h.1.1]
      exact mv_J.f (by omega) (mv_J.ret ⟨by rw [show q = (a 0 0).toNat by omega], rfl⟩)
    | succ k ih =>
      intro q hq
      have nx := ih (q + 1) (by omega)
      have le := st_ct_le (P := fun k => a 1 k = 1) q
      have r := hi.2.1 q (by omega)
      refine mv_JP.of (rg_X2_rests_4 _ _ G) ?_
      rw [h.1.1, h.2.1, Int.toNat_natCast, mv_ws (x := (q : Int) + 1) (by omega), mv_ws (by omega)]
      refine mv_J.t (by omega) (mv_J.ck (by omega) (mv_J.cut ?_))
      rcases r with r | r
      · rw [st_ct_f (by omega)] at nx
        rw [r, Int.add_zero]
        exact nx
      · rw [st_ct_t (P := fun k => a 1 k = 1) r] at nx
        rw [r]
        exact nx
  exact mv_Kp.eq (mv_Kp.of (mv_JP.of (rg_X2_rests_0 G) (mv_J.cut (key (a 0 0).toNat 0 (Nat.zero_add _)))))
theorem gx_restMany (h : mv_mB G a) (hi : mv_iB a) : ff_X12_restMany [.inr (100, 0)] G = some (((st_ct (fun k => a 1 k = 1) (a 0 0).toNat : Nat) : Int), G) := by
  have b := hi.1
  have key : ∀ k q : Nat, q + k = (a 0 0).toNat → mv_JP mm_X12_restMany (fun r G' => r = ((st_ct (fun k => a 1 k = 1) (a 0 0).toNat : Nat) : Int) ∧ G' = G) 4 [some (.inr (100, 0)), some (.inl ((st_ct (fun k => a 1 k = 1) q : Nat) : Int)), some (.inl (q : Int))] G := by
    intro k
    induction k with
    | zero =>
      intro q hq
      refine mv_JP.of (rg_X12_restMany_4 _ _ G) (mv_J.ce (gx_length h hi) ?_)
      exact mv_J.f (by omega) (mv_J.ret ⟨by rw [show q = (a 0 0).toNat by omega], rfl⟩)
    | succ k ih =>
      intro q hq
      have nx := ih (q + 1) (by omega)
      have le := st_ct_le (P := fun k => a 1 k = 1) q
      have r := hi.2.1 q (by omega)
      refine mv_JP.of (rg_X12_restMany_4 _ _ G) (mv_J.ce (gx_length h hi) ?_)
      rw [Int.toNat_natCast, h.2.1 q (by omega), mv_ws (x := (q : Int) + 1) (by omega), mv_ws (by omega)]
      refine mv_J.t (by omega) (mv_J.ck (by omega) (mv_J.i (fun h2 => mv_J.cut ?_) (fun h2 => mv_J.cut ?_)))
      · rw [st_ct_f (by omega)] at nx; exact nx
      · rw [st_ct_t (P := fun k => a 1 k = 1) (by omega)] at nx; exact nx
  exact mv_Kp.eq (mv_Kp.of (mv_JP.of (rg_X12_restMany_0 G) (mv_J.cut (key (a 0 0).toNat 0 (Nat.zero_add _)))))
/-- the free inches, some people told off -/
noncomputable def st_fr (a : mv_a) (P : Nat) : Nat := st_ct (fun k => ∀ p, p < P → ¬ st_on a (k : Int) p) (a 0 0).toNat
theorem st_fr_s (hi : mv_iB a) {p : Nat} (hp : p < mv_P a) (hs : a 3 p ≠ -1) : (st_fr a p : Int) = st_fr a (p + 1) + mv_tk a p := by
  obtain ⟨hP, hPe⟩ := mv_P_le hi
  have b := hi.1
  have s := hi.2.2.2.1 p (by omega)
  have tl := hi.2.2.2.2.1 p (by omega)
  have ht := hi.2.2.2.2.2.1 p (by omega) hs
  have tk : mv_tk a p = a 4 p + a 6 p := rfl
  have := st_ct_cut (P := fun k => ∀ q, q < p → ¬ st_on a (k : Int) q) (Q := fun k => ∀ q, q < p + 1 → ¬ st_on a (k : Int) q) (s := (a 3 p).toNat) (e := (a 3 p + mv_tk a p).toNat) (by omega) (fun k => by
    constructor
    · intro h
      exact ⟨fun q hq => h q (by omega), fun h2 => h p (by omega) ⟨hs, by omega, by omega⟩⟩
    · rintro ⟨h1, h2⟩ q hq ⟨h3, h4, h5⟩
      by_cases e : q = p
      · subst e; exact h2 ⟨by omega, by omega⟩
      · exact h1 q (by omega) ⟨h3, h4, h5⟩) (fun k h1 h2 q hq h3 => by
    have d := hi.2.2.2.2.2.2 p q (by omega) (by omega) (by omega) hs h3.1
    have tq : mv_tk a q = a 4 q + a 6 q := rfl
    have := h3.2.1
    have := h3.2.2
    omega) (a 0 0).toNat
  unfold st_fr
  rw [this, if_neg (by omega)]
  split <;> omega
theorem fx_free (h : mv_cB G a) (hi : mv_iB a) : ff_X2_free [.inr (1, 0)] G = some (((st_fr a (mv_P a) : Nat) : Int), G) := by
  obtain ⟨hP, hPe⟩ := mv_P_le hi
  have b := hi.1
  have f0 : st_fr a 0 = (a 0 0).toNat := by
    have : ∀ n, st_ct (fun k => ∀ p, p < 0 → ¬ st_on a (k : Int) p) n = n := fun n => by
      induction n with
      | zero => rfl
      | succ n ih => rw [st_ct_t (P := fun k => ∀ p, p < 0 → ¬ st_on a (k : Int) p) (fun p hp => absurd hp (Nat.not_lt_zero p)), ih]
    exact this _
  have key : ∀ k q : Nat, q + k = mv_P a → mv_JP mm_X2_free (fun r G' => r = ((st_fr a (mv_P a) : Nat) : Int) ∧ G' = G) 7 [some (.inr (1, 0)), some (.inl ((st_fr a q : Nat) : Int)), some (.inl (q : Int))] G := by
    intro k
    induction k with
    | zero =>
      intro q hq
      refine mv_JP.of (rg_X2_free_7 _ _ G) ?_
      rw [h.1.2.1]
      exact mv_J.f (by omega) (mv_J.ret ⟨by rw [show q = mv_P a by omega], rfl⟩)
    | succ k ih =>
      intro q hq
      have nx := ih (q + 1) (by omega)
      have le : st_fr a q ≤ (a 0 0).toNat := st_ct_le _
      have le2 : st_fr a (q + 1) ≤ (a 0 0).toNat := st_ct_le _
      refine mv_JP.of (rg_X2_free_7 _ _ G) ?_
      rw [h.1.2.1, h.2.2.2.1, Int.toNat_natCast, mv_ws (x := (q : Int) + 1) (by omega)]
      refine mv_J.t (by omega) (mv_J.ck (by omega) (mv_J.i (fun h2 => mv_J.cut ?_) (fun h2 => mv_J.ce (fx_takes h hi q (by omega)) (mv_J.cut ?_))))
      · have e : st_fr a (q + 1) = st_fr a q := by
          unfold st_fr
          congr 1
          refine funext fun k => propext ⟨fun h3 p hp => h3 p (by omega), fun h3 p hp => ?_⟩
          by_cases e : p = q
          · subst e; exact fun h4 => h4.1 h2
          · exact h3 p (by omega)
        rw [e] at nx; exact nx
      · have e := st_fr_s hi (p := q) (by omega) h2
        rw [e, mv_ws (by omega), show ((st_fr a (q + 1) : Nat) : Int) + mv_tk a q - mv_tk a q = ((st_fr a (q + 1) : Nat) : Int) by omega]
        exact nx
  have k0 := key (mv_P a) 0 (Nat.zero_add _)
  rw [f0] at k0
  refine mv_Kp.eq (mv_Kp.of (mv_JP.of (rg_X2_free_0 G) (mv_J.cut ?_)))
  rw [h.1.1, show a 0 0 = (((a 0 0).toNat : Nat) : Int) by omega]
  exact k0
theorem gx_freeInches (h : mv_mB G a) (hi : mv_iB a) : ff_X12_freeInches [.inr (100, 0)] G = some (((st_fr a (mv_P a) : Nat) : Int), G) := by
  have b := hi.1
  have key : ∀ k q : Nat, q + k = (a 0 0).toNat → mv_JP mm_X12_freeInches (fun r G' => r = ((st_fr a (mv_P a) : Nat) : Int) ∧ G' = G) 4 [some (.inr (100, 0)), some (.inl ((st_ct (fun k => ∀ p, p < mv_P a → ¬ st_on a (k : Int) p) q : Nat) : Int)), some (.inl (q : Int))] G := by
    intro k
    induction k with
    | zero =>
      intro q hq
      refine mv_JP.of (rg_X12_freeInches_4 _ _ G) (mv_J.ce (gx_length h hi) ?_)
      exact mv_J.f (by omega) (mv_J.ret ⟨by rw [show q = (a 0 0).toNat by omega]; rfl, rfl⟩)
    | succ k ih =>
      intro q hq
      have nx := ih (q + 1) (by omega)
      have le := st_ct_le (P := fun k => ∀ p, p < mv_P a → ¬ st_on a (k : Int) p) q
      have hn := st_f1_n (P := st_on a (q : Int)) (mv_P a) 0
      refine mv_JP.of (rg_X12_freeInches_4 _ _ G) (mv_J.ce (gx_length h hi) ?_)
      rw [mv_ws (x := (q : Int) + 1) (by omega), mv_ws (by omega)]
      refine mv_J.t (by omega) (mv_J.ce (gx_whoAt h hi q) (mv_J.i (fun h2 => mv_J.cut ?_) (fun h2 => mv_J.cut ?_)))
      · rw [st_ct_t (P := fun k => ∀ p, p < mv_P a → ¬ st_on a (k : Int) p) (fun p hp => (hn.mp h2) p (Nat.zero_le _) (by omega))] at nx; exact nx
      · rw [st_ct_f (fun h3 => h2 (hn.mpr (fun p _ hp => h3 p (by omega))))] at nx; exact nx
  exact mv_Kp.eq (mv_Kp.of (mv_JP.of (rg_X12_freeInches_0 G) (mv_J.cut (key (a 0 0).toNat 0 (Nat.zero_add _)))))
end LK
