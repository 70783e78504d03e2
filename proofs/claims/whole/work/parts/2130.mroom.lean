/-! ROOM, the reference: what it costs, and the least from one on. -/
def mv_e6 (o : Option Int) : Int := match o with | some v => v | none => 1000000
def mv_B6 (o : Option Int) : Prop := ∀ v, o = some v → 0 ≤ v ∧ v < 1000000
theorem mv_B6_Q {k : Nat} {o : Option Int} (hk : k ≤ 10) (h : mv_Qv k o) : mv_B6 o := fun v hv => by
  subst hv
  have := mv_Qv_b hk h
  omega
theorem mv_e6_om {x y : Option Int} (hx : mv_B6 x) (hy : mv_B6 y) : mv_e6 (mv_om x y) = if mv_e6 y < mv_e6 x then mv_e6 y else mv_e6 x := by
  cases x with
  | none => cases y with
    | none => rfl
    | some v =>
      have := hy v rfl
      show v = if v < 1000000 then v else 1000000
      rw [if_pos this.2]
  | some u => cases y with
    | none =>
      have := hx u rfl
      show u = if 1000000 < u then 1000000 else u
      rw [if_neg (by omega)]
    | some v =>
      show (mv_e6 (some (if v < u then v else u))) = if v < u then v else u
      rfl
theorem mv_B6_om {x y : Option Int} (hx : mv_B6 x) (hy : mv_B6 y) : mv_B6 (mv_om x y) := by
  intro v hv
  unfold mv_om at hv
  split at hv
  · next u w =>
    cases hv
    split
    · exact hy w rfl
    · exact hx u rfl
  · next u => cases hv; exact hx _ rfl
  · exact hy v hv
theorem mv_om_as {x y z : Option Int} : mv_om x (mv_om y z) = mv_om (mv_om x y) z := by
  cases x with
  | none => cases y <;> cases z <;> rfl
  | some u => cases y with
    | none => cases z <;> rfl
    | some v => cases z with
      | none => rfl
      | some w =>
        show some (if (if w < v then w else v) < u then (if w < v then w else v) else u) = some (if w < (if v < u then v else u) then w else (if v < u then v else u))
        congr 1
        by_cases h1 : w < v <;> by_cases h2 : v < u <;> by_cases h3 : w < u <;> simp only [h1, h2, h3, if_true, if_false] <;> omega
theorem mv_e6_inj {x y : Option Int} (hx : mv_B6 x) (hy : mv_B6 y) (h : mv_e6 x = mv_e6 y) : x = y := by
  cases x with
  | none => cases y with
    | none => rfl
    | some v => have := hy v rfl; have h : (1000000 : Int) = v := h; omega
  | some u => cases y with
    | none => have := hx u rfl; have h : u = (1000000 : Int) := h; omega
    | some v => have h : u = v := h; rw [h]
theorem mv_mn_hi {f : Nat → Option Int} {lo : Nat} : ∀ q x, lo ≤ x → mv_mn (fun x => if lo ≤ x then f x else none) q x = mv_mn f q x
  | 0, _, _ => rfl
  | q + 1, x, h => by
    unfold mv_mn
    rw [mv_mn_hi q (x + 1) (by omega), if_pos h]
theorem mv_mn_lo {f : Nat → Option Int} {lo : Nat} : ∀ q x, x ≤ lo → mv_mn (fun x => if lo ≤ x then f x else none) q x = mv_mn f (x + q - lo) lo
  | 0, x, h => by rw [show x + 0 - lo = 0 by omega]; rfl
  | q + 1, x, h => by
    by_cases e : lo = x
    · rw [mv_mn_hi _ _ (by omega), show x + (q + 1) - lo = q + 1 by omega, e]
    · unfold mv_mn
      rw [mv_mn_lo q (x + 1) (by omega), if_neg (by omega), show x + 1 + q - lo = x + (q + 1) - lo by omega]
      have : ∀ o : Option Int, mv_om none o = o := fun o => by cases o <;> rfl
      rw [this]
      cases x + (q + 1) - lo <;> rfl
theorem mv_qm_m : ∀ j, j < 12 → mv_qm j = true → j ∈ [11, 4, 3, 2, 1, 0] := by decide
section RM
variable {G : mv_G} {a : mv_a}
theorem gx_without (G : mv_G) (x : Int) (h : -1000 ≤ x ∧ x ≤ 1000) : ff_X12_without [.inr (100, 0), .inl x] G = some (if x < 0 then 0 - x else x, G) := by
  refine mv_Kp.eq (mv_Kp.of (mv_JP.of (rg_X12_without_0 x G) ?_))
  rw [mv_ws (by omega)]
  exact mv_J.i (fun h1 => mv_J.ret ⟨by rw [if_pos h1]; omega, rfl⟩) (fun h1 => mv_J.ret ⟨by rw [if_neg h1], rfl⟩)
theorem gx_held (G : mv_G) (x lo up : Int) : ff_X12_held [.inr (100, 0), .inl x, .inl lo, .inl up] G = some (if x < lo then lo else if up < x then up else x, G) :=
  mv_Kp.eq (mv_Kp.of (mv_JP.of (rg_X12_held_0 x lo up G) (mv_J.i (fun h1 => mv_J.ret ⟨by rw [if_pos h1], rfl⟩) (fun h1 => mv_J.i (fun h2 => mv_J.ret ⟨by rw [if_neg h1, if_pos h2], rfl⟩) (fun h2 => mv_J.ret ⟨by rw [if_neg h1, if_neg h2], rfl⟩)))))
set_option maxHeartbeats 1000000 in
theorem gx_costOf (hB : mv_mB G a) (hi : mv_iB a) (hL : mv_mL G 1 a 22) (hLi : mv_iL mv_qm a 22) (p : Nat) (hp : (p : Int) < a 0 1) (y : Int) (hy : 0 ≤ y ∧ y ≤ 100) : mv_Kp (ff_X12_costOf [.inr (100, 0), .inl p, .inl y] G) (fun v G' => v = mv_mco a p y ∧ mv_ch [121, 122] [(100, 47), (100, 48), (100, 49), (100, 50)] G G') := by
  have b1 := hi.1
  have hti := mv_tmm_in hi p hp y hy
  refine mv_Kp.of (mv_JP.of (rg_X12_costOf_0 p y G) (mv_J.cn (gx_asksFor hB p (by omega)) (fun v1 G1 h1 => ?_)))
  obtain ⟨hA1, hc1⟩ := h1
  have hB1 := hB.ch hc1 (by decide) rfl rfl
  refine mv_J.cn (gx_asksHim hB1 hA1) (fun v2 G2 h2 => mv_J.ck (by omega) ?_)
  obtain ⟨hc2, hj0⟩ := h2
  have hj := hj0 (mv_tmm a p y) rfl rfl rfl rfl rfl
  have hj2 := mv_up_l (v := y) (m := 11) hj rfl
  have hc3 : mv_ch [121, 122] [(100, 47), (100, 48), (100, 49), (100, 50)] G (mv_up G2 121 0 11 y) := ((hc1.mono rfl rfl).tr (hc2.mono rfl rfl)).uc rfl
  generalize mv_up G2 121 0 11 y = G3 at hj2 hc3
  have hL3 := hL.ch hc3 (by decide)
  have ht : ∀ j, j < 12 → mv_qm j = true → G3 121 0 j = mv_tmm a p y j := fun j h1 h2 => hj2 j (mv_qm_m j h1 h2)
  refine mv_J.cn (gx_lineOf (w := 1) (tmv := mv_tmm a p y) (by decide) hL3 hLi ht hti) (fun s G4 h4 => ?_)
  obtain ⟨hs, hc4⟩ := h4
  unfold mv_mco mv_lv
  cases hli : mv_li a 22 (mv_tmm a p y) (a 22 0).toNat 0 with
  | none =>
    rw [hli] at hs
    dsimp only at hs
    subst hs
    refine mv_J.t rfl (mv_J.ret ⟨?_, hc3.tr (hc4.mono rfl rfl)⟩)
    show y = mv_hd9 y
    unfold mv_hd9
    rw [if_neg (by omega), if_neg (by omega)]
  | some l =>
    rw [hli] at hs
    dsimp only at hs
    subst hs
    have hlt := mv_li_lt _ _ _ hli
    obtain ⟨⟨l1, l2, l3, l4⟩, hl⟩ := id hLi
    obtain ⟨q1, q2, q3, q4, q5, q6⟩ := hl l (by omega)
    have hc5 : mv_ch [121, 122] [(100, 47), (100, 48), (100, 49), (100, 50)] G G4 := hc3.tr (hc4.mono rfl rfl)
    have hL4 := hL.ch hc5 (by decide)
    obtain ⟨d1, d2, d3⟩ := hL4.2.2 l (by omega)
    have e16 : 16 * 1 + l = l + 16 := by omega
    rw [e16] at d1 d2 ⊢
    rw [Int.toNat_natCast, d1, d2]
    refine mv_J.f ?_ (mv_J.ck ?_ (mv_J.ck ?_ ?_))
    · show ¬ ((l + 16 : Nat) : Int) = -1
      omega
    · show 0 ≤ ((l + 16 : Nat) : Int) ∧ ((l + 16 : Nat) : Int) < (48 : Nat)
      omega
    · show 0 ≤ ((l + 16 : Nat) : Int) ∧ ((l + 16 : Nat) : Int) < (48 : Nat)
      omega
    refine mv_J.cn (gx_runs2 (q := mv_qm) (w := 1) (tmv := mv_tmm a p y) (by decide) hL4 hLi (fun j h1 h2 => by rw [hc4.cell 121 rfl]; exact ht j h1 h2) hti _ _ (by omega) (by omega) (by omega) q5) (fun s G5 h5 => ?_)
    obtain ⟨h5, hc6⟩ := h5
    subst h5
    refine mv_J.ce (gx_held _ _ _ _) (mv_J.ret ⟨rfl, hc5.tr (hc6.mono rfl rfl)⟩)
/-- the reference's items -/
def mv_mI (G : mv_G) (a : mv_a) (p0 : Nat) (it : Nat → Nat) (c : Nat) : Prop := ∀ i, i < c → G 128 0 i = it i ∧ G 129 0 i = if it i = p0 then -1 else a 3 (it i)
theorem mv_mI.ch {S : List Nat} {T : List (Nat × Nat)} {G2 : mv_G} {p0 c : Nat} {it : Nat → Nat} (h : mv_mI G a p0 it c) (hc : mv_ch S T G G2) (h1 : ([128, 129].any fun k => S.contains k || T.any fun q => q.1 == k) = false) : mv_mI G2 a p0 it c := by
  have e := List.any_eq_false.mp h1
  intro i hi
  rw [hc.cell 128 (Bool.eq_false_iff.mpr (e 128 (by simp))), hc.cell 129 (Bool.eq_false_iff.mpr (e 129 (by simp)))]
  exact h i hi
set_option maxHeartbeats 1000000 in
theorem gx_costAt {p0 c : Nat} {it : Nat → Nat} (hB : mv_mB G a) (hi : mv_iB a) (hL : mv_mL G 1 a 22) (hLi : mv_iL mv_qm a 22) (hl : mv_ln a p0 it c) (hI : mv_mI G a p0 it c) (i : Nat) (hic : i < c) (x : Nat) (hx : x < 60) : mv_Kp (ff_X12_costAt [.inr (100, 0), .inl i, .inl x] G) (fun v G' => v = mv_e6 (mv_wt a p0 (it i) x) ∧ mv_ch [121, 122] [(100, 47), (100, 48), (100, 49), (100, 50)] G G') := by
  have b1 := hi.1
  have hc10 := hl.1
  obtain ⟨q1, q2⟩ := hl.2 i hic
  obtain ⟨i1, i2⟩ := hI i hic
  have t := hi.2.2.2.2.1 (it i) q1
  have s3 := hi.2.2.2.1 (it i) (by omega)
  have tk : mv_tk a (it i) = a 4 (it i) + a 6 (it i) := rfl
  refine mv_Kp.of (mv_JP.of (rg_X12_costAt_0 i x G) (mv_J.ck (by omega) ?_))
  rw [Int.toNat_natCast, i1, Int.toNat_natCast]
  unfold mv_wt
  refine mv_J.ce (gx_takesOf hB hi _ q1) (mv_J.ce (gx_length hB hi) ?_)
  rw [mv_ws (by omega)]
  refine mv_J.i (fun h1 => mv_J.ret ⟨?_, mv_ch.rf⟩) (fun h1 => mv_J.ck (by omega) ?_)
  · rw [if_neg (fun h2 => by have := h2.2; omega)]
    rfl
  rw [hB.2.2.2.2.1 (it i) (by omega)]
  refine mv_J.ce (gx_isOverRest hB hi x _ (by omega) (by omega) (by omega)) (mv_J.bt (fun h2 => mv_J.ck (by omega) ?_) (fun h2 => mv_J.ret ⟨?_, mv_ch.rf⟩))
  · have hcl : mv_clr a x (a 4 (it i)) := Classical.byContradiction h2
    rw [if_pos ⟨hcl, by omega⟩, i2]
    by_cases e0 : it i = p0
    · rw [if_pos (c := it i = p0) e0, if_pos (c := it i = p0 ∨ _) (Or.inl e0)]
      exact mv_J.t rfl (mv_J.ret ⟨rfl, mv_ch.rf⟩)
    · rw [if_neg (c := it i = p0) e0]
      have s4 := q2 e0
      refine mv_J.f s4 (mv_J.ck (by omega) (mv_J.i (fun h3 => mv_J.ret ⟨?_, mv_ch.rf⟩) (fun h3 => mv_J.ck (by omega) ?_)))
      · rw [if_pos (Or.inr h3.symm)]
        rfl
      · rw [if_neg (fun h4 => h4.elim e0 (fun h5 => h3 h5.symm)), hB.2.2.2.2.2.2.2.2 (it i) (by omega)]
        refine mv_J.i (fun h4 => mv_J.ret ⟨?_, mv_ch.rf⟩) (fun h4 => mv_J.ck (by omega) ?_)
        · rw [if_pos h4]
          rfl
        · rw [if_neg h4, mv_ws (by omega)]
          have ey : (if (x : Int) - a 3 (it i) < 0 then 0 - ((x : Int) - a 3 (it i)) else (x : Int) - a 3 (it i)) = (if (x : Int) < a 3 (it i) then a 3 (it i) - x else x - a 3 (it i)) := by
            split <;> split <;> omega
          refine mv_J.ce (gx_without _ _ (by omega)) ?_
          rw [ey]
          have hy : 0 ≤ (if (x : Int) < a 3 (it i) then a 3 (it i) - x else x - a 3 (it i)) ∧ (if (x : Int) < a 3 (it i) then a 3 (it i) - x else x - a 3 (it i)) ≤ 100 := by split <;> omega
          generalize (if (x : Int) < a 3 (it i) then a 3 (it i) - x else x - a 3 (it i)) = y at hy
          refine mv_J.cn (gx_costOf hB hi hL hLi _ q1 y hy) (fun v G2 h5 => mv_J.ret ⟨?_, h5.2⟩)
          rw [h5.1]
          have hb : 0 ≤ mv_mco a (it i) y ∧ mv_mco a (it i) y ≤ 999 := mv_hd9_b _
          show _ = 100 * mv_mco a (it i) y + 1
          rw [mv_ws (x := 100 * mv_mco a (it i) y) (by omega), mv_ws (by omega)]
  · rw [if_neg (fun h3 => h2 h3.1)]
    rfl
theorem gx_canBeside (hB : mv_mB G a) (hi : mv_iB a) (p q x y : Nat) (hp : (p : Int) < a 0 1) (hq : (q : Int) < a 0 1) (hx : x ≤ 60) (hy : y ≤ 60) : ff_X12_canBeside [.inr (100, 0), .inl p, .inl x, .inl q, .inl y] G = some (mv_b (x + (mv_dd a p q).toNat ≤ y), G) := by
  have b1 := hi.1
  have db := mv_dd_b hi hp hq
  have ed : mv_dd a p q = mv_tk a p + mv_ap (a 5 p) (a 7 p) (a 5 q) (a 7 q) := rfl
  refine mv_Kp.eq (mv_Kp.of (mv_JP.of (rg_X12_canBeside_0 p x q y G) (mv_J.ce (gx_takesOf hB hi p hp) (mv_J.ck (by omega) (mv_J.ck (by omega) (mv_J.ck (by omega) (mv_J.ck (by omega) ?_)))))))
  rw [Int.toNat_natCast, Int.toNat_natCast, hB.2.2.2.2.2.1 p (by omega), hB.2.2.2.2.2.1 q (by omega), hB.2.2.2.2.2.2.2.1 p (by omega), hB.2.2.2.2.2.2.2.1 q (by omega), mv_ws (x := (y : Int) - x) (by omega), mv_ws (by omega)]
  exact mv_J.ce (gx_apartOf _ _ _ _ _) (mv_J.i (fun h1 => mv_J.r0 (Or.inl rfl) ⟨(mv_b0 (by omega)).symm, rfl⟩) (fun h1 => mv_J.r0 (Or.inr rfl) ⟨(mv_b1 (by omega)).symm, rfl⟩))
end RM
section RN
variable {G : mv_G} {a : mv_a} {p0 c : Nat} {it : Nat → Nat}
/-- a row of the reference's table -/
def mv_mt (G : mv_G) (a : mv_a) (p0 : Nat) (it : Nat → Nat) (c i : Nat) : Prop := ∀ x : Nat, (x : Int) < a 0 0 → G 130 0 (60 * i + x) = mv_e6 (mv_xi a p0 it c i x)
theorem mv_xi_B {i x : Nat} (hc : c ≤ 10) : mv_B6 (mv_xi a p0 it c i x) := by
  by_cases h : i < c
  · exact mv_B6_Q (by omega) (mv_xi_Q (c := c) (i := i))
  · rw [mv_xi_last (by omega)]
    exact mv_B6_Q (k := 1) (by omega) mv_wt_Q
theorem mv_lm_B {i y : Nat} (hc : c ≤ 10) (h : i < c) : mv_B6 (mv_lm a p0 it c i y) := mv_B6_Q (k := c - 1 - i + 1) (by omega) mv_lm_Q
set_option maxHeartbeats 1000000 in
set_option maxRecDepth 100000 in
theorem gx_leastKey (hB : mv_mB G a) (hi : mv_iB a) (hl : mv_ln a p0 it c) (hI : mv_mI G a p0 it c) (i : Nat) (hic : i < c) (ht : mv_mt G a p0 it c i) (y lo : Nat) (hy : y ≤ 60) (hlo : i = 0 ∧ lo = 0 ∨ 0 < i ∧ lo = y + (mv_dd a (it (i - 1)) (it i)).toNat) : ∀ (q x : Nat) (acc : Option Int), x + q = (a 0 0).toNat → mv_B6 acc → mv_JP mm_X12_leastBehind (fun v G' => v = mv_e6 (mv_om acc (mv_mn (fun x => if lo ≤ x then mv_xi a p0 it c i x else none) q x)) ∧ G' = G) 17 [some (.inr (100, 0)), some (.inl (i : Int)), some (.inl (y : Int)), some (.inl (mv_e6 acc)), some (.inl (x : Int)), none] G := by
  have b1 := hi.1
  have hc10 := hl.1
  intro q
  induction q with
  | zero =>
    intro x acc hq hb
    refine mv_JP.of (rg_X12_leastBehind_17 _ _ _ _ G) (mv_J.ce (gx_length hB hi) (mv_J.f (by omega) (mv_J.ret ⟨?_, rfl⟩)))
    show mv_e6 acc = mv_e6 (mv_om acc none)
    cases acc <;> rfl
  | succ q ih =>
    intro x acc hq hb
    refine mv_JP.of (rg_X12_leastBehind_17 _ _ _ _ G) (mv_J.ce (gx_length hB hi) (mv_J.t (by omega) ?_))
    rw [mv_ckp (n := 660) (by rw [mv_ws (x := 60 * (i : Int)) (by omega), mv_ws (by omega)]; omega), mv_ws (x := 60 * (i : Int)) (by omega), mv_ws (x := 60 * (i : Int) + x) (by omega), mv_ws (x := (x : Int) + 1) (by omega), show 60 * (i : Int) + x = ((60 * i + x : Nat) : Int) by omega, Int.toNat_natCast, ht x (by omega)]
    have hB6 : mv_B6 (mv_xi a p0 it c i x) := mv_xi_B hc10
    have step : ∀ acc2, acc2 = mv_om acc (if lo ≤ x then mv_xi a p0 it c i x else none) → mv_JP mm_X12_leastBehind (fun v G' => v = mv_e6 (mv_om acc (mv_mn (fun x => if lo ≤ x then mv_xi a p0 it c i x else none) (q + 1) x)) ∧ G' = G) 17 [some (.inr (100, 0)), some (.inl (i : Int)), some (.inl (y : Int)), some (.inl (mv_e6 acc2)), some (.inl ((x : Int) + 1)), none] G := fun acc2 e => by
      have := ih (x + 1) acc2 (by omega) (by
        rw [e]
        refine mv_B6_om hb ?_
        split
        · exact hB6
        · exact fun v hv => by cases hv)
      refine mv_JP.mono this (fun v G' h => ⟨?_, h.2⟩)
      rw [h.1, e, ← mv_om_as]
      rfl
    have same : ¬ (lo ≤ x ∧ mv_e6 (mv_xi a p0 it c i x) < mv_e6 acc) → mv_e6 acc = mv_e6 (mv_om acc (if lo ≤ x then mv_xi a p0 it c i x else none)) := fun h => by
      by_cases h1 : lo ≤ x
      · rw [if_pos h1, mv_e6_om hb hB6, if_neg (fun h2 => h ⟨h1, h2⟩)]
      · rw [if_neg h1]
        cases acc <;> rfl
    have new : lo ≤ x → mv_e6 (mv_xi a p0 it c i x) < mv_e6 acc → mv_e6 (mv_xi a p0 it c i x) = mv_e6 (mv_om acc (if lo ≤ x then mv_xi a p0 it c i x else none)) := fun h1 h2 => by
      rw [if_pos h1, mv_e6_om hb hB6, if_pos h2]
    have keep : ¬ (lo ≤ x ∧ mv_e6 (mv_xi a p0 it c i x) < mv_e6 acc) → mv_JP mm_X12_leastBehind (fun v G' => v = mv_e6 (mv_om acc (mv_mn (fun x => if lo ≤ x then mv_xi a p0 it c i x else none) (q + 1) x)) ∧ G' = G) 17 [some (.inr (100, 0)), some (.inl (i : Int)), some (.inl (y : Int)), some (.inl (mv_e6 acc)), some (.inl ((x : Int) + 1)), none] G := fun h => by
      rw [same h]
      have := step _ rfl
      rw [← same h] at this ⊢
      exact this
    have take : lo ≤ x → mv_e6 (mv_xi a p0 it c i x) < mv_e6 acc → mv_JP mm_X12_leastBehind (fun v G' => v = mv_e6 (mv_om acc (mv_mn (fun x => if lo ≤ x then mv_xi a p0 it c i x else none) (q + 1) x)) ∧ G' = G) 17 [some (.inr (100, 0)), some (.inl (i : Int)), some (.inl (y : Int)), some (.inl (mv_e6 (mv_xi a p0 it c i x))), some (.inl ((x : Int) + 1)), none] G := fun h1 h2 => by
      have := step _ rfl
      rw [← new h1 h2] at this
      exact this
    refine mv_J.i (fun h1 => ?_) (fun h1 => mv_J.cut (keep (fun h2 => h1 h2.2)))
    rcases hlo with ⟨e0, e1⟩ | ⟨e0, e1⟩
    · exact mv_J.t (by omega) (mv_J.cut (take (by omega) h1))
    · refine mv_J.f (by omega) ?_
      rw [mv_ws (x := (i : Int) - 1) (by omega), show (i : Int) - 1 = ((i - 1 : Nat) : Int) by omega, Int.toNat_natCast, Int.toNat_natCast, (hI (i - 1) (by omega)).1, (hI i hic).1]
      refine mv_J.ck (by omega) (mv_J.ck (by omega) (mv_J.ce (gx_canBeside hB hi _ _ _ _ (hl.2 (i - 1) (by omega)).1 (hl.2 i hic).1 hy (by omega)) (mv_J.bt (fun h2 => mv_J.cut (keep (fun h3 => h2 (by omega)))) (fun h2 => mv_J.cut (take (by omega) h1)))))
theorem gx_leastB (hB : mv_mB G a) (hi : mv_iB a) (hl : mv_ln a p0 it c) (hI : mv_mI G a p0 it c) (h46 : G 100 0 46 = (c : Int) - 1) (i : Nat) (hic : i < c) (ht : mv_mt G a p0 it c i) (y lo : Nat) (hy : y ≤ 60) (hlo : i = 0 ∧ lo = 0 ∨ 0 < i ∧ lo = y + (mv_dd a (it (i - 1)) (it i)).toNat) : ff_X12_leastBehind [.inr (100, 0), .inl i, .inl y] G = some (mv_e6 (mv_lm a p0 it c i lo), G) := by
  have hc10 := hl.1
  refine mv_Kp.eq (mv_Kp.of (mv_JP.of (rg_X12_leastBehind_0 i y G) ?_))
  rw [h46]
  refine mv_J.f (by omega) (mv_J.cut ?_)
  have := gx_leastKey hB hi hl hI i hic ht y lo hy hlo (a 0 0).toNat 0 none (by omega) (fun v hv => by cases hv)
  refine mv_JP.mono this (fun v G' h => ⟨?_, h.2⟩)
  rw [h.1, mv_mn_lo _ _ (by omega)]
  unfold mv_lm
  rw [show 0 + (a 0 0).toNat - lo = (a 0 0).toNat - lo by omega]
  rfl
theorem gx_leastE (h46 : G 100 0 46 = (c : Int) - 1) (y : Int) : ff_X12_leastBehind [.inr (100, 0), .inl (c : Int), .inl y] G = some (0, G) := by
  refine mv_Kp.eq (mv_Kp.of (mv_JP.of (rg_X12_leastBehind_0 c y G) ?_))
  rw [h46]
  exact mv_J.t (by omega) (mv_J.ret ⟨rfl, rfl⟩)
end RN
