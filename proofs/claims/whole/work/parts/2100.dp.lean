/-! ROOM: from the right, the least that those from one on can cost; what the class keeps of it. -/
def mv_oa (a b : Option Int) : Option Int := match a, b with | some x, some y => some (x + y) | _, _ => none
def mv_om (a b : Option Int) : Option Int := match a, b with | some x, some y => some (if y < x then y else x) | some x, none => some x | none, b => b
def mv_mn (f : Nat → Option Int) : Nat → Nat → Option Int
  | 0, _ => none
  | c + 1, y => mv_om (f y) (mv_mn f c (y + 1))
def mv_xe (w : Nat → Nat → Option Int) (d : Nat → Nat) (L : Nat) : Nat → Nat → Nat → Option Int
  | 0, i, x => w i x
  | k + 1, i, x => mv_oa (w i x) (mv_mn (mv_xe w d L k (i + 1)) (L - (x + d i)) (x + d i))
/-- the class's number for a cost -/
def mv_ph (v : Int) : Int := 16 * (v / 100) + v % 100
/-- costs of k persons at most -/
def mv_Qv (k : Nat) (o : Option Int) : Prop := ∀ v, o = some v → ∃ c m : Int, v = 100 * c + m ∧ 0 ≤ c ∧ c ≤ 999 * k ∧ 0 ≤ m ∧ m ≤ k
theorem mv_ph_eq {c m : Int} (h : 0 ≤ m ∧ m < 100) : mv_ph (100 * c + m) = 16 * c + m := by
  unfold mv_ph
  omega
def mv_cx (x : Int) (o : Option Int) : Prop := match o with | some v => x = mv_ph v | none => 1000000 ≤ x ∧ x ≤ 2000000
def mv_cz (x : Int) (o : Option Int) : Prop := match o with | some v => x = mv_ph v | none => x = 1000000
theorem mv_cz_cx {x : Int} {o : Option Int} (h : mv_cz x o) : mv_cx x o := by
  cases o with
  | none => unfold mv_cz at h; unfold mv_cx; dsimp only at h ⊢; omega
  | some v => exact h
theorem mv_Qv_oa {k : Nat} {a b : Option Int} (ha : mv_Qv 1 a) (hb : mv_Qv k b) : mv_Qv (k + 1) (mv_oa a b) := by
  intro v hv
  unfold mv_oa at hv
  split at hv
  · next x y =>
    cases hv
    obtain ⟨c, m, e, h1, h2, h3, h4⟩ := ha x rfl
    obtain ⟨c2, m2, e2, h5, h6, h7, h8⟩ := hb y rfl
    exact ⟨c + c2, m + m2, by omega, by omega, by omega, by omega, by omega⟩
  · cases hv
theorem mv_Qv_om {k : Nat} {a b : Option Int} (ha : mv_Qv k a) (hb : mv_Qv k b) : mv_Qv k (mv_om a b) := by
  intro v hv
  unfold mv_om at hv
  split at hv
  · next x y =>
    cases hv
    split
    · exact hb y rfl
    · exact ha x rfl
  · next x =>
    cases hv
    exact ha _ rfl
  · exact hb v hv
theorem mv_Qv_mn {k : Nat} {f : Nat → Option Int} (h : ∀ x, mv_Qv k (f x)) : ∀ c y, mv_Qv k (mv_mn f c y)
  | 0, _ => fun v hv => by cases hv
  | c + 1, y => mv_Qv_om (h y) (mv_Qv_mn h c (y + 1))
theorem mv_Qv_xe {w : Nat → Nat → Option Int} {d : Nat → Nat} {L : Nat} (h : ∀ i x, mv_Qv 1 (w i x)) : ∀ k i x, mv_Qv (k + 1) (mv_xe w d L k i x)
  | 0, i, x => h i x
  | k + 1, i, x => mv_Qv_oa (h i x) (mv_Qv_mn (fun y => mv_Qv_xe h k (i + 1) y) _ _)
theorem mv_Qv_b {k : Nat} {v : Int} (hk : k ≤ 10) (h : mv_Qv k (some v)) : 0 ≤ v ∧ v ≤ 999010 ∧ 0 ≤ mv_ph v ∧ mv_ph v ≤ 159850 := by
  obtain ⟨c, m, e, h1, h2, h3, h4⟩ := h v rfl
  subst e
  rw [mv_ph_eq (by omega)]
  omega
theorem mv_ph_lt {k : Nat} {u v : Int} (hk : k ≤ 10) (hu : mv_Qv k (some u)) (hv : mv_Qv k (some v)) : mv_ph u < mv_ph v ↔ u < v := by
  obtain ⟨c, m, e, h1, h2, h3, h4⟩ := hu u rfl
  obtain ⟨c2, m2, e2, h5, h6, h7, h8⟩ := hv v rfl
  subst e
  subst e2
  rw [mv_ph_eq (by omega), mv_ph_eq (by omega)]
  omega
theorem mv_ph_inj {k : Nat} {u v : Int} (hk : k ≤ 10) (hu : mv_Qv k (some u)) (hv : mv_Qv k (some v)) (h : mv_ph u = mv_ph v) : u = v := by
  have h1 := mv_ph_lt hk hu hv
  have h2 := mv_ph_lt hk hv hu
  omega
theorem mv_ph_add {k : Nat} {u v : Int} (hk : k ≤ 10) (hu : mv_Qv 1 (some u)) (hv : mv_Qv k (some v)) : mv_ph (u + v) = mv_ph u + mv_ph v := by
  obtain ⟨c, m, e, h1, h2, h3, h4⟩ := hu u rfl
  obtain ⟨c2, m2, e2, h5, h6, h7, h8⟩ := hv v rfl
  subst e
  subst e2
  rw [show 100 * c + m + (100 * c2 + m2) = 100 * (c + c2) + (m + m2) by omega, mv_ph_eq (by omega), mv_ph_eq (by omega), mv_ph_eq (by omega)]
  omega
/-- sums, in the class's numbers -/
theorem mv_cx_add {k : Nat} {x y : Int} {a b : Option Int} (hk : k ≤ 9) (ha : mv_Qv 1 a) (hb : mv_Qv k b) (hx : mv_cz x a) (hy : mv_cz y b) : mv_cx (x + y) (mv_oa a b) := by
  cases a with
  | none =>
    unfold mv_cz at hx
    dsimp only at hx
    subst hx
    cases b with
    | none => unfold mv_cz at hy; dsimp only at hy; subst hy; unfold mv_cx mv_oa; dsimp only; omega
    | some v =>
      have := mv_Qv_b (by omega) hb
      unfold mv_cz at hy
      dsimp only at hy
      subst hy
      unfold mv_cx mv_oa
      dsimp only
      omega
  | some u =>
    have hu := mv_Qv_b (by omega) ha
    unfold mv_cz at hx
    dsimp only at hx
    subst hx
    cases b with
    | none => unfold mv_cz at hy; dsimp only at hy; subst hy; unfold mv_cx mv_oa; dsimp only; omega
    | some v =>
      unfold mv_cz at hy
      dsimp only at hy
      subst hy
      unfold mv_cx mv_oa
      dsimp only
      exact (mv_ph_add (by omega) ha hb).symm
/-- the lesser of two, in the class's numbers -/
theorem mv_cz_min {k : Nat} {x y : Int} {a b : Option Int} (hk : k ≤ 10) (ha : mv_Qv k a) (hb : mv_Qv k b) (hx : mv_cx x a) (hy : mv_cz y b) : mv_cz (if y < x then y else x) (mv_om a b) := by
  cases a with
  | none =>
    unfold mv_cx at hx
    dsimp only at hx
    cases b with
    | none => unfold mv_cz at hy; dsimp only at hy; subst hy; unfold mv_cz mv_om; dsimp only; split <;> omega
    | some v =>
      have := mv_Qv_b hk hb
      unfold mv_cz at hy
      dsimp only at hy
      subst hy
      unfold mv_cz mv_om
      dsimp only
      rw [if_pos (by omega)]
  | some u =>
    have hu := mv_Qv_b hk ha
    unfold mv_cx at hx
    dsimp only at hx
    subst hx
    cases b with
    | none =>
      unfold mv_cz at hy
      dsimp only at hy
      subst hy
      unfold mv_cz mv_om
      dsimp only
      rw [if_neg (by omega)]
    | some v =>
      unfold mv_cz at hy
      dsimp only at hy
      subst hy
      unfold mv_cz mv_om
      dsimp only
      have := mv_ph_lt hk hb ha
      by_cases h : v < u
      · rw [if_pos h, if_pos (this.mpr h)]
      · rw [if_neg h, if_neg (fun h2 => h (this.mp h2))]
/-! what it costs to move one -/
def mv_qm : Nat → Bool := fun j => Nat.ble j 4 || Nat.beq j 11
def mv_tmm (a : mv_a) (p : Nat) (by2 : Int) : Nat → Int := fun t => match t with
  | 0 => a 4 p
  | 1 => a 5 p
  | 2 => a 6 p
  | 3 => a 7 p
  | 4 => a 0 2
  | 11 => by2
  | _ => 0
def mv_hd9 (v : Int) : Int := if v < 0 then 0 else if 999 < v then 999 else v
def mv_mco (a : mv_a) (p : Nat) (by2 : Int) : Int := mv_hd9 (mv_lv a 22 (mv_tmm a p by2) by2)
theorem mv_hd9_b (v : Int) : 0 ≤ mv_hd9 v ∧ mv_hd9 v ≤ 999 := by
  unfold mv_hd9
  split
  · omega
  · split <;> omega
noncomputable def mv_wt (a : mv_a) (p0 q x : Nat) : Option Int := @ite _ (mv_clr a x (a 4 q) ∧ (x : Int) + mv_tk a q ≤ a 0 0) (Classical.propDecidable _) (if q = p0 ∨ (x : Int) = a 3 q then some 0 else if a 8 q = 0 then none else some (100 * mv_mco a q (if (x : Int) < a 3 q then a 3 q - x else x - a 3 q) + 1)) none
theorem mv_wt_Q {a : mv_a} {p0 q x : Nat} : mv_Qv 1 (mv_wt a p0 q x) := by
  intro v hv
  unfold mv_wt at hv
  split at hv
  · split at hv
    · cases hv; exact ⟨0, 0, by omega, by omega, by omega, by omega, by omega⟩
    · split at hv
      · cases hv
      · cases hv
        have := mv_hd9_b (mv_lv a 22 (mv_tmm a q (if (x : Int) < a 3 q then a 3 q - x else x - a 3 q)) (if (x : Int) < a 3 q then a 3 q - x else x - a 3 q))
        exact ⟨_, 1, rfl, this.1, by unfold mv_mco; omega, by omega, by omega⟩
  · cases hv
def mv_dd (a : mv_a) (q q2 : Nat) : Int := mv_tk a q + mv_ap (a 5 q) (a 7 q) (a 5 q2) (a 7 q2)
theorem mv_tmm_in {a : mv_a} (hi : mv_iB a) (p : Nat) (hp : (p : Int) < a 0 1) (by2 : Int) (hb : 0 ≤ by2 ∧ by2 ≤ 100) : ∀ j, j < 12 → mv_in (mv_tmm a p by2 j) := by
  have b1 := hi.1
  have t := hi.2.2.2.2.1 p hp
  intro j hj
  unfold mv_in
  match j, hj with
  | 0, _ => show -2147483648 ≤ a 4 p ∧ a 4 p < 2147483648; omega
  | 1, _ => show -2147483648 ≤ a 5 p ∧ a 5 p < 2147483648; omega
  | 2, _ => show -2147483648 ≤ a 6 p ∧ a 6 p < 2147483648; omega
  | 3, _ => show -2147483648 ≤ a 7 p ∧ a 7 p < 2147483648; omega
  | 4, _ => show -2147483648 ≤ a 0 2 ∧ a 0 2 < 2147483648; omega
  | 5, _ => show -2147483648 ≤ (0 : Int) ∧ (0 : Int) < 2147483648; omega
  | 6, _ => show -2147483648 ≤ (0 : Int) ∧ (0 : Int) < 2147483648; omega
  | 7, _ => show -2147483648 ≤ (0 : Int) ∧ (0 : Int) < 2147483648; omega
  | 8, _ => show -2147483648 ≤ (0 : Int) ∧ (0 : Int) < 2147483648; omega
  | 9, _ => show -2147483648 ≤ (0 : Int) ∧ (0 : Int) < 2147483648; omega
  | 10, _ => show -2147483648 ≤ (0 : Int) ∧ (0 : Int) < 2147483648; omega
  | 11, _ => show -2147483648 ≤ by2 ∧ by2 < 2147483648; omega
/-! the class reckons what it costs -/
section CK
variable {G : mv_G} {a : mv_a}
theorem mv_cL14.ch {S : List Nat} {T : List (Nat × Nat)} {G2 : mv_G} {o : Nat} (h : mv_cL G 14 a o) (hc : mv_ch S T G G2) (hS : ([14, 15, 16, 17, 18].any fun k => S.contains k || T.any fun q => q.1 == k) = false) : mv_cL G2 14 a o := by
  have hk : ∀ k, k ∈ [14, 15, 16, 17, 18] → G2 k = G k := fun k hk => hc.cell k (Bool.eq_false_iff.mpr (List.any_eq_false.mp hS k hk))
  unfold mv_cL
  rw [hk 14 (by decide), hk (14 + 1) (by decide), hk (14 + 2) (by decide), hk (14 + 3) (by decide), hk (14 + 4) (by decide)]
  exact h
/-- the costs are reckoned -/
def mv_kC (G : mv_G) (a : mv_a) : Prop := ∀ p : Nat, (p : Int) < a 0 1 → a 3 p ≠ -1 → a 8 p ≠ 0 → ∀ y : Nat, 0 < y → (y : Int) < a 0 0 → G 77 (p + 1) y = mv_mco a p y
theorem mv_told_w {p : Nat} (h : mv_cB G a) : ∀ t : Nat, t ≤ 3 → G 5 (t + 1) p = mv_tmm a p 0 t := fun t ht => by
  match t, ht with
  | 0, _ => show G 5 1 p = a 4 p; rw [h.2.2.2.2.1]
  | 1, _ => show G 5 2 p = a 5 p; rw [h.2.2.2.2.2.1]
  | 2, _ => show G 5 3 p = a 6 p; rw [h.2.2.2.2.2.2.1]
  | 3, _ => show G 5 4 p = a 7 p; rw [h.2.2.2.2.2.2.2.1]
theorem mv_qm_l : ∀ j, j < 12 → mv_qm j = true → j ∈ [11, 3, 2, 1, 0, 4] := by decide
set_option maxHeartbeats 1000000 in
theorem fx_reckonCosts (hB : mv_cB G a) (hi : mv_iB a) (hL : mv_cL G 14 a 22) (hLi : mv_iL mv_qm a 22) : mv_Kp (ff_X8_reckonCosts [.inr (74, 0)] G) (fun _ G' => mv_kC G' a ∧ mv_ch [76, 77, 19] [] G G') := by
  have b1 := hi.1
  obtain ⟨P, hP⟩ : ∃ P : Int → mv_G → Prop, P = (fun _ G' => mv_kC G' a ∧ mv_ch [76, 77, 19] [] G G') := ⟨_, rfl⟩
  rw [← hP]
  have key : ∀ (n p : Nat) (G1 : mv_G), p + n = (a 0 1).toNat → mv_ch [76, 77, 19] [] G G1 → G1 76 0 4 = a 0 2 → (∀ q : Nat, q < p → a 3 q ≠ -1 → a 8 q ≠ 0 → ∀ y : Nat, 0 < y → (y : Int) < a 0 0 → G1 77 (q + 1) y = mv_mco a q y) → mv_JP mm_X8_reckonCosts P 15 [some (.inr (74, 0)), some (.inl (p : Int)), none] G1 := by
    intro n
    induction n with
    | zero =>
      intro p G1 hp hc h4 hd
      refine mv_JP.of (rg_X8_reckonCosts_15 p G1) ?_
      rw [(hB.ch hc (by decide)).1.2.1]
      refine mv_J.f (by omega) (mv_J.ret ?_)
      rw [hP]
      exact ⟨fun q h1 => hd q (by omega), hc⟩
    | succ n ih =>
      intro p G1 hp hc h4 hd
      have hB1 := hB.ch hc (by decide)
      have tp := hi.2.2.2.2.1 p (by omega)
      refine mv_JP.of (rg_X8_reckonCosts_15 p G1) ?_
      rw [hB1.1.2.1, mv_ws (x := (p : Int) + 1) (by omega)]
      have skip : ∀ G2, mv_ch [76, 77, 19] [] G G2 → G2 76 0 4 = a 0 2 → (∀ q : Nat, q < p → a 3 q ≠ -1 → a 8 q ≠ 0 → ∀ y : Nat, 0 < y → (y : Int) < a 0 0 → G2 77 (q + 1) y = mv_mco a q y) → (a 3 p ≠ -1 → a 8 p ≠ 0 → ∀ y : Nat, 0 < y → (y : Int) < a 0 0 → G2 77 (p + 1) y = mv_mco a p y) → mv_JP mm_X8_reckonCosts P 15 [some (.inr (74, 0)), some (.inl ((p : Int) + 1)), none] G2 := fun G2 h1 h2 h3 h5 => ih (p + 1) G2 (by omega) h1 h2 (fun q hq => by
        rcases Nat.lt_or_ge q p with h6 | h6
        · exact h3 q h6
        · rw [show q = p by omega]; exact h5)
      refine mv_J.t (by omega) (mv_J.ce (fx_isSeated hB1 hi p) (mv_J.bt (fun h1 => mv_J.cut (skip G1 hc h4 hd (fun h2 => absurd ⟨by omega, by omega, by rw [Int.toNat_natCast]; exact h2⟩ h1))) (fun h1 => mv_J.ck (by omega) (mv_J.ck (by omega) ?_))))
      rw [hB1.2.2.2.2.2.2.2.2.1, Int.toNat_natCast]
      refine mv_J.i (fun h2 => mv_J.cut (skip G1 hc h4 hd (fun _ h3 => absurd h2 h3))) (fun h2 => mv_J.cut ?_)
      -- the terms told, then each distance
      have c86 : ∀ (m y : Nat) (G2 : mv_G), 0 < y → (y : Int) + m = a 0 0 → mv_ch [76, 77, 19] [] G G2 → (∀ j ∈ [3, 2, 1, 0, 4], G2 76 0 j = mv_tmm a p 0 j) → (∀ q : Nat, q < p → a 3 q ≠ -1 → a 8 q ≠ 0 → ∀ y : Nat, 0 < y → (y : Int) < a 0 0 → G2 77 (q + 1) y = mv_mco a q y) → (∀ z : Nat, 0 < z → z < y → G2 77 (p + 1) z = mv_mco a p z) → mv_JP mm_X8_reckonCosts P 86 [some (.inr (74, 0)), some (.inl (p : Int)), some (.inl (y : Int))] G2 := by
        intro m
        induction m with
        | zero =>
          intro y G2 hy0 hy hc2 ht hd2 hz
          refine mv_JP.of (rg_X8_reckonCosts_86 p y G2) ?_
          rw [(hB.ch hc2 (by decide)).1.1, mv_ws (x := (p : Int) + 1) (by omega)]
          exact mv_J.f (by omega) (mv_J.cut (skip G2 hc2 (ht 4 (by decide)) hd2 (fun _ _ z h3 h4 => hz z h3 (by omega))))
        | succ m ihm =>
          intro y G2 hy0 hy hc2 ht hd2 hz
          refine mv_JP.of (rg_X8_reckonCosts_86 p y G2) ?_
          rw [(hB.ch hc2 (by decide)).1.1, mv_ws (x := (y : Int) + 1) (by omega), Int.toNat_natCast, Int.toNat_natCast]
          refine mv_J.t (by omega) (mv_J.ck (by omega) (mv_J.ck (by omega) ?_))
          have hc3 : mv_ch [76, 77, 19] [] G (mv_up G2 76 0 11 y) := hc2.uc rfl
          have ht3 : ∀ j ∈ [11, 3, 2, 1, 0, 4], (mv_up G2 76 0 11 (y : Int)) 76 0 j = mv_tmm a p y j := mv_up_l (fun j hj => by
            rw [ht j hj]
            revert j
            simp only [List.forall_mem_cons]
            exact ⟨rfl, rfl, rfl, rfl, rfl, fun j h => by cases h⟩) rfl
          have e77 : (mv_up G2 76 0 11 (y : Int)) 77 = G2 77 := mv_up_k (by decide)
          generalize mv_up G2 76 0 11 (y : Int) = G3 at hc3 ht3 e77
          have hL3 := mv_cL14.ch hL hc3 (by decide)
          refine mv_J.cn (fx_value_14 hL3 hLi (fun j h3 h5 => ht3 j (mv_qm_l j h3 h5)) (mv_tmm_in hi p (by omega) y (by omega)) y) (fun s G4 h3 => ?_)
          obtain ⟨hs, hc4⟩ := h3
          refine mv_J.ce (mv_max_eq _ _ _) (mv_J.ce (mv_min_eq _ _ _) (mv_J.ck (by omega) (mv_J.cut ?_)))
          have ev : (if (999 : Int) < (if s < 0 then 0 else s) then 999 else (if s < 0 then 0 else s)) = mv_mco a p y := by
            unfold mv_mco mv_hd9
            rw [← hs]
            by_cases h6 : s < 0
            · rw [if_pos h6, if_pos h6, if_neg (by omega)]
            · rw [if_neg h6, if_neg h6]
          rw [ev]
          have e774 : G4 77 = G2 77 := (hc4.cell 77 rfl).trans e77
          refine ihm (y + 1) _ (by omega) (by omega) ((hc3.tr (hc4.mono rfl rfl)).uc rfl) (fun j hj => ?_) (fun q hq h5 h6 z h7 h8 => ?_) (fun z h7 h8 => ?_)
          · rw [mv_up_k (by decide), hc4.cell 76 rfl, ht3 j (List.mem_cons_of_mem _ hj)]
            revert j
            simp only [List.forall_mem_cons]
            exact ⟨rfl, rfl, rfl, rfl, rfl, fun j h => by cases h⟩
          · rw [mv_up_i (by omega), e774]
            exact hd2 q hq h5 h6 z h7 h8
          · rw [mv_up_at]
            split
            · next h9 => rw [h9]
            · rw [e774]; exact hz z h7 (by omega)
      have c56 : ∀ (m t : Nat) (G2 : mv_G), t + m = 4 → mv_ch [76, 77, 19] [] G G2 → G2 76 0 4 = a 0 2 → (∀ j, j < t → G2 76 0 j = mv_tmm a p 0 j) → (∀ q : Nat, q < p → a 3 q ≠ -1 → a 8 q ≠ 0 → ∀ y : Nat, 0 < y → (y : Int) < a 0 0 → G2 77 (q + 1) y = mv_mco a q y) → mv_JP mm_X8_reckonCosts P 56 [some (.inr (74, 0)), some (.inl (p : Int)), some (.inl (t : Int))] G2 := by
        intro m
        induction m with
        | zero =>
          intro t G2 ht hc2 h42 hj hd2
          have et : t = 4 := by omega
          subst et
          refine mv_JP.of (rg_X8_reckonCosts_56 p _ G2) (mv_J.t (by omega) (mv_J.cut ?_))
          exact c86 ((a 0 0).toNat - 1) 1 G2 (by omega) (by omega) hc2 (fun j hj2 => by
            revert j
            simp only [List.forall_mem_cons]
            exact ⟨hj 3 (by omega), hj 2 (by omega), hj 1 (by omega), hj 0 (by omega), h42, fun j h => by cases h⟩) hd2 (fun z h3 h5 => by omega)
        | succ m ihm =>
          intro t G2 ht hc2 h42 hj hd2
          have hB2 := hB.ch hc2 (by decide)
          refine mv_JP.of (rg_X8_reckonCosts_56 p t G2) (mv_J.f (by omega) (mv_J.ck (by omega) (mv_J.ck (by omega) (mv_J.ck (by omega) (mv_J.cut ?_)))))
          rw [Int.toNat_natCast, Int.toNat_natCast, mv_told_w hB2 t (by omega), mv_ws (x := (t : Int) + 1) (by omega)]
          refine ihm (t + 1) _ (by omega) (hc2.uc rfl) ?_ (fun j h3 => ?_) (fun q hq => by rw [mv_up_k (by decide)]; exact hd2 q hq)
          · rw [mv_up_j (by omega)]; exact h42
          · rw [mv_up_at]
            split
            · next h5 => rw [h5]
            · exact hj j (by omega)
      exact c56 4 0 G1 (by omega) hc h4 (fun j h => by omega) hd
  refine mv_Kp.of (mv_JP.of (rg_X8_reckonCosts_0 G) (mv_J.ck (by omega) (mv_J.cut ?_)))
  exact key (a 0 1).toNat 0 _ (by omega) (mv_ch.rf.uc rfl) (by rw [mv_ups_eq]; exact hB.1.2.2.1) (fun q hq => by omega)
end CK
