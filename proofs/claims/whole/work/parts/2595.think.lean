/-! What is only thought. -/
def st_rt (a b : mv_a) : Prop := (∀ i : Nat, (i : Int) < a 0 3 → b 9 i = a 9 i ∧ b 10 i = a 10 i ∧ b 11 i = a 11 i ∧ b 12 i = a 12 i) ∧ (∀ j, 60 ≤ j → b 2 j = a 2 j) ∧ ∀ j, 10 ≤ j → b 3 j = a 3 j
section TH
variable {G G2 : mv_G} {a b c : mv_a}
theorem st_rt.rf : st_rt a a := ⟨fun _ _ => ⟨rfl, rfl, rfl, rfl⟩, fun _ _ => rfl, fun _ _ => rfl⟩
theorem st_rt.tr (h : st_rt a b) (hl : a 0 3 ≤ b 0 3) (h2 : st_rt b c) : st_rt a c :=
  ⟨fun i hi => by
    obtain ⟨e1, e2, e3, e4⟩ := h2.1 i (by omega)
    rw [e1, e2, e3, e4]
    exact h.1 i hi, fun j hj => (h2.2.1 j hj).trans (h.2.1 j hj), fun j hj => (h2.2.2 j hj).trans (h.2.2 j hj)⟩
theorem st_wr_rt {p w x : Int} : st_rt a (st_wr a p w x) := by
  refine ⟨fun i hi => ?_, fun j _ => by rw [st_wr_o (by decide) (by decide)], fun j _ => by rw [st_wr_o (by decide) (by decide)]⟩
  unfold st_wr
  by_cases h : a 0 3 < 150
  · rw [if_pos h]
    show (if i = (a 0 3).toNat then _ else a 9 i) = a 9 i ∧ (if i = (a 0 3).toNat then _ else a 10 i) = a 10 i ∧ (if i = (a 0 3).toNat then _ else a 11 i) = a 11 i ∧ (if i = (a 0 3).toNat then _ else a 12 i) = a 12 i
    rw [if_neg (by omega), if_neg (by omega), if_neg (by omega), if_neg (by omega)]
    exact ⟨rfl, rfl, rfl, rfl⟩
  · rw [if_neg h]
    exact ⟨rfl, rfl, rfl, rfl⟩
theorem st_s3_rt {f : Nat → Int} (hf : ∀ j, 10 ≤ j → f j = a 3 j) : st_rt a (st_set a 3 f) := ⟨fun _ _ => ⟨rfl, rfl, rfl, rfl⟩, fun _ _ => rfl, hf⟩
theorem st_sw_rt {f : Nat → Int} {p w x : Int} (hf : ∀ j, 10 ≤ j → f j = a 3 j) : st_rt a (st_wr (st_set a 3 f) p w x) := (st_s3_rt hf).tr (Int.le_refl _) st_wr_rt
theorem st_ca_rt (hi : mv_iB a) {p : Nat} (hp : p < mv_P a) : st_rt a (st_ca a p) := st_sw_rt (fun j hj => by
  obtain ⟨hP, hPe⟩ := mv_P_le hi
  have b := hi.1
  unfold mv_sp
  exact if_neg (by omega))
theorem st_ga_rt (hi : mv_iB a) {p : Nat} (hp : p < mv_P a) : st_rt a (st_ga a p) := st_sw_rt (fun j hj => by
  obtain ⟨hP, hPe⟩ := mv_P_le hi
  have b := hi.1
  unfold mv_sp
  exact if_neg (by omega))
theorem st_ba_rt (hi : mv_iB a) {p : Nat} : st_rt a (st_ba a p).2 := by
  obtain ⟨hP, hPe⟩ := mv_P_le hi
  have b := hi.1
  unfold st_ba
  split
  · exact st_wr_rt
  · exact st_sw_rt (fun j hj => if_neg (fun h => by omega))
theorem st_do_rt (hi : mv_iX b) {c : Int × Int} {i : Nat} (hl : (i : Int) < b 0 4) : st_rt b (st_do b c i).2 := by
  obtain ⟨d1, ⟨d2, d3⟩, d4⟩ := hi.2.2.2.2 i hl
  have hp : (b 14 i).toNat < mv_P b := by unfold mv_P; omega
  unfold st_do
  split
  · exact st_ca_rt hi.1 hp
  · split
    · exact st_ga_rt hi.1 hp
    · exact st_ba_rt hi.1
theorem st_lx_rt (hi : mv_iX a) {c : Int × Int} : ∀ n : Nat, (n : Int) ≤ a 0 4 → st_rt a (st_lx (0, c, a) n).2.2 := by
  intro n
  induction n with
  | zero => exact fun _ => st_rt.rf
  | succ n ih =>
    intro hn
    have i0 := ih (by omega)
    obtain ⟨i1, i2, i3, i4⟩ := st_lx_p hi (c := c) n (by omega)
    show st_rt a (st_l1 (st_lx (0, c, a) n) n).2.2
    unfold st_l1
    by_cases h : st_cn (st_lx (0, c, a) n).2.2 n
    · rw [st_if_y h]
      exact i0.tr i2.1.2.1 (st_do_rt i1 (by rw [i2.1.1 4 (by decide) (by decide)]; omega))
    · rw [st_if_n h]
      exact i0
theorem st_wm_rt {h : Int} (hi : mv_iB b) : st_rt b (st_wm b h) := ⟨fun _ _ => ⟨rfl, rfl, rfl, rfl⟩, fun j hj => st_if_n (fun ⟨p, h1, h2, h3, h4⟩ => by
  obtain ⟨hP, hPe⟩ := mv_P_le hi
  have b1 := hi.1
  have b5 := hi.2.2.2.2.1 p (by omega)
  obtain ⟨b6, -⟩ := hi.2.2.2.2.2.1 p (by omega) h2
  omega), fun _ _ => rfl⟩
theorem st_s2_rt {x : Int} : st_rt b (st_s1 b 2 x) := ⟨fun _ _ => ⟨rfl, rfl, rfl, rfl⟩, fun _ _ => rfl, fun _ _ => rfl⟩
theorem st_hn_rt (hi : mv_iB b) : st_rt b (st_hn b) := (st_wm_rt hi).tr (Int.le_refl _) st_s2_rt
theorem st_hr_rt (hi : mv_iX a) {c : Int × Int} : st_rt a (st_hr c a).2.2 := by
  have d := hi.2.2.2.1
  obtain ⟨h1, h2, h3, h4⟩ := st_lx_p hi (c := c) (a 0 4).toNat (by omega)
  exact (st_lx_rt hi (a 0 4).toNat (by omega)).tr h2.1.2.1 (st_hn_rt h1.1)
noncomputable def st_tt (u : (Int × Int) × mv_a) : Nat → (Int × Int) × mv_a
  | 0 => u
  | n + 1 => (st_hr (st_tt u n).1 (st_tt u n).2).2
theorem st_tt_p (hi : mv_iX a) {c : Int × Int} : ∀ n : Nat, a 0 2 + n ≤ 1000 → mv_iX (st_tt (c, a) n).2 ∧ st_ab a (st_tt (c, a) n).2 ∧ (st_tt (c, a) n).2 0 2 = a 0 2 + n ∧ st_rt a (st_tt (c, a) n).2 := by
  intro n
  induction n with
  | zero => exact fun _ => ⟨hi, st_ab.rf, by show a 0 2 = _; omega, st_rt.rf⟩
  | succ n ih =>
    intro hn
    obtain ⟨i1, i2, i3, i4⟩ := ih (by omega)
    obtain ⟨j1, j2, j3, j4, j5⟩ := st_hr_p i1 (c := (st_tt (c, a) n).1) (by omega)
    exact ⟨j1, i2.tr j2, by show (st_hr (st_tt (c, a) n).1 (st_tt (c, a) n).2).2.2 0 2 = _; rw [j3, i3]; omega, i4.tr i2.2.1 (st_hr_rt i1)⟩
/-- no line is due -/
def st_nl (a : mv_a) (h n : Int) : Prop := ∀ i : Nat, (i : Int) < a 0 4 → ¬ (h ≤ a 15 i ∧ a 15 i < n)
theorem st_lx_nl {c : Int × Int} (hn : st_nl a (a 0 2) (a 0 2 + 1)) : ∀ n : Nat, (n : Int) ≤ a 0 4 → st_lx (0, c, a) n = (0, c, a) := by
  intro n
  induction n with
  | zero => exact fun _ => rfl
  | succ n ih =>
    intro h
    show st_l1 (st_lx (0, c, a) n) n = _
    rw [ih (by omega)]
    unfold st_l1
    exact st_if_n (fun hc => hn n (by omega) ⟨by have := hc.1; dsimp only at this; omega, by have := hc.1; dsimp only at this; omega⟩)
theorem st_hr_nl (hi : mv_iX a) {c : Int × Int} (hn : st_nl a (a 0 2) (a 0 2 + 1)) : st_hr c a = (0, c, st_hn a) := by
  have d := hi.2.2.2.1
  unfold st_hr
  rw [st_lx_nl hn _ (by omega)]
noncomputable def st_sk (a : mv_a) (n : Int) : mv_a := if a 0 2 < n then st_s1 (st_wm a (n - 1)) 2 n else a
theorem st_wm_2 {x : Int} {h n : Int} : st_s1 (st_wm (st_s1 (st_wm a h) 2 x) n) 2 (n + 1) = st_s1 (st_wm a n) 2 (n + 1) := by
  refine funext fun o => ?_
  by_cases e0 : o = 0
  · subst e0
    refine funext fun j => ?_
    by_cases e : j = 2
    · subst e; rw [st_s1_0, st_s1_0]
    · rw [st_s1_j e, st_s1_j e]
      show st_s1 (st_wm a h) 2 x 0 j = st_wm a n 0 j
      rw [st_s1_j e]; rfl
  · rw [st_s1_o e0, st_s1_o e0]
    by_cases e2 : o = 2
    · subst e2
      refine funext fun i => ?_
      have hp : mv_P (st_s1 (st_wm a h) 2 x) = mv_P a := rfl
      show st_wf (st_s1 (st_wm a h) 2 x) n (mv_P (st_s1 (st_wm a h) 2 x)) i = st_wf a n (mv_P a) i
      rw [hp]
      have cv : st_cv (st_s1 (st_wm a h) 2 x) (mv_P a) i = st_cv a (mv_P a) i := rfl
      unfold st_wf
      rw [cv]
      by_cases c : st_cv a (mv_P a) i
      · rw [st_if_y c, st_if_y c]
      · rw [st_if_n c, st_if_n c]
        show st_wf a h (mv_P a) i = _
        exact st_if_n c
    · show st_set (st_s1 (st_wm a h) 2 x) 2 _ o = st_set a 2 _ o
      rw [st_set_o e2, st_set_o e2, st_s1_o e0]
      exact st_set_o e2
/-- hours without a line only warm -/
theorem st_tt_nl (hi : mv_iX a) {c : Int × Int} : ∀ d : Nat, a 0 2 + d ≤ 1000 → st_nl a (a 0 2) (a 0 2 + d) → st_tt (c, a) d = (c, st_sk a (a 0 2 + d)) := by
  intro d
  induction d with
  | zero =>
    intro _ _
    unfold st_sk
    rw [if_neg (by omega)]
    rfl
  | succ d ih =>
    intro h hn
    have i0 := ih (by omega) (fun i hi h => hn i hi (by omega))
    obtain ⟨i1, i2, i3, i4⟩ := st_tt_p hi (c := c) d (by omega)
    show (st_hr (st_tt (c, a) d).1 (st_tt (c, a) d).2).2 = _
    rw [i0] at i1 i2 i3 ⊢
    dsimp only at i1 i2 i3 ⊢
    rw [st_hr_nl i1 (fun i hi h => hn i (by rw [← i2.1 4 (by decide) (by decide)]; exact hi) (by rw [i2.2.2 15 (by decide) (by decide) (by decide) (by decide), i3] at h; omega))]
    dsimp only
    refine congrArg (Prod.mk c) ?_
    unfold st_hn
    rw [i3]
    unfold st_sk
    rw [if_pos (show a 0 2 < a 0 2 + ((d + 1 : Nat) : Int) by omega), show a 0 2 + ((d + 1 : Nat) : Int) - 1 = a 0 2 + (d : Int) by omega, show a 0 2 + ((d + 1 : Nat) : Int) = a 0 2 + (d : Int) + 1 by omega]
    by_cases e : a 0 2 < a 0 2 + (d : Int)
    · rw [if_pos e, st_wm_2]
    · rw [if_neg e]
theorem st_tt_add {u : (Int × Int) × mv_a} (m : Nat) : ∀ n, st_tt u (m + n) = st_tt (st_tt u m) n := by
  intro n
  induction n with
  | zero => rfl
  | succ n ih =>
    show (st_hr (st_tt u (m + n)).1 (st_tt u (m + n)).2).2 = (st_hr (st_tt (st_tt u m) n).1 (st_tt (st_tt u m) n).2).2
    rw [ih]
/-- the lines before an hour -/
def st_nb (a : mv_a) (h : Int) : Nat → Nat
  | 0 => 0
  | n + 1 => st_nb a h n + (if a 15 n < h then 1 else 0)
theorem st_nb_le {h : Int} : ∀ n, st_nb a h n ≤ n := by
  intro n
  induction n with
  | zero => exact Nat.le_refl _
  | succ n ih =>
    show st_nb a h n + (if a 15 n < h then 1 else 0) ≤ n + 1
    split <;> omega
theorem st_nb_all {h : Int} : ∀ n, st_nb a h n = n → ∀ i, i < n → a 15 i < h := by
  intro n
  induction n with
  | zero => exact fun _ i hi => absurd hi (Nat.not_lt_zero i)
  | succ n ih =>
    intro e i hi
    have e : st_nb a h n + (if a 15 n < h then 1 else 0) = n + 1 := e
    have l := st_nb_le (a := a) (h := h) n
    by_cases c : a 15 n < h
    · rw [if_pos c] at e
      by_cases e2 : i = n
      · rw [e2]; exact c
      · exact ih (by omega) i (by omega)
    · rw [if_neg c] at e; omega
theorem st_nb_mn {h h2 : Int} (hh : h ≤ h2) : ∀ n, st_nb a h n ≤ st_nb a h2 n := by
  intro n
  induction n with
  | zero => exact Nat.le_refl _
  | succ n ih =>
    show st_nb a h n + (if a 15 n < h then 1 else 0) ≤ st_nb a h2 n + (if a 15 n < h2 then 1 else 0)
    split
    · rw [if_pos (by omega)]; omega
    · split <;> omega
theorem st_nb_st {h h2 : Int} {i : Nat} (hh : h ≤ a 15 i) (h3 : a 15 i < h2) : ∀ n, i < n → st_nb a h n + 1 ≤ st_nb a h2 n := by
  intro n
  induction n with
  | zero => exact fun hi => absurd hi (Nat.not_lt_zero i)
  | succ n ih =>
    intro hi
    show st_nb a h n + (if a 15 n < h then 1 else 0) + 1 ≤ st_nb a h2 n + (if a 15 n < h2 then 1 else 0)
    by_cases e : i = n
    · subst e
      rw [if_neg (by omega), if_pos h3]
      have := st_nb_mn (a := a) (h := h) (h2 := h2) (by omega) i
      omega
    · have := ih (by omega)
      split
      · rw [if_pos (by omega)]; omega
      · split <;> omega
/-- the next hour that has a line -/
def st_nx (a : mv_a) (h r : Int) : Prop := st_nl a h r ∧ r ≤ 1000 ∧ (r < 1000 → h ≤ r ∧ ∃ i : Nat, (i : Int) < a 0 4 ∧ a 15 i = r)
theorem fx_nextHour (hX : mv_cX G a) (hi : mv_iX a) (h : Int) : mv_Kp (ff_X3_nextHour [.inr (20, 0), .inl h] G) (fun r G' => G' = G ∧ st_nx a h r) := by
  have dd := hi.2.2.2.1
  obtain ⟨L, hL⟩ : ∃ L : Nat, a 0 4 = L := ⟨(a 0 4).toNat, by omega⟩
  obtain ⟨d1, d2⟩ := hX.2.2.2.2
  have lp : ∀ (k i : Nat) (r : Int), i + k = L → (∀ j : Nat, j < i → ¬ (h ≤ a 15 j ∧ a 15 j < r)) → r ≤ 1000 → (r < 1000 → h ≤ r ∧ ∃ j : Nat, (j : Int) < a 0 4 ∧ a 15 j = r) → mv_JP mm_X3_nextHour (fun r G' => G' = G ∧ st_nx a h r) 6 [some (.inr (20, 0)), some (.inl h), some (.inl r), some (.inl (i : Int))] G := by
    intro k
    induction k with
    | zero =>
      intro i r hk h1 h2 h3
      exact mv_JP.of (rg_X3_nextHour_6 _ _ _ G) (mv_J.f (by rw [d1]; omega) (mv_J.ret ⟨rfl, fun j hj => h1 j (by omega), h2, h3⟩))
    | succ k ih =>
      intro i r hk h1 h2 h3
      obtain ⟨-, -, v4⟩ := hi.2.2.2.2 i (by omega)
      refine mv_JP.of (rg_X3_nextHour_6 _ _ _ G) (mv_J.t (by rw [d1]; omega) (mv_J.t (by omega) (mv_J.ck (by omega) ?_)))
      rw [Int.toNat_natCast, (d2 i (by omega)).2.2, show mv_w ((i : Int) + 1) = ((i + 1 : Nat) : Int) from mv_ws (by omega)]
      have old : ∀ r2 : Int, r2 ≤ r → ¬ (h ≤ a 15 i ∧ a 15 i < r2) → ∀ j : Nat, j < i + 1 → ¬ (h ≤ a 15 j ∧ a 15 j < r2) := fun r2 q1 q2 j hj q3 => by
        by_cases e : j = i
        · subst e; exact q2 q3
        · exact h1 j (by omega) (by omega)
      refine mv_J.i (fun c => mv_J.cut (ih (i + 1) r (by omega) (old r (Int.le_refl _) (by omega)) h2 h3)) (fun c => mv_J.ck (by omega) (mv_J.i (fun c2 => mv_J.ck (by omega) (mv_J.cut (ih (i + 1) (a 15 i) (by omega) (old _ (by omega) (by omega)) (by omega) (fun _ => ⟨by omega, i, by omega, rfl⟩)))) (fun c2 => mv_J.cut (ih (i + 1) r (by omega) (old r (Int.le_refl _) (by omega)) h2 h3))))
  exact mv_Kp.of (mv_JP.of (rg_X3_nextHour_0 _ G) (mv_J.cut (lp L 0 1000 (by omega) (fun j hj => absurd hj (Nat.not_lt_zero j)) (by omega) (fun h => absurd h (by omega)))))
end TH
