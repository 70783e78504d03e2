/-! ROOM, both sides. -/
theorem mv_ins_has {n : Nat} {r : mv_a} {e : Nat → Int} {Q : (Nat → Int) → Prop} (h : (∃ i, i < n ∧ Q (fun t => r t i)) ∨ Q e) : ∃ i, i < n + 1 ∧ Q (fun t => mv_ins n r e t i) := by
  have hle := mv_pos_le (f := r 0) (x := e 0) n
  unfold mv_ins
  generalize mv_pos (r 0) (e 0) n = m at hle
  rcases h with ⟨i, h1, h2⟩ | h
  · by_cases c : i < m
    · exact ⟨i, by omega, by simp only [if_pos c]; exact h2⟩
    · refine ⟨i + 1, by omega, ?_⟩
      simp only [if_neg (show ¬ i + 1 < m by omega), if_neg (show ¬ i + 1 = m by omega), Nat.add_sub_cancel]
      exact h2
  · refine ⟨m, by omega, ?_⟩
    simp only [if_neg (Nat.lt_irrefl m), if_true]
    exact h
theorem mv_gat_has {a : mv_a} {s : Int} {q : Nat} (h2 : a 3 q ≠ -1) (h3 : mv_and (mv_shr s q) 1 = 1) : ∀ p, q < p → ∃ i, i < (mv_gat a s p).1 ∧ (mv_gat a s p).2 4 i = q
  | 0, h => by omega
  | p + 1, h => by
    unfold mv_gat
    by_cases c : mv_and (mv_shr s p) 1 = 1 ∧ a 3 p ≠ -1
    · rw [if_pos c]
      refine mv_ins_has (Q := fun f => f 4 = q) ?_
      by_cases e : q = p
      · exact Or.inr (by rw [e]; rfl)
      · exact Or.inl (mv_gat_has h2 h3 p (by omega))
    · rw [if_neg c]
      exact mv_gat_has h2 h3 p (by
        by_cases e : q = p
        · exact absurd ⟨e ▸ h3, e ▸ h2⟩ c
        · omega)
theorem mv_itg_g {r : mv_a} {p0 g : Nat} : mv_itg r p0 g g = p0 := by
  unfold mv_itg
  rw [if_neg (Nat.lt_irrefl g), if_pos rfl]
theorem mv_itg_has {r : mv_a} {p0 g n q : Nat} (h : ∃ i, i < n ∧ r 4 i = q) : ∃ i, i < n + 1 ∧ mv_itg r p0 g i = q := by
  obtain ⟨i, h1, h2⟩ := h
  by_cases c : i < g
  · exact ⟨i, by omega, by unfold mv_itg; rw [if_pos c, h2, Int.toNat_natCast]⟩
  · refine ⟨i + 1, by omega, ?_⟩
    unfold mv_itg
    rw [if_neg (by omega), if_neg (by omega), Nat.add_sub_cancel, h2, Int.toNat_natCast]
/-- where one is in the line -/
def mv_ix (it : Nat → Nat) (q : Nat) : Nat → Nat → Nat
  | 0, i => i
  | k + 1, i => if it i = q then i else mv_ix it q k (i + 1)
theorem mv_ix_sp {it : Nat → Nat} {q : Nat} : ∀ k i, (∃ j, i ≤ j ∧ j < i + k ∧ it j = q) → mv_ix it q k i < i + k ∧ it (mv_ix it q k i) = q
  | 0, i, ⟨j, h1, h2, _⟩ => by omega
  | k + 1, i, ⟨j, h1, h2, h3⟩ => by
    unfold mv_ix
    by_cases e : it i = q
    · rw [if_pos e]; exact ⟨by omega, e⟩
    · rw [if_neg e]
      have : j ≠ i := fun h => e (h ▸ h3)
      obtain ⟨g1, g2⟩ := mv_ix_sp k (i + 1) ⟨j, by omega, by omega, h3⟩
      exact ⟨by omega, g2⟩
/-- the inch that one has in the best room -/
noncomputable def mv_sx (a : mv_a) (n : Nat) (r : mv_a) (p0 g q : Nat) : Int := ((mv_xx a p0 (mv_itg r p0 g) (n + 1) (mv_ix (mv_itg r p0 g) q (n + 1) 0) : Nat) : Int)
noncomputable def mv_rq (a : mv_a) (n : Nat) (r : mv_a) (p0 : Nat) (what : Int) (o : Option (Int × Nat)) : Int := match o with
  | none => -1
  | some u => if what = 0 then u.1 / 100 else if what = 1 then u.1 % 100 else mv_sx a n r p0 u.2 (if what = 2 then p0 else (what - 10).toNat)
def mv_knw (a : mv_a) (what : Int) : Prop := (0 ≤ what ∧ what ≤ 2) ∨ (10 ≤ what ∧ what - 10 < a 0 1 ∧ a 3 (what - 10).toNat ≠ -1)
noncomputable def mv_rom (a : mv_a) (p what : Int) : Int := @ite _ ((0 ≤ p ∧ p < a 0 1 ∧ a 3 p.toNat = -1) ∧ mv_knw a what) (Classical.propDecidable _) (mv_rq a (mv_all a).1 (mv_all a).2 p.toNat what (mv_fd a (mv_all a).1 (mv_all a).2 p.toNat)) (-1)
theorem mv_fd_Q {a : mv_a} {n p0 : Nat} {r : mv_a} {u : Int × Nat} (h : mv_fd a n r p0 = some u) : mv_Qv (n + 1) (some u.1) ∧ u.2 ≤ n := by
  have hs := mv_bg_sp _ _ h
  refine ⟨?_, by omega⟩
  rw [← hs.2]
  have := mv_lm_Q (a := a) (p0 := p0) (it := mv_itg r p0 u.2) (c := n + 1) (i := 0) (y := 0)
  rw [show n + 1 - 1 - 0 + 1 = n + 1 by omega] at this
  exact this
theorem mv_ph_c {k : Nat} {v : Int} (hk : k ≤ 10) (h : mv_Qv k (some v)) : mv_w (Int.tdiv (mv_ph v) 16) = v / 100 ∧ mv_w (Int.tmod (mv_ph v) 16) = v % 100 ∧ mv_w (Int.tdiv v 100) = v / 100 ∧ mv_w (Int.tmod v 100) = v % 100 ∧ 0 ≤ v / 100 ∧ v / 100 ≤ 10000 := by
  have hb := mv_Qv_b hk h
  obtain ⟨c, m, e, h1, h2, h3, h4⟩ := h v rfl
  subst e
  rw [mv_ph_eq (by omega)]
  rw [Int.tdiv_eq_ediv_of_nonneg (by omega), Int.tmod_eq_emod_of_nonneg (by omega), Int.tdiv_eq_ediv_of_nonneg (by omega), Int.tmod_eq_emod_of_nonneg (by omega)]
  rw [mv_ws (by omega), mv_ws (by omega), mv_ws (by omega), mv_ws (by omega)]
  omega
section RQ
variable {G : mv_G} {a : mv_a} {p0 n : Nat} {r : mv_a}
/-- the class's seats -/
theorem mv_cF_at {u : Int × Nat} {q : Nat} (h : mv_cF G a n r p0 (some u)) (hq : ∃ i, i < n + 1 ∧ mv_itg r p0 u.2 i = q) : G 75 0 q = mv_sx a n r p0 u.2 q := by
  obtain ⟨i, h1, h2⟩ := hq
  obtain ⟨g1, g2⟩ := mv_ix_sp (it := mv_itg r p0 u.2) (q := q) (n + 1) 0 ⟨i, by omega, by omega, h2⟩
  have := h.2 _ (by omega : mv_ix (mv_itg r p0 u.2) q (n + 1) 0 < n + 1)
  rw [g2] at this
  exact this
theorem gx_roomFor {u : Int × Nat} (h : mv_mF G a n r p0 (some u)) (hn : n ≤ 9) (q : Nat) (hq : ∃ i, i < n + 1 ∧ mv_itg r p0 u.2 i = q) : ff_X12_roomFor [.inr (100, 0), .inl q] G = some (mv_sx a n r p0 u.2 q, G) := by
  refine mv_Kp.eq (mv_Kp.of (mv_JP.of (rg_X12_roomFor_0 q G) (mv_J.cut ?_)))
  have key : ∀ (k i : Nat), i + k = n + 1 → (∃ j, i ≤ j ∧ j < i + k ∧ mv_itg r p0 u.2 j = q) → mv_JP mm_X12_roomFor (fun v G' => v = ((mv_xx a p0 (mv_itg r p0 u.2) (n + 1) (mv_ix (mv_itg r p0 u.2) q k i) : Nat) : Int) ∧ G' = G) 2 [some (.inr (100, 0)), some (.inl (q : Int)), some (.inl (i : Int))] G := by
    intro k
    induction k with
    | zero => rintro i hk ⟨j, h1, h2, h3⟩; omega
    | succ k ih =>
      rintro i hk ⟨j, h1, h2, h3⟩
      refine mv_JP.of (rg_X12_roomFor_2 q i G) ?_
      obtain ⟨h46, h57, h128, h131⟩ := h
      rw [h46, Int.toNat_natCast, h128 i (by omega), h131 i (by omega), mv_ws (by omega)]
      unfold mv_ix
      refine mv_J.f (by omega) (mv_J.ck (by omega) (mv_J.i (fun h4 => mv_J.ck (by omega) (mv_J.ret ⟨?_, rfl⟩)) (fun h4 => mv_J.cut ?_)))
      · rw [if_pos (by omega)]
      · rw [if_neg (by omega)]
        exact ih (i + 1) (by omega) ⟨j, by
          by_cases e : j = i
          · subst e; omega
          · omega, by omega, h3⟩
  obtain ⟨i, h1, h2⟩ := hq
  exact key (n + 1) 0 (by omega) ⟨i, by omega, by omega, h2⟩
theorem fx_cost {u : Int × Nat} (hn : n ≤ 9) (ho : mv_fd a n r p0 = some u) (h : mv_cF G a n r p0 (some u)) : ff_X8_cost [.inr (74, 0)] G = some (u.1 / 100, G) := by
  have q := mv_ph_c (by omega) (mv_fd_Q ho).1
  refine mv_Kp.eq (mv_Kp.of (mv_JP.of (rg_X8_cost_0 G) (mv_J.f (by decide) (mv_J.ret ⟨?_, rfl⟩))))
  rw [h.1, q.1]
theorem fx_moved {u : Int × Nat} (hn : n ≤ 9) (ho : mv_fd a n r p0 = some u) (h : mv_cF G a n r p0 (some u)) : ff_X8_moved [.inr (74, 0)] G = some (u.1 % 100, G) := by
  have q := mv_ph_c (by omega) (mv_fd_Q ho).1
  refine mv_Kp.eq (mv_Kp.of (mv_JP.of (rg_X8_moved_0 G) (mv_J.f (by decide) (mv_J.ret ⟨?_, rfl⟩))))
  rw [h.1, q.2.1]
end RQ
section RR
variable {G : mv_G} {a : mv_a}
theorem mv_kn_who (hi : mv_iB a) {p0 g : Nat} (what : Int) (hk : mv_knw a what) (h0 : what ≠ 0) (h1 : what ≠ 1) (hg : g ≤ (mv_all a).1) : ∃ i, i < (mv_all a).1 + 1 ∧ mv_itg (mv_all a).2 p0 g i = (if what = 2 then p0 else (what - 10).toNat) := by
  have b1 := hi.1
  rcases hk with h | ⟨h2, h3, h4⟩
  · rw [if_pos (by omega)]
    exact ⟨g, by omega, mv_itg_g⟩
  · rw [if_neg (by omega)]
    refine mv_itg_has (mv_gat_has h4 ?_ _ (by omega))
    have h := mv_bits (a 0 1).toNat (by omega) (what - 10).toNat (by omega)
    exact h.2
set_option maxHeartbeats 1000000 in
theorem fx_room (hB : mv_cB G a) (hi : mv_iB a) (hL : mv_cL G 14 a 22) (hLi : mv_iL mv_qm a 22) (p what : Int) (hwi : what < 2147483648) : mv_Kp (ff_X11_room [.inr (0, 0), .inl p, .inl what] G) (fun v G' => v = mv_rom a p what ∧ mv_ch [19, 67, 68, 69, 70, 71, 75, 76, 77, 78, 79, 80] [(66, 0), (74, 8)] G G') := by
  have b1 := hi.1
  obtain ⟨P, hP⟩ : ∃ P : Int → mv_G → Prop, P = (fun v G' => v = mv_rom a p what ∧ mv_ch [19, 67, 68, 69, 70, 71, 75, 76, 77, 78, 79, 80] [(66, 0), (74, 8)] G G') := ⟨_, rfl⟩
  rw [← hP]
  have dead : ∀ G1, ¬ ((0 ≤ p ∧ p < a 0 1 ∧ a 3 p.toNat = -1) ∧ mv_knw a what) → mv_ch [19, 67, 68, 69, 70, 71, 75, 76, 77, 78, 79, 80] [(66, 0), (74, 8)] G G1 → mv_J mm_X11_room P (some (.inl (-1, G1))) := fun G1 h1 h2 => by
    refine mv_J.ret ?_
    rw [hP]
    exact ⟨(if_neg h1).symm, h2⟩
  refine mv_Kp.of (mv_JP.of (rg_X11_room_0 p what G) ?_)
  refine mv_J.i (fun h1 => mv_J.i (fun h2 => mv_J.t rfl (dead _ (fun h => ?_) mv_ch.rf)) (fun h2 => absurd h1 (by omega))) (fun h1 => mv_J.i (fun h2 => mv_J.i (fun h3 => mv_J.t rfl (dead _ (fun h => ?_) mv_ch.rf)) (fun h3 => mv_J.ce (fx_isSeated hB hi _) (mv_J.bt (fun h4 => mv_J.t rfl (dead _ (fun h => ?_) mv_ch.rf)) (fun h4 => mv_J.f (by decide) ?_)))) (fun h2 => mv_J.f (by decide) ?_))
  · have := h.2; unfold mv_knw at this; omega
  · have := h.2; unfold mv_knw at this; omega
  · rw [mv_ws (by omega)] at h4
    rcases h.2 with h5 | h5
    · omega
    · exact h4 ⟨by omega, h5.2⟩
  all_goals
    have hk : mv_knw a what := by
      first
        | exact Or.inl ⟨by omega, by omega⟩
        | (rw [mv_ws (by omega)] at h4; exact Or.inr ⟨by omega, h4.2⟩)
    refine mv_J.ce (fx_isAside hB hi p) (mv_J.bt (fun h5 => dead _ (fun h => h5 h.1) mv_ch.rf) (fun h5 => ?_))
    obtain ⟨q, hq⟩ : ∃ q : Nat, p = q := ⟨p.toNat, by omega⟩
    subst hq
    have er : mv_rom a q what = mv_rq a (mv_all a).1 (mv_all a).2 q what (mv_fd a (mv_all a).1 (mv_all a).2 q) := by
      unfold mv_rom
      rw [if_pos ⟨h5, hk⟩, Int.toNat_natCast]
    rw [Int.toNat_natCast] at h5
    refine mv_J.cn (fx_reckonCosts hB hi hL hLi) (fun v G1 h6 => ?_)
    have hB1 := hB.ch h6.2 (by decide)
    refine mv_J.cn (fx_find hB1 hi h6.1 h5.2.1 h5.2.2 1023) (fun v G2 h7 => ?_)
    obtain ⟨h8, h9, h10⟩ := h7
    have hle := mv_gat_le2 (s := 1023) h5.2.2 (a 0 1).toNat
    rw [if_pos (by omega)] at hle
    have hle : (mv_all a).1 ≤ 9 := by unfold mv_all; omega
    have hc : mv_ch [19, 67, 68, 69, 70, 71, 75, 76, 77, 78, 79, 80] [(66, 0), (74, 8)] G G2 := (h6.2.mono rfl rfl).tr (h10.mono rfl rfl)
    have h8 : v = mv_b (mv_fd a (mv_all a).1 (mv_all a).2 q ≠ none) := h8
    have h9 : mv_cF G2 a (mv_all a).1 (mv_all a).2 q (mv_fd a (mv_all a).1 (mv_all a).2 q) := h9
    subst h8
    have fin : ∀ v : Int, v = mv_rq a (mv_all a).1 (mv_all a).2 q what (mv_fd a (mv_all a).1 (mv_all a).2 q) → mv_J mm_X11_room P (some (.inl (v, G2))) := fun v hv => by
      refine mv_J.ret ?_
      rw [hP]
      exact ⟨by rw [hv, er], hc⟩
    cases ho : mv_fd a (mv_all a).1 (mv_all a).2 q with
    | none =>
      rw [ho] at fin
      exact mv_J.t (mv_b0 (fun h => h rfl)) (fin _ rfl)
    | some u =>
      rw [ho] at fin h9
      refine mv_J.f (by rw [mv_b1 (fun h => by cases h)]; decide) (mv_J.i (fun h11 => mv_J.ce (fx_cost hle ho h9) (fin _ ?_)) (fun h11 => mv_J.i (fun h12 => mv_J.ce (fx_moved hle ho h9) (fin _ ?_)) (fun h12 => ?_)))
      · show _ = (if what = 0 then u.1 / 100 else _)
        rw [if_pos h11]
      · show _ = (if what = 0 then u.1 / 100 else if what = 1 then u.1 % 100 else _)
        rw [if_neg h11, if_pos h12]
      · have hw := mv_kn_who hi (p0 := q) what hk h11 h12 (mv_fd_Q ho).2
        have e75 := mv_cF_at h9 hw
        have fin2 : ∀ v : Int, v = G2 75 0 (if what = 2 then q else (what - 10).toNat) → mv_J mm_X11_room P (some (.inl (v, G2))) := fun v hv => fin v (by
          rw [hv, e75]
          show _ = (if what = 0 then u.1 / 100 else if what = 1 then u.1 % 100 else _)
          rw [if_neg h11, if_neg h12])
        refine mv_J.i (fun h13 => mv_J.ck (by omega) (fin2 _ ?_)) (fun h13 => ?_)
        · rw [if_pos h13, Int.toNat_natCast]
        · unfold mv_knw at hk
          rw [mv_ws (by omega)]
          refine mv_J.ck (by omega) (fin2 _ ?_)
          rw [if_neg h13]
set_option maxHeartbeats 1000000 in
theorem gx_room (hB : mv_mB G a) (hi : mv_iB a) (hL : mv_mL G 1 a 22) (hLi : mv_iL mv_qm a 22) (p what : Int) (hwi : what < 2147483648) : mv_Kp (ff_X12_room [.inr (100, 0), .inl p, .inl what] G) (fun v G' => v = mv_rom a p what ∧ mv_ch [121, 122, 123, 124, 125, 126, 127, 128, 129, 130, 131] [(100, 0), (100, 46), (100, 47), (100, 48), (100, 49), (100, 50), (100, 57)] G G') := by
  have b1 := hi.1
  obtain ⟨P, hP⟩ : ∃ P : Int → mv_G → Prop, P = (fun v G' => v = mv_rom a p what ∧ mv_ch [121, 122, 123, 124, 125, 126, 127, 128, 129, 130, 131] [(100, 0), (100, 46), (100, 47), (100, 48), (100, 49), (100, 50), (100, 57)] G G') := ⟨_, rfl⟩
  rw [← hP]
  have c0 : mv_ch [121, 122, 123, 124, 125, 126, 127, 128, 129, 130, 131] [(100, 0), (100, 46), (100, 47), (100, 48), (100, 49), (100, 50), (100, 57)] G (mv_up G 100 0 0 0) := mv_ch.rf.up rfl
  refine mv_Kp.of (mv_JP.of (rg_X12_room_0 p what G) ?_)
  generalize mv_up G 100 0 0 0 = G0 at c0
  have hB0 := hB.ch c0 (by decide) rfl rfl
  have hL0 := hL.ch c0 (by decide)
  have dead : ∀ G1, ¬ ((0 ≤ p ∧ p < a 0 1 ∧ a 3 p.toNat = -1) ∧ mv_knw a what) → mv_ch [121, 122, 123, 124, 125, 126, 127, 128, 129, 130, 131] [(100, 0), (100, 46), (100, 47), (100, 48), (100, 49), (100, 50), (100, 57)] G G1 → mv_J mm_X12_room P (some (.inl (-1, G1))) := fun G1 h1 h2 => by
    refine mv_J.ret ?_
    rw [hP]
    exact ⟨(if_neg h1).symm, h2⟩
  refine mv_J.ce (gx_isAside hB0 hi p) (mv_J.bt (fun h5 => dead _ (fun h => h5 h.1) c0) (fun h5 => ?_))
  obtain ⟨q, hq⟩ : ∃ q : Nat, p = q := ⟨p.toNat, by omega⟩
  subst hq
  have h50 := h5
  rw [Int.toNat_natCast] at h5
  have tail : mv_knw a what → ∀ kk : mv_G → Option mv_O, (∀ (u : Int × Nat) (G2 : mv_G), what ≠ 0 → what ≠ 1 → (∀ w : Nat, w = (if what = 2 then q else (what - 10).toNat) → mv_J mm_X12_room P (mv_cn (ff_X12_roomFor [.inr (100, 0), .inl (w : Int)] G2) fun r5 G5 => some (.inl (r5, G5)))) → mv_J mm_X12_room P (kk G2)) → mv_J mm_X12_room P (mv_cn (ff_X12_everyone [.inr (100, 0)] G0) fun r3 G3 => mv_cn (ff_X12_findsRoom [.inr (100, 0), .inl (q : Int), .inl r3] G3) fun r4 G4 => if r4 = 0 then some (.inl (-1, G4)) else if what = 0 then (if (100 : Int) = 0 then none else some (.inl (mv_w (Int.tdiv (G4 100 0 57) 100), G4))) else if what = 1 then (if (100 : Int) = 0 then none else some (.inl (mv_w (Int.tmod (G4 100 0 57) 100), G4))) else kk G4) := by
    intro hk kk hkk
    have er : mv_rom a q what = mv_rq a (mv_all a).1 (mv_all a).2 q what (mv_fd a (mv_all a).1 (mv_all a).2 q) := by
      unfold mv_rom
      rw [if_pos ⟨h50, hk⟩, Int.toNat_natCast]
    refine mv_J.ce (gx_everyone hB0) (mv_J.cn (gx_findsRoom hB0 hi hL0 hLi h5.2.1 h5.2.2 _) (fun v G2 h7 => ?_))
    rw [mv_all_ev hi] at h7
    obtain ⟨h8, h9, h10⟩ := h7
    have hle := mv_gat_le2 (s := 1023) h5.2.2 (a 0 1).toNat
    rw [if_pos (by omega)] at hle
    have hle : (mv_all a).1 ≤ 9 := by unfold mv_all; omega
    have hc : mv_ch [121, 122, 123, 124, 125, 126, 127, 128, 129, 130, 131] [(100, 0), (100, 46), (100, 47), (100, 48), (100, 49), (100, 50), (100, 57)] G G2 := c0.tr (h10.mono rfl rfl)
    subst h8
    have fin : ∀ v : Int, v = mv_rq a (mv_all a).1 (mv_all a).2 q what (mv_fd a (mv_all a).1 (mv_all a).2 q) → mv_J mm_X12_room P (some (.inl (v, G2))) := fun v hv => by
      refine mv_J.ret ?_
      rw [hP]
      exact ⟨by rw [hv, er], hc⟩
    cases ho : mv_fd a (mv_all a).1 (mv_all a).2 q with
    | none =>
      rw [ho] at fin
      exact mv_J.t (mv_b0 (fun h => h rfl)) (fin _ rfl)
    | some u =>
      rw [ho] at fin h9
      have hq4 := mv_ph_c (by omega) (mv_fd_Q ho).1
      have e57 : G2 100 0 57 = u.1 := h9.2.1
      refine mv_J.f (by rw [mv_b1 (fun h => by cases h)]; decide) (mv_J.i (fun h11 => mv_J.f (by decide) (fin _ ?_)) (fun h11 => mv_J.i (fun h12 => mv_J.f (by decide) (fin _ ?_)) (fun h12 => hkk u G2 h11 h12 (fun w hw => ?_))))
      · show _ = (if what = 0 then u.1 / 100 else _)
        rw [if_pos h11, e57, hq4.2.2.1]
      · show _ = (if what = 0 then u.1 / 100 else if what = 1 then u.1 % 100 else _)
        rw [if_neg h11, if_pos h12, e57, hq4.2.2.2.1]
      · subst hw
        refine mv_J.ce (gx_roomFor h9 hle _ (mv_kn_who hi (p0 := q) what hk h11 h12 (mv_fd_Q ho).2)) (fin _ ?_)
        show _ = (if what = 0 then u.1 / 100 else if what = 1 then u.1 % 100 else _)
        rw [if_neg h11, if_neg h12]
  refine mv_J.ce (gx_isIn _ _ _ _) ?_
  rw [hB0.1.2.1, mv_ws (x := 9 + a 0 1) (by omega)]
  refine (mv_J.bt (fun h1 => mv_J.ce (gx_isIn _ _ _ _) (mv_J.bt (fun h2 => dead _ (fun h => ?_) c0) (fun h2 => mv_J.f (by omega) ?_))) (fun h1 => mv_J.t (by omega) ?_))
  · have := h.2; unfold mv_knw at this; omega
  · rw [mv_ws (by omega), show what - 10 = (((what - 10).toNat : Nat) : Int) by omega]
    refine mv_J.ce (gx_sits hB0 hi _ (by omega)) (mv_J.bt (fun h3 => dead _ (fun h => ?_) c0) (fun h3 => ?_))
    · rcases h.2 with h4 | h4
      · omega
      · exact h3 h4.2.2
    have hk : mv_knw a what := Or.inr ⟨by omega, by omega, h3⟩
    rw [show (((what - 10).toNat : Nat) : Int) = what - 10 by omega]
    refine tail hk _ (fun u G2 o1 o2 fin => ?_)
    have h13 : ¬ what = 2 := by omega
    refine mv_J.f h13 ?_
    rw [show what - 10 = (((what - 10).toNat : Nat) : Int) by omega]
    exact fin _ (by rw [if_neg h13])
  · have hk : mv_knw a what := Or.inl ⟨by omega, by omega⟩
    refine tail hk _ (fun u G2 o1 o2 fin => ?_)
    have h13 : what = 2 := by omega
    refine mv_J.t h13 ?_
    exact fin _ (by rw [if_pos h13])
end RR
