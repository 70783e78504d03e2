/-! What comes of come, go, beg. -/
theorem mv_iB.s {a : mv_a} (h : mv_iB a) (f : Nat → Int) (h0 : ∀ p, p < 10 → -1 ≤ f p ∧ f p < 60) (h1 : ∀ p : Nat, (p : Int) < a 0 1 → f p ≠ -1 → mv_clr a (f p) (a 4 p) ∧ f p + a 4 p + a 6 p ≤ a 0 0) (h2 : ∀ p q : Nat, (p : Int) < a 0 1 → (q : Int) < a 0 1 → p ≠ q → f p ≠ -1 → f q ≠ -1 → f p + a 4 p + a 6 p ≤ f q ∨ f q + a 4 q + a 6 q ≤ f p) : mv_iB (st_set a 3 f) := by
  obtain ⟨i1, i2, i3, i4, i5, i6, i7⟩ := h
  refine ⟨i1, i2, i3, h0, i5, fun p hp hs => ?_, h2⟩
  obtain ⟨⟨c1, c2, c3⟩, c4⟩ := h1 p hp hs
  refine ⟨c4, fun r hr1 hr2 => ?_⟩
  have hr1 : f p < (r : Int) := hr1
  have hr2 : (r : Int) < f p + a 4 p := hr2
  have := i2 r (by omega)
  have := c3 r hr1 hr2
  show a 1 r = 0
  omega
theorem st_all_has {a : mv_a} (hi : mv_iB a) {q : Nat} (hq : q < mv_P a) (hs : a 3 q ≠ -1) : ∃ i, i < (mv_all a).1 ∧ (mv_all a).2 4 i = q ∧ (mv_all a).2 0 i = a 3 q ∧ (mv_all a).2 1 i = a 3 q + mv_tk a q := by
  obtain ⟨hP, hPe⟩ := mv_P_le hi
  have hb := (mv_bits 10 (by decide) q (by omega)).2
  obtain ⟨i, h1, h2⟩ := mv_gat_has (s := 1023) hs hb (a 0 1).toNat (by unfold mv_P at hq; exact hq)
  obtain ⟨q2, g1, g2, g3, g4⟩ := mv_gat_mem (a := a) (s := 1023) (a 0 1).toNat i h1
  have e4 : (mv_gat a 1023 (a 0 1).toNat).2 4 i = q2 := congrFun g4 4
  have e : q2 = q := by omega
  subst e
  exact ⟨i, h1, h2, congrFun g4 0, congrFun g4 1⟩
/-- one's place keeps clear of all who sit -/
theorem st_pl_q {a : mv_a} (hi : mv_iB a) {w k b g : Int} {x : Nat} (ha : mv_aok w k b g) (h : mv_pl a (mv_all a).1 (mv_all a).2 w k b g x) : (mv_clr a x w ∧ (x : Int) + w + b ≤ a 0 0) ∧ ∀ q, q < mv_P a → a 3 q ≠ -1 → (x : Int) + w + b ≤ a 3 q ∨ a 3 q + mv_tk a q ≤ x := by
  have ok := mv_all_ok hi
  obtain ⟨h1, h2, h3⟩ := h
  obtain ⟨l1, l2, l3, l4⟩ := mv_lo_sp (f := (mv_all a).2 0) (x := (x : Int)) (mv_all a).1 0
  obtain ⟨gp, hgp⟩ : ∃ gp, mv_gp (mv_all a).2 (mv_all a).1 (x : Int) = gp := ⟨_, rfl⟩
  have hgp2 : mv_lo ((mv_all a).2 0) (x : Int) (mv_all a).1 0 = gp := hgp
  rw [hgp2] at l1 l2 l3 l4
  rw [hgp] at h2 h3
  rw [Nat.zero_add] at l2 l4
  unfold mv_lw at h2
  unfold mv_hg at h3
  obtain ⟨n, hn⟩ : ∃ n, (mv_all a).1 = n := ⟨_, rfl⟩
  obtain ⟨r, hr⟩ : ∃ r, (mv_all a).2 = r := ⟨_, rfl⟩
  rw [hn, hr] at ok
  rw [hr] at h2 l3 l4
  rw [hn] at l2 l4
  rw [hn, hr] at h3
  have apb : ∀ i, i < n → 0 ≤ mv_ap k g (r 2 i) (r 3 i) := fun i h => (mv_ap_b ha.2.1 (ok.2 i h).2.1).1
  refine ⟨⟨h1, ?_⟩, fun q hq hs => ?_⟩
  · by_cases c : gp < n
    · rw [if_pos c] at h3
      have o := (ok.2 gp c).1
      have := apb gp c
      omega
    · rw [if_neg c] at h3
      omega
  · obtain ⟨i, i1, i2, i3, i4⟩ := st_all_has hi hq hs
    rw [hn] at i1
    rw [hr] at i3 i4
    by_cases c : i < gp
    · refine Or.inr ?_
      rw [if_pos (show 0 < gp by omega)] at h2
      have a1 := apb (gp - 1) (by omega)
      rw [← i4]
      by_cases c2 : i = gp - 1
      · rw [c2]; omega
      · have := (ok.2 i i1).2.2.2 (gp - 1) (by omega) (by omega)
        have := (ok.2 (gp - 1) (by omega)).1
        omega
    · refine Or.inl ?_
      have c3 : gp < n := by omega
      rw [if_pos c3] at h3
      have a1 := apb gp c3
      rw [← i3]
      by_cases c2 : i = gp
      · rw [c2]; omega
      · have := (ok.2 gp c3).2.2.2 i (by omega) i1
        have := (ok.2 gp c3).1
        omega
noncomputable def mv_cm (a : mv_a) (p : Nat) : Int := mv_bi a (mv_all a).1 (mv_all a).2 (a 4 p) (a 5 p) (a 6 p) (a 7 p)
noncomputable def st_cs (a : mv_a) (p : Nat) : mv_a := st_set a 3 (mv_sp (a 3) p (mv_cm a p))
theorem mv_cm_b {a : mv_a} (hi : mv_iB a) {p : Nat} : -1 ≤ mv_cm a p ∧ mv_cm a p < 60 := by
  have b1 := hi.1
  by_cases c : mv_cm a p = -1
  · omega
  · obtain ⟨x, h1, h2, h3⟩ := mv_bi_sp (a := a) c
    have : mv_cm a p = x := h2
    omega
theorem st_cs_i {a : mv_a} (hi : mv_iB a) {p : Nat} (hp : p < mv_P a) (h0 : a 3 p = -1) : mv_iB (st_cs a p) := by
  obtain ⟨hP, hPe⟩ := mv_P_le hi
  have hb := mv_cm_b hi (p := p)
  have i4 := hi.2.2.2.1
  have i6 := hi.2.2.2.2.2.1
  have i7 := hi.2.2.2.2.2.2
  have tkd : ∀ q, mv_tk a q = a 4 q + a 6 q := fun _ => rfl
  have ask := mv_ask_ok hi p (by omega)
  have val : ∀ q, mv_sp (a 3) p (mv_cm a p) q = if q = p then mv_cm a p else a 3 q := fun _ => rfl
  have sit : mv_cm a p ≠ -1 → (mv_clr a (mv_cm a p) (a 4 p) ∧ mv_cm a p + a 4 p + a 6 p ≤ a 0 0) ∧ ∀ q, q < mv_P a → a 3 q ≠ -1 → mv_cm a p + a 4 p + a 6 p ≤ a 3 q ∨ a 3 q + mv_tk a q ≤ mv_cm a p := fun h => by
    obtain ⟨x, h1, h2, h3⟩ := mv_bi_sp (a := a) h
    have h2 : mv_cm a p = x := h2
    rw [h2]
    exact st_pl_q hi ask h3
  refine hi.s _ (fun q hq => ?_) (fun q hq hs => ?_) (fun q r hq hr hne hqs hrs => ?_)
  · rw [val]
    by_cases e : q = p
    · rw [if_pos e]; exact hb
    · rw [if_neg e]; exact i4 q hq
  · rw [val] at hs ⊢
    by_cases e : q = p
    · rw [if_pos e] at hs ⊢
      rw [e]
      exact (sit hs).1
    · rw [if_neg e] at hs ⊢
      obtain ⟨j1, j2⟩ := i6 q hq hs
      have s := i4 q (by omega)
      have tl := hi.2.2.2.2.1 q hq
      exact ⟨⟨by omega, by omega, fun r h1 h2 h3 => by have := j2 r h1 h2; omega⟩, j1⟩
  · rw [val] at hqs hrs ⊢
    rw [val]
    have tq := tkd q
    have tr := tkd r
    by_cases e : q = p
    · rw [if_pos e] at hqs ⊢
      have e2 : r ≠ p := fun h => hne (e.trans h.symm)
      rw [if_neg e2] at hrs ⊢
      have := (sit hqs).2 r (by omega) hrs
      rw [e]
      omega
    · rw [if_neg e] at hqs ⊢
      by_cases e2 : r = p
      · rw [if_pos e2] at hrs ⊢
        have := (sit hrs).2 q (by omega) hqs
        rw [e2]
        omega
      · rw [if_neg e2] at hrs ⊢
        exact i7 q r hq hr hne hqs hrs
def st_gs (a : mv_a) (p : Nat) : mv_a := st_set a 3 (mv_sp (a 3) p (-1))
theorem st_gs_i {a : mv_a} (hi : mv_iB a) {p : Nat} : mv_iB (st_gs a p) := by
  have i4 := hi.2.2.2.1
  have i6 := hi.2.2.2.2.2.1
  have i7 := hi.2.2.2.2.2.2
  have b1 := hi.1
  have val : ∀ q, mv_sp (a 3) p (-1) q = if q = p then -1 else a 3 q := fun _ => rfl
  refine hi.s _ (fun q hq => ?_) (fun q hq hs => ?_) (fun q r hq hr hne hqs hrs => ?_)
  · rw [val]
    by_cases e : q = p
    · rw [if_pos e]; decide
    · rw [if_neg e]; exact i4 q hq
  · rw [val] at hs ⊢
    by_cases e : q = p
    · rw [if_pos e] at hs; exact absurd rfl hs
    · rw [if_neg e] at hs ⊢
      obtain ⟨j1, j2⟩ := i6 q hq hs
      have s := i4 q (by omega)
      have tl := hi.2.2.2.2.1 q hq
      exact ⟨⟨by omega, by omega, fun r h1 h2 h3 => by have := j2 r h1 h2; omega⟩, j1⟩
  · rw [val] at hqs hrs ⊢
    rw [val]
    by_cases e : q = p
    · rw [if_pos e] at hqs; exact absurd rfl hqs
    · by_cases e2 : r = p
      · rw [if_pos e2] at hrs; exact absurd rfl hrs
      · rw [if_neg e] at hqs ⊢
        rw [if_neg e2] at hrs ⊢
        exact i7 q r hq hr hne hqs hrs
/-! beg -/
noncomputable def mv_bd (a : mv_a) (p : Nat) : Option (Int × Nat) := mv_fd a (mv_all a).1 (mv_all a).2 p
/-- where all sit, the gap being g -/
noncomputable def mv_bs (a : mv_a) (p g : Nat) : Nat → Int := fun q => @ite _ (q < mv_P a ∧ (q = p ∨ a 3 q ≠ -1)) (Classical.propDecidable _) (mv_sx a (mv_all a).1 (mv_all a).2 p g q) (a 3 q)
noncomputable def st_bs (a : mv_a) (p g : Nat) : mv_a := st_set a 3 (mv_bs a p g)
theorem mv_bs_l {a : mv_a} (hi : mv_iB a) {p : Nat} (hp : p < mv_P a) (h0 : a 3 p = -1) {u : Int × Nat} (hu : mv_bd a p = some u) : (∀ q, q < mv_P a → (q = p ∨ a 3 q ≠ -1) → ∃ i, i < (mv_all a).1 + 1 ∧ mv_itg (mv_all a).2 p u.2 i = q ∧ mv_bs a p u.2 q = ((mv_xx a p (mv_itg (mv_all a).2 p u.2) ((mv_all a).1 + 1) i : Nat) : Int)) ∧ (∀ i, i < (mv_all a).1 + 1 → mv_clr a (mv_xx a p (mv_itg (mv_all a).2 p u.2) ((mv_all a).1 + 1) i : Nat) (a 4 (mv_itg (mv_all a).2 p u.2 i)) ∧ ((mv_xx a p (mv_itg (mv_all a).2 p u.2) ((mv_all a).1 + 1) i : Nat) : Int) + mv_tk a (mv_itg (mv_all a).2 p u.2 i) ≤ a 0 0) ∧ (∀ i j, i < j → j < (mv_all a).1 + 1 → ((mv_xx a p (mv_itg (mv_all a).2 p u.2) ((mv_all a).1 + 1) i : Nat) : Int) + mv_tk a (mv_itg (mv_all a).2 p u.2 i) ≤ ((mv_xx a p (mv_itg (mv_all a).2 p u.2) ((mv_all a).1 + 1) j : Nat) : Int)) ∧ ∀ i, i < (mv_all a).1 + 1 → (mv_itg (mv_all a).2 p u.2 i < mv_P a ∧ (mv_itg (mv_all a).2 p u.2 i = p ∨ a 3 (mv_itg (mv_all a).2 p u.2 i) ≠ -1)) ∧ mv_bs a p u.2 (mv_itg (mv_all a).2 p u.2 i) = ((mv_xx a p (mv_itg (mv_all a).2 p u.2) ((mv_all a).1 + 1) i : Nat) : Int) := by
  obtain ⟨hP, hPe⟩ := mv_P_le hi
  obtain ⟨Q1, Q2⟩ := mv_fd_Q (a := a) hu
  have hs := mv_bg_sp _ _ (show mv_bg (mv_tot a (mv_all a).1 (mv_all a).2 p) ((mv_all a).1 + 1) = some u from hu)
  have ok : mv_ln a p (mv_itg (mv_all a).2 p u.2) ((mv_all a).1 + 1) ∧ ∀ i j, i < (mv_all a).1 + 1 → j < (mv_all a).1 + 1 → mv_itg (mv_all a).2 p u.2 i = mv_itg (mv_all a).2 p u.2 j → i = j := mv_itg_ok (s := 1023) hi (by omega) h0 Q2
  have l0 : mv_lm a p (mv_itg (mv_all a).2 p u.2) ((mv_all a).1 + 1) 0 0 = some u.1 := hs.2
  obtain ⟨it, hit⟩ : ∃ it, mv_itg (mv_all a).2 p u.2 = it := ⟨_, rfl⟩
  obtain ⟨c, hc⟩ : ∃ c, (mv_all a).1 + 1 = c := ⟨_, rfl⟩
  have sxe : ∀ q, mv_sx a (mv_all a).1 (mv_all a).2 p u.2 q = ((mv_xx a p it c (mv_ix it q c 0) : Nat) : Int) := fun q => by
    unfold mv_sx
    rw [hit, hc]
  have has : ∀ q, q < mv_P a → (q = p ∨ a 3 q ≠ -1) → ∃ i, i < c ∧ it i = q := fun q hq h => by
    rcases h with h | h
    · refine ⟨u.2, by omega, ?_⟩
      rw [← hit, h]
      unfold mv_itg
      rw [if_neg (Nat.lt_irrefl _), if_pos rfl]
    · obtain ⟨i, i1, i2, -⟩ := st_all_has hi hq h
      have := mv_itg_has (r := (mv_all a).2) (p0 := p) (g := u.2) (n := (mv_all a).1) ⟨i, i1, i2⟩
      rw [hit, hc] at this
      exact this
  rw [hit, hc] at ok l0
  rw [hit, hc]
  have wt : ∀ i, i < c → mv_clr a (mv_xx a p it c i : Nat) (a 4 (it i)) ∧ ((mv_xx a p it c i : Nat) : Int) + mv_tk a (it i) ≤ a 0 0 := fun i hic => by
    obtain ⟨v, -, -, -, -, -, z, hz⟩ := mv_xx_sp l0 i hic
    unfold mv_wt at hz
    by_cases cc : mv_clr a (mv_xx a p it c i : Nat) (a 4 (it i)) ∧ ((mv_xx a p it c i : Nat) : Int) + mv_tk a (it i) ≤ a 0 0
    · exact cc
    · rw [if_neg cc] at hz; cases hz
  have step : ∀ i, i + 1 < c → ((mv_xx a p it c i : Nat) : Int) + mv_tk a (it i) ≤ ((mv_xx a p it c (i + 1) : Nat) : Int) := fun i hic => by
    obtain ⟨v, -, h2, -⟩ := mv_xx_sp l0 (i + 1) hic
    have d := mv_dd_b hi (q := it i) (q2 := it (i + 1)) (ok.1.2 i (by omega)).1 (ok.1.2 (i + 1) hic).1
    have e : mv_yy a p it c (i + 1) = mv_xx a p it c i + (mv_dd a (it i) (it (i + 1))).toNat := rfl
    omega
  have mono : ∀ j i, i < j → j < c → ((mv_xx a p it c i : Nat) : Int) + mv_tk a (it i) ≤ ((mv_xx a p it c j : Nat) : Int) := fun j => by
    induction j with
    | zero => intro i h; exact absurd h (Nat.not_lt_zero i)
    | succ j ih =>
      intro i h hj
      by_cases e : i = j
      · subst e; exact step i hj
      · have h1 := ih i (by omega) (by omega)
        have h2 := step j hj
        have d := mv_dd_b hi (q := it j) (q2 := it j) (ok.1.2 j (by omega)).1 (ok.1.2 j (by omega)).1
        omega
  have bsq : ∀ q, q < mv_P a → (q = p ∨ a 3 q ≠ -1) → mv_bs a p u.2 q = ((mv_xx a p it c (mv_ix it q c 0) : Nat) : Int) := fun q hq h => by
    have : mv_bs a p u.2 q = mv_sx a (mv_all a).1 (mv_all a).2 p u.2 q := if_pos ⟨hq, h⟩
    rw [this, sxe]
  refine ⟨fun q hq h => ?_, wt, fun i j h1 h2 => mono j i h1 h2, fun i hic => ?_⟩
  · obtain ⟨j, j1, j2⟩ := has q hq h
    obtain ⟨x1, x2⟩ := mv_ix_sp (it := it) (q := q) c 0 ⟨j, Nat.zero_le _, by omega, j2⟩
    exact ⟨mv_ix it q c 0, by omega, x2, bsq q hq h⟩
  · have hl := ok.1.2 i hic
    have hq : it i < mv_P a := by omega
    have hor : it i = p ∨ a 3 (it i) ≠ -1 := by
      by_cases e : it i = p
      · exact Or.inl e
      · exact Or.inr (hl.2 e)
    refine ⟨⟨hq, hor⟩, ?_⟩
    obtain ⟨x1, x2⟩ := mv_ix_sp (it := it) (q := it i) c 0 ⟨i, Nat.zero_le _, by omega, rfl⟩
    have e : mv_ix it (it i) c 0 = i := ok.2 _ _ (by omega) hic x2
    rw [bsq (it i) hq hor, e]
theorem st_bs_i {a : mv_a} (hi : mv_iB a) {p : Nat} (hp : p < mv_P a) (h0 : a 3 p = -1) {u : Int × Nat} (hu : mv_bd a p = some u) : mv_iB (st_bs a p u.2) := by
  obtain ⟨hP, hPe⟩ := mv_P_le hi
  obtain ⟨l1, l2, l3, l4⟩ := mv_bs_l hi hp h0 hu
  have i4 := hi.2.2.2.1
  have b1 := hi.1
  have off : ∀ q, ¬ (q < mv_P a ∧ (q = p ∨ a 3 q ≠ -1)) → mv_bs a p u.2 q = a 3 q := fun q h => if_neg h
  have on : ∀ q, q < mv_P a → mv_bs a p u.2 q ≠ -1 → q = p ∨ a 3 q ≠ -1 := fun q hq h => by
    by_cases c : q = p ∨ a 3 q ≠ -1
    · exact c
    · rw [off q (fun h => c h.2)] at h
      exact Or.inr h
  refine hi.s _ (fun q hq => ?_) (fun q hq hs => ?_) (fun q r hq hr hne hqs hrs => ?_)
  · by_cases c : q < mv_P a ∧ (q = p ∨ a 3 q ≠ -1)
    · obtain ⟨i, i1, i2, i3⟩ := l1 q c.1 c.2
      have := l2 i i1
      have t := hi.2.2.2.2.1 q (by omega)
      have tk : mv_tk a q = a 4 q + a 6 q := rfl
      rw [i2] at this
      rw [i3]
      omega
    · rw [off q c]; exact i4 q hq
  · obtain ⟨i, i1, i2, i3⟩ := l1 q (by omega) (on q (by omega) hs)
    have := l2 i i1
    rw [i2] at this
    have tk : mv_tk a q = a 4 q + a 6 q := rfl
    rw [i3]
    exact ⟨this.1, by omega⟩
  · obtain ⟨i, i1, i2, i3⟩ := l1 q (by omega) (on q (by omega) hqs)
    obtain ⟨j, j1, j2, j3⟩ := l1 r (by omega) (on r (by omega) hrs)
    have tq : mv_tk a q = a 4 q + a 6 q := rfl
    have tr : mv_tk a r = a 4 r + a 6 r := rfl
    rw [i3, j3]
    have hij : i ≠ j := fun e => hne (by rw [← i2, ← j2, e])
    rcases Nat.lt_or_ge i j with h | h
    · have := l3 i j h j1
      rw [i2] at this
      omega
    · have := l3 j i (by omega) i1
      rw [j2] at this
      omega
