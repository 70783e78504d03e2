/-! An hour. -/
def st_ah (a b : mv_a) : Prop := st_ab a b ∧ b 0 2 = a 0 2 ∧ b 2 = a 2
section AH
variable {G G2 : mv_G} {a b : mv_a}
theorem st_ah.rf : st_ah a a := ⟨st_ab.rf, rfl, rfl⟩
theorem st_ah.tr {c : mv_a} (h : st_ah a b) (h2 : st_ah b c) : st_ah a c := ⟨h.1.tr h2.1, h2.2.1.trans h.2.1, h2.2.2.trans h.2.2⟩
theorem st_wr_2 {p w x : Int} {f : Nat → Int} : st_wr (st_set a 3 f) p w x 0 2 = a 0 2 ∧ st_wr (st_set a 3 f) p w x 2 = a 2 := ⟨st_wr_0 (by decide), (st_wr_o (by decide) (by decide)).trans (st_set_o (by decide))⟩
theorem st_ca_ah (hi : mv_iB a) {p : Nat} : st_ah a (st_ca a p) := ⟨st_ca_ab hi, st_wr_2.1, st_wr_2.2⟩
theorem st_ga_ah (hi : mv_iB a) {p : Nat} : st_ah a (st_ga a p) := ⟨st_ga_ab hi, st_wr_2.1, st_wr_2.2⟩
theorem st_ba_ah (hi : mv_iB a) {p : Nat} : st_ah a (st_ba a p).2 := by
  refine ⟨st_ba_ab hi, ?_⟩
  unfold st_ba
  split
  · exact ⟨st_wr_0 (by decide), st_wr_o (by decide) (by decide)⟩
  · exact st_wr_2
def st_cn (b : mv_a) (i : Nat) : Prop := b 15 i = b 0 2 ∧ (b 13 i = 1 → b 3 (b 14 i).toNat ≠ -1) ∧ (b 13 i ≠ 1 → b 3 (b 14 i).toNat = -1)
noncomputable def st_do (b : mv_a) (c : Int × Int) (i : Nat) : (Int × Int) × mv_a := if b 13 i = 0 then (st_sd (mv_cm b (b 14 i).toNat) (b 0 2) c, st_ca b (b 14 i).toNat) else if b 13 i = 1 then (c, st_ga b (b 14 i).toNat) else (st_sd (st_ba b (b 14 i).toNat).1 (b 0 2) c, (st_ba b (b 14 i).toNat).2)
noncomputable def st_l1 (s : Int × (Int × Int) × mv_a) (i : Nat) : Int × (Int × Int) × mv_a := st_if (st_cn s.2.2 i) (s.1 + 1, st_do s.2.2 s.2.1 i) s
noncomputable def st_lx (s : Int × (Int × Int) × mv_a) : Nat → Int × (Int × Int) × mv_a
  | 0 => s
  | n + 1 => st_l1 (st_lx s n) n
theorem st_do_p (hi : mv_iX b) {c : Int × Int} {i : Nat} (hl : (i : Int) < b 0 4) (hc : st_cn b i) : mv_iX (st_do b c i).2 ∧ st_ah b (st_do b c i).2 := by
  obtain ⟨d1, ⟨d2, d3⟩, d4⟩ := hi.2.2.2.2 i hl
  have hp : (b 14 i).toNat < mv_P b := by unfold mv_P; omega
  unfold st_do
  by_cases e0 : b 13 i = 0
  · rw [if_pos e0]
    exact ⟨st_iX_act hi (st_ca_i hi.1 hp (hc.2.2 (by omega))) (st_ca_ab hi.1), st_ca_ah hi.1⟩
  · rw [if_neg e0]
    by_cases e1 : b 13 i = 1
    · rw [if_pos e1]
      exact ⟨st_iX_act hi (st_ga_i hi.1) (st_ga_ab hi.1), st_ga_ah hi.1⟩
    · rw [if_neg e1]
      exact ⟨st_iX_act hi (st_ba_i hi.1 hp (hc.2.2 e1)) (st_ba_ab hi.1), st_ba_ah hi.1⟩
theorem st_lx_p (hi : mv_iX a) {c : Int × Int} : ∀ n : Nat, (n : Int) ≤ a 0 4 → mv_iX (st_lx (0, c, a) n).2.2 ∧ st_ah a (st_lx (0, c, a) n).2.2 ∧ 0 ≤ (st_lx (0, c, a) n).1 ∧ (st_lx (0, c, a) n).1 ≤ n := by
  intro n
  induction n with
  | zero => exact fun _ => ⟨hi, st_ah.rf, Int.le_refl _, Int.le_refl _⟩
  | succ n ih =>
    intro hn
    obtain ⟨i1, i2, i3, i4⟩ := ih (by omega)
    show mv_iX (st_l1 (st_lx (0, c, a) n) n).2.2 ∧ st_ah a (st_l1 (st_lx (0, c, a) n) n).2.2 ∧ 0 ≤ (st_l1 (st_lx (0, c, a) n) n).1 ∧ (st_l1 (st_lx (0, c, a) n) n).1 ≤ _
    unfold st_l1
    by_cases h : st_cn (st_lx (0, c, a) n).2.2 n
    · rw [st_if_y h]
      obtain ⟨j1, j2⟩ := st_do_p (c := (st_lx (0, c, a) n).2.1) i1 (by rw [i2.1.1 4 (by decide) (by decide)]; omega) h
      exact ⟨j1, i2.tr j2, by dsimp only; omega, by dsimp only; omega⟩
    · rw [st_if_n h]
      exact ⟨i1, i2, i3, by omega⟩
/-- warm -/
def st_cv (b : mv_a) (m i : Nat) : Prop := ∃ p : Nat, p < m ∧ b 3 p ≠ -1 ∧ b 3 p ≤ i ∧ (i : Int) < b 3 p + b 4 p
theorem st_cv_s {m i : Nat} : st_cv b (m + 1) i ↔ st_cv b m i ∨ (b 3 m ≠ -1 ∧ b 3 m ≤ i ∧ (i : Int) < b 3 m + b 4 m) := by
  constructor
  · rintro ⟨p, h1, h2⟩
    by_cases e : p = m
    · subst e; exact Or.inr h2
    · exact Or.inl ⟨p, by omega, h2⟩
  · rintro (⟨p, h1, h2⟩ | h)
    · exact ⟨p, by omega, h2⟩
    · exact ⟨m, by omega, h⟩
noncomputable def st_wf (b : mv_a) (h : Int) (m : Nat) : Nat → Int := fun i => st_if (st_cv b m i) h (b 2 i)
noncomputable def st_wm (b : mv_a) (h : Int) : mv_a := st_set b 2 (st_wf b h (mv_P b))
theorem st_wf_0 {h : Int} : st_wf b h 0 = b 2 := funext fun i => st_if_n (fun ⟨p, h, _⟩ => Nat.not_lt_zero p h)
theorem st_wf_b {h : Int} {m i : Nat} (hb : -1 ≤ b 2 i ∧ b 2 i ≤ 1000) (hh : -1 ≤ h ∧ h ≤ 1000) : -1 ≤ st_wf b h m i ∧ st_wf b h m i ≤ 1000 := by
  unfold st_wf
  by_cases c : st_cv b m i
  · rw [st_if_y c]; exact hh
  · rw [st_if_n c]; exact hb
theorem st_wf_s {h : Int} {m : Nat} (hs : b 3 m = -1) : st_wf b h (m + 1) = st_wf b h m := funext fun i => by
  unfold st_wf
  by_cases c : st_cv b m i
  · rw [st_if_y c, st_if_y (st_cv_s.mpr (Or.inl c))]
  · rw [st_if_n c, st_if_n (fun h => (st_cv_s.mp h).elim c (fun h => h.1 hs))]
theorem st_wf_t {h : Int} {m i : Nat} (hs : b 3 m ≠ -1) : st_wf b h (m + 1) i = if b 3 m ≤ i ∧ (i : Int) < b 3 m + b 4 m then h else st_wf b h m i := by
  unfold st_wf
  by_cases c2 : b 3 m ≤ i ∧ (i : Int) < b 3 m + b 4 m
  · rw [if_pos c2, st_if_y (st_cv_s.mpr (Or.inr ⟨hs, c2⟩))]
  · rw [if_neg c2]
    by_cases c : st_cv b m i
    · rw [st_if_y c, st_if_y (st_cv_s.mpr (Or.inl c))]
    · rw [st_if_n c, st_if_n (fun h => (st_cv_s.mp h).elim c (fun h => c2 h.2))]
theorem st_wm_ab {h : Int} : st_ab b (st_wm b h) := ⟨fun j _ _ => rfl, Int.le_refl _, fun o _ h2 _ _ => st_set_o h2⟩
theorem st_wm_i {h : Int} (hi : mv_iB b) (hh : -1 ≤ h ∧ h ≤ 1000) : mv_iB (st_wm b h) := by
  obtain ⟨i1, i2, i3, i4, i5, i6, i7⟩ := hi
  exact ⟨i1, i2, fun i hi => st_wf_b (i3 i hi) hh, i4, i5, i6, i7⟩
theorem st_s2_i {x : Int} (hi : mv_iB b) (hx : 0 ≤ x ∧ x ≤ 1000) : mv_iB (st_s1 b 2 x) := by
  obtain ⟨i1, i2, i3, i4, i5, i6, i7⟩ := hi
  exact ⟨⟨i1.1, i1.2.1, i1.2.2.1, i1.2.2.2.1, hx.1, hx.2, i1.2.2.2.2.2.2⟩, i2, i3, i4, i5, i6, i7⟩
theorem st_s2_ab {x : Int} : st_ab b (st_s1 b 2 x) := ⟨fun j h _ => st_s1_j h, by rw [st_s1_j (by decide)]; exact Int.le_refl _, fun o h _ _ _ => st_s1_o h⟩
noncomputable def st_hn (b : mv_a) : mv_a := st_s1 (st_wm b (b 0 2)) 2 (b 0 2 + 1)
theorem st_hn_ab : st_ab b (st_hn b) := st_wm_ab.tr st_s2_ab
theorem st_hn_i (hi : mv_iB b) (hh : b 0 2 ≤ 999) : mv_iB (st_hn b) := st_s2_i (st_wm_i hi (by have := hi.1; omega)) (by have := hi.1; omega)
noncomputable def st_hr (c : Int × Int) (a : mv_a) : Int × (Int × Int) × mv_a := ((st_lx (0, c, a) (a 0 4).toNat).1, (st_lx (0, c, a) (a 0 4).toNat).2.1, st_hn (st_lx (0, c, a) (a 0 4).toNat).2.2)
theorem st_hr_p (hi : mv_iX a) {c : Int × Int} (hh : a 0 2 ≤ 999) : mv_iX (st_hr c a).2.2 ∧ st_ab a (st_hr c a).2.2 ∧ (st_hr c a).2.2 0 2 = a 0 2 + 1 ∧ 0 ≤ (st_hr c a).1 ∧ (st_hr c a).1 ≤ 24 := by
  have d := hi.2.2.2.1
  obtain ⟨h1, h2, h3, h4⟩ := st_lx_p hi (c := c) (a 0 4).toNat (by omega)
  unfold st_hr
  dsimp only
  generalize st_lx (0, c, a) (a 0 4).toNat = s at h1 h2 h3 h4
  refine ⟨st_iX_act h1 (st_hn_i h1.1 (by rw [h2.2.1]; exact hh)) st_hn_ab, h2.1.tr st_hn_ab, ?_, h3, by omega⟩
  show st_s1 _ 2 _ 0 2 = _
  rw [st_s1_0, h2.2.1]
/-! the class -/
/-- the frame of hours -/
def st_fb (G G2 : mv_G) : Prop := mv_ch [4, 6, 7, 13, 19, 67, 68, 69, 70, 71, 73, 75, 76, 77, 78, 79, 80] [(1, 2), (1, 3), (66, 0), (66, 6), (66, 7), (66, 8), (66, 9), (74, 8), (90, 0), (90, 1)] G G2
theorem st_fa.fb (f : st_fa G G2) : st_fb G G2 := mv_ch.mono f rfl rfl
theorem st_fb.fC (f : st_fb G G2) : mv_fC G G2 := mv_ch.fC f rfl
theorem st_cW.acb (h : st_cW G a) (hi : st_iW a) (hx : mv_cX G2 b) (e : st_ab a b) (f : st_fb G G2) : st_cW G2 b := by
  have hk : ∀ k, (24 ≤ k ∧ k ≤ 65) ∨ k = 0 → G2 k = G k := fun k hk => f.cell k (by simp; omega)
  refine h.bn hx ?_ (fun k h => hk k (by omega)) (by rw [hk 0 (by omega)]) (fun j _ => by rw [hk 52 (by omega)]) e.T e.I
  have : mv_unC G2 a := by
    have u := h.2.1
    unfold mv_unC at u ⊢
    rw [hk 47 (by omega), hk 48 (by omega), hk 49 (by omega), hk 50 (by omega), hk 51 (by omega)]
    exact u
  exact this.ag e.U hi.2.1.1.2
theorem fx_warmSeats (hX : mv_cX G b) (hi : mv_iB b) (h : Int) : mv_Kp (ff_X2_warmSeats [.inr (1, 0), .inl h] G) (fun v G' => v = 0 ∧ mv_cX G' (st_wm b h) ∧ mv_ch [4] [] G G') := by
  obtain ⟨hP, hPe⟩ := mv_P_le hi
  have b1 := hi.1
  have i4 := hi.2.2.2.1
  have i5 := hi.2.2.2.2.1
  have i6 := hi.2.2.2.2.2.1
  obtain ⟨⟨c1, c2, c3, -⟩, c4, c5, c6, c7, -⟩ := hX.1
  have lp : ∀ (k p : Nat) (G1 : mv_G), p + k = mv_P b → mv_ch [4] [] G G1 → G1 4 0 = st_wf b h p → mv_JP mm_X2_warmSeats (fun v G' => v = 0 ∧ mv_cX G' (st_wm b h) ∧ mv_ch [4] [] G G') 2 [some (.inr (1, 0)), some (.inl h), some (.inl (p : Int)), none, none] G1 := by
    intro k
    induction k with
    | zero =>
      intro p G1 hk hc h4
      refine mv_JP.of (rg_X2_warmSeats_2 _ _ G1) (mv_J.f (by rw [hc.cell 1 rfl, c2]; omega) (mv_J.ret ⟨rfl, ?_, hc⟩))
      have e : p = mv_P b := by omega
      subst e
      have ek : ∀ k, k ≠ 4 → G1 k = G k := fun k hk => hc.cell k (by simp; omega)
      obtain ⟨-, d2, d3, d4, d5, d6, d7, d8, d9, d10⟩ := hX.1
      refine hX.rs ⟨⟨?_, ?_, ?_, True.intro⟩, ?_, h4, ?_, ?_, ?_, ?_, ?_, ?_, ?_⟩ (fun k q1 q2 => ek k (by omega)) (by rw [ek 1 (by decide)]) ⟨rfl, rfl⟩ (fun o q1 q2 q3 => st_set_o (by omega))
      · rw [ek 1 (by decide)]; exact c1
      · rw [ek 1 (by decide)]; exact c2
      · rw [ek 1 (by decide)]; exact c3
      · rw [ek 2 (by decide)]; exact d2
      · rw [ek 6 (by decide)]; exact d4
      · rw [ek 5 (by decide)]; exact d5
      · rw [ek 5 (by decide)]; exact d6
      · rw [ek 5 (by decide)]; exact d7
      · rw [ek 5 (by decide)]; exact d8
      · rw [ek 5 (by decide)]; exact d9
      · rw [ek 3 (by decide)]; exact d10
    | succ k ih =>
      intro p G1 hk hc h4
      have s := i4 p (by omega)
      have s5 := i5 p (by omega)
      refine mv_JP.of (rg_X2_warmSeats_2 _ _ G1) (mv_J.t (by rw [hc.cell 1 rfl, c2]; omega) (mv_J.ck (by omega) ?_))
      rw [hc.cell 1 rfl, hc.cell 5 rfl, hc.cell 6 rfl, c1, c6, c7, Int.toNat_natCast]
      rw [show mv_w ((p : Int) + 1) = ((p + 1 : Nat) : Int) from mv_ws (by omega)]
      refine mv_J.i (fun e => mv_J.cut (ih (p + 1) G1 (by omega) hc (by rw [h4, st_wf_s e]))) (fun e => ?_)
      obtain ⟨s6, -⟩ := i6 p (by omega) e
      rw [mv_ws (x := b 3 p + b 4 p) (by omega)]
      have mi : mv_min [.inl (b 3 p + b 4 p), .inl (b 0 0)] G1 = some (b 3 p + b 4 p, G1) := by
        show some (if b 0 0 < b 3 p + b 4 p then b 0 0 else b 3 p + b 4 p, G1) = _
        rw [if_neg (by omega)]
      refine mv_J.ck (by omega) (mv_J.ck (by decide) (mv_J.ck (by omega) (mv_J.ce mi (mv_J.ck (by omega) ?_))))
      rw [hc.cell 6 rfl, c6]
      obtain ⟨sp, hsp⟩ : ∃ sp : Nat, b 3 p = sp := ⟨(b 3 p).toNat, by omega⟩
      obtain ⟨wp, hwp⟩ : ∃ wp : Nat, b 4 p = wp := ⟨(b 4 p).toNat, by omega⟩
      have lp2 : ∀ (k2 t : Nat) (G2 : mv_G), t + k2 = wp → mv_ch [4] [] G G2 → (∀ i : Nat, G2 4 0 i = if sp ≤ i ∧ i < sp + t then h else st_wf b h p i) → mv_JP mm_X2_warmSeats (fun v G' => v = 0 ∧ mv_cX G' (st_wm b h) ∧ mv_ch [4] [] G G') 54 [some (.inr (1, 0)), some (.inl h), some (.inl (p : Int)), some (.inl (b 3 p + b 4 p)), some (.inl ((sp + t : Nat) : Int))] G2 := by
        intro k2
        induction k2 with
        | zero =>
          intro t G2 hk2 hc2 h42
          refine mv_JP.of (rg_X2_warmSeats_54 _ _ _ _ G2) (mv_J.f (by omega) ?_)
          rw [show mv_w ((p : Int) + 1) = ((p + 1 : Nat) : Int) from mv_ws (by omega)]
          refine mv_J.cut (ih (p + 1) G2 (by omega) hc2 (funext fun i => ?_))
          rw [h42, st_wf_t e]
          by_cases c : sp ≤ i ∧ i < sp + t
          · rw [if_pos c, if_pos (by omega)]
          · rw [if_neg c, if_neg (by omega)]
        | succ k2 ih2 =>
          intro t G2 hk2 hc2 h42
          refine mv_JP.of (rg_X2_warmSeats_54 _ _ _ _ G2) (mv_J.t (by omega) (mv_J.ck (by omega) ?_))
          rw [show mv_w (((sp + t : Nat) : Int) + 1) = ((sp + (t + 1) : Nat) : Int) from mv_ws (by omega), Int.toNat_natCast]
          refine mv_J.cut (ih2 (t + 1) _ (by omega) (hc2.uc rfl) (fun i => ?_))
          rw [mv_up_at, h42]
          by_cases c : i = sp + t
          · rw [if_pos c, if_pos (by omega)]
          · rw [if_neg c]
            by_cases c2 : sp ≤ i ∧ i < sp + t
            · rw [if_pos c2, if_pos (by omega)]
            · rw [if_neg c2, if_neg (by omega)]
      have := lp2 wp 0 G1 (by omega) hc (fun i => by rw [h4, if_neg (by omega)])
      rw [Nat.add_zero, ← hsp] at this
      exact mv_J.cut this
  exact mv_Kp.of (mv_JP.of (rg_X2_warmSeats_0 _ G) (mv_J.cut (lp (mv_P b) 0 G (by omega) mv_ch.rf (by rw [st_wf_0]; exact c5))))
theorem fx_passHour (hX : mv_cX G a) (hi : mv_iX a) (hh : a 0 2 ≤ 999) : mv_Kp (ff_X0_passHour [.inr (90, 0)] G) (fun v G' => v = (st_hr (st_cS G) a).1 ∧ mv_cX G' (st_hr (st_cS G) a).2.2 ∧ st_cS G' = (st_hr (st_cS G) a).2.1 ∧ st_fb G G') := by
  have dd := hi.2.2.2.1
  have b1 := hi.1.1
  obtain ⟨L, hL⟩ : ∃ L : Nat, a 0 4 = L := ⟨(a 0 4).toNat, by omega⟩
  have lp : ∀ (k i : Nat) (G1 : mv_G) (s : Int × (Int × Int) × mv_a), i + k = L → s = st_lx (0, st_cS G, a) i → mv_cX G1 s.2.2 → st_cS G1 = s.2.1 → st_fb G G1 → mv_JP mm_X0_passHour (fun v G' => v = (st_hr (st_cS G) a).1 ∧ mv_cX G' (st_hr (st_cS G) a).2.2 ∧ st_cS G' = (st_hr (st_cS G) a).2.1 ∧ st_fb G G') 12 [some (.inr (90, 0)), some (.inl s.1), some (.inr (20, 0)), some (.inl (i : Int)), none, none] G1 := by
    intro k
    induction k with
    | zero =>
      intro i G1 s hk hs hX1 hS hf
      obtain ⟨p1, p2, p3, p4⟩ := st_lx_p hi (c := st_cS G) i (by omega)
      have er : st_hr (st_cS G) a = (s.1, s.2.1, st_hn s.2.2) := by
        unfold st_hr
        rw [hL, Int.toNat_natCast, show L = i by omega, hs]
      rw [← hs] at p1 p2 p3 p4
      rw [er]
      refine mv_JP.of (rg_X0_passHour_12 _ _ G1) (mv_J.f (by rw [hX1.2.2.2.2.1, p2.1.1 4 (by decide) (by decide)]; omega) ?_)
      rw [hX1.1.1.2.2.1]
      refine mv_J.cn (fx_warmSeats hX1 p1.1 (s.2.2 0 2)) (fun _ G2 h2 => ?_)
      obtain ⟨-, h2, h3⟩ := h2
      have hh2 : G2 1 0 2 = s.2.2 0 2 := by rw [h3.cell 1 rfl]; exact hX1.1.1.2.2.1
      rw [hh2, mv_ws (x := s.2.2 0 2 + 1) (by rw [p2.2.1]; omega)]
      refine mv_J.ret ⟨rfl, ?_, ?_, (hf.tr (h3.mono rfl rfl)).up rfl⟩
      · have uk : ∀ k, k ≠ 1 → (mv_up G2 1 0 2 (s.2.2 0 2 + 1)) k = G2 k := fun k h => mv_up_k h
        obtain ⟨⟨c1, c2, c3, -⟩, d2, d3, d4, d5, d6, d7, d8, d9, d10⟩ := h2.1
        show mv_cX _ (st_hn s.2.2)
        refine h2.rs ⟨⟨?_, ?_, ?_, True.intro⟩, ?_, ?_, ?_, ?_, ?_, ?_, ?_, ?_, ?_⟩ (fun k q1 q2 => uk k (by omega)) (mv_up_j (by decide)) ⟨rfl, rfl⟩ (fun o q1 q2 q3 => st_s1_o (by omega))
        · rw [mv_up_j (by decide)]; exact c1
        · rw [mv_up_j (by decide)]; exact c2
        · rw [mv_ups_eq]; rfl
        · rw [uk 2 (by decide)]; exact d2
        · rw [uk 4 (by decide)]; exact d3
        · rw [uk 6 (by decide)]; exact d4
        · rw [uk 5 (by decide)]; exact d5
        · rw [uk 5 (by decide)]; exact d6
        · rw [uk 5 (by decide)]; exact d7
        · rw [uk 5 (by decide)]; exact d8
        · rw [uk 5 (by decide)]; exact d9
        · rw [uk 3 (by decide)]; exact d10
      · rw [← hS]
        unfold st_cS
        rw [mv_up_k (by decide), h3.cell 90 rfl]
    | succ k ih =>
      intro i G1 s hk hs hX1 hS hf
      obtain ⟨p1, p2, p3, p4⟩ := st_lx_p hi (c := st_cS G) i (by omega)
      have hn : st_lx (0, st_cS G, a) (i + 1) = st_l1 s i := by rw [hs]; rfl
      rw [← hs] at p1 p2 p3 p4
      have e4 : s.2.2 0 4 = a 0 4 := p2.1.1 4 (by decide) (by decide)
      have hl : (i : Int) < s.2.2 0 4 := by omega
      obtain ⟨d1, d2, d3⟩ := hX1.2.2.2.2.2 i hl
      obtain ⟨v1, ⟨v2, v3⟩, v4⟩ := p1.2.2.2.2 i hl
      obtain ⟨p, hp⟩ : ∃ p : Nat, s.2.2 14 i = p := ⟨(s.2.2 14 i).toNat, by omega⟩
      have hpP : p < mv_P s.2.2 := by unfold mv_P; omega
      have skip : ¬ st_cn s.2.2 i → mv_J mm_X0_passHour (fun v G' => v = (st_hr (st_cS G) a).1 ∧ mv_cX G' (st_hr (st_cS G) a).2.2 ∧ st_cS G' = (st_hr (st_cS G) a).2.1 ∧ st_fb G G') (some (.inr (12, [some (.inr (90, 0)), some (.inl s.1), some (.inr (20, 0)), some (.inl ((i + 1 : Nat) : Int)), none, none], G1))) := fun h => mv_J.cut (ih (i + 1) G1 s (by omega) (by rw [hn]; unfold st_l1; rw [st_if_n h]) hX1 hS hf)
      have go : ∀ G2 : mv_G, st_cn s.2.2 i → mv_cX G2 (st_do s.2.2 s.2.1 i).2 → st_cS G2 = (st_do s.2.2 s.2.1 i).1 → st_fa G1 G2 → mv_J mm_X0_passHour (fun v G' => v = (st_hr (st_cS G) a).1 ∧ mv_cX G' (st_hr (st_cS G) a).2.2 ∧ st_cS G' = (st_hr (st_cS G) a).2.1 ∧ st_fb G G') (some (.inr (12, [some (.inr (90, 0)), some (.inl (s.1 + 1)), some (.inr (20, 0)), some (.inl ((i + 1 : Nat) : Int)), none, none], G2))) := fun G2 h g1 g2 g3 => mv_J.cut (ih (i + 1) G2 (s.1 + 1, st_do s.2.2 s.2.1 i) (by omega) (by rw [hn]; unfold st_l1; rw [st_if_y h]) g1 g2 (hf.tr g3.fb))
      refine mv_JP.of (rg_X0_passHour_12 _ _ G1) (mv_J.t (by rw [hX1.2.2.2.2.1, e4]; omega) (mv_J.t (by omega) (mv_J.ck (by omega) (mv_J.ck (by omega) ?_))))
      rw [Int.toNat_natCast, show mv_w ((i : Int) + 1) = ((i + 1 : Nat) : Int) from mv_ws (by omega), show mv_w (s.1 + 1) = s.1 + 1 from mv_ws (by omega), d1, d2, hp]
      refine mv_J.i (fun e1 => ?_) (fun e1 => ?_)
      · refine mv_J.ce (fx_isSeated hX1.1 p1.1 p) (mv_J.ck (by omega) ?_)
        rw [d1, d3, hX1.1.1.2.2.1]
        refine mv_J.i (fun eh => mv_J.bt (fun hn2 => skip (fun hc => hn2 ⟨by omega, by omega, ?_⟩)) (fun hy => mv_J.ck (by omega) (mv_J.f (by omega) (mv_J.t e1 ?_)))) (fun eh => skip (fun hc => eh hc.1))
        · rw [Int.toNat_natCast]
          have := hc.2.1 e1
          rw [hp, Int.toNat_natCast] at this
          exact this
        · have hc : st_cn s.2.2 i := ⟨eh, fun _ => by rw [hp]; exact hy.2.2, fun h => absurd e1 h⟩
          have ed : st_do s.2.2 s.2.1 i = (s.2.1, st_ga s.2.2 p) := by
            unfold st_do
            rw [if_neg (by omega), if_pos e1, hp, Int.toNat_natCast]
          have h0 := hy.2.2
          rw [Int.toNat_natCast] at h0
          refine mv_J.cn (fx_goes hX1 p1 p hpP h0) (fun _ G2 h2 => go G2 hc ?_ ?_ h2.2.2)
          · rw [ed]; exact h2.1
          · rw [ed, h2.2.1]; exact hS
      · refine mv_J.ce (fx_isAside hX1.1 p1.1 p) (mv_J.ck (by omega) ?_)
        rw [d1, d3, hX1.1.1.2.2.1]
        refine mv_J.i (fun eh => mv_J.bt (fun hn2 => skip (fun hc => hn2 ⟨by omega, by omega, ?_⟩)) (fun hy => mv_J.ck (by omega) ?_)) (fun eh => skip (fun hc => eh hc.1))
        · rw [Int.toNat_natCast]
          have := hc.2.2 e1
          rw [hp, Int.toNat_natCast] at this
          exact this
        · have hc : st_cn s.2.2 i := ⟨eh, fun h => absurd h e1, fun _ => by rw [hp]; exact hy.2.2⟩
          have h0 := hy.2.2
          rw [Int.toNat_natCast] at h0
          refine mv_J.i (fun e0 => ?_) (fun e0 => mv_J.f e1 ?_)
          · have ed : st_do s.2.2 s.2.1 i = (st_sd (mv_cm s.2.2 p) (s.2.2 0 2) s.2.1, st_ca s.2.2 p) := by
              unfold st_do
              rw [if_pos e0, hp, Int.toNat_natCast]
            refine mv_J.cn (fx_comes hX1 p1 p hpP h0) (fun _ G2 h2 => go G2 hc ?_ ?_ h2.2.2.2)
            · rw [ed]; exact h2.2.1
            · rw [ed, h2.2.2.1, hS]
          · have ed : st_do s.2.2 s.2.1 i = (st_sd (st_ba s.2.2 p).1 (s.2.2 0 2) s.2.1, (st_ba s.2.2 p).2) := by
              unfold st_do
              rw [if_neg e0, if_neg e1, hp, Int.toNat_natCast]
            refine mv_J.cn (fx_begs hX1 p1 p hpP h0) (fun _ G2 h2 => go G2 hc ?_ ?_ h2.2.2.2)
            · rw [ed]; exact h2.2.1
            · rw [ed, h2.2.2.1, hS]
  exact mv_Kp.of (mv_JP.of (rg_X0_passHour_0 G) (mv_J.cut (lp L 0 G (0, st_cS G, a) (by omega) rfl hX rfl mv_ch.rf)))
end AH
