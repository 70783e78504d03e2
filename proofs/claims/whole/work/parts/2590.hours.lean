/-! Hours. -/
section HS
variable {G G2 : mv_G} {a b : mv_a}
theorem st_do_c {c c2 : Int × Int} {i : Nat} : (st_do b c i).2 = (st_do b c2 i).2 := by
  unfold st_do
  split
  · rfl
  · split <;> rfl
theorem st_lx_c {c c2 : Int × Int} : ∀ n, (st_lx (0, c, a) n).1 = (st_lx (0, c2, a) n).1 ∧ (st_lx (0, c, a) n).2.2 = (st_lx (0, c2, a) n).2.2 := by
  intro n
  induction n with
  | zero => exact ⟨rfl, rfl⟩
  | succ n ih =>
    show (st_l1 (st_lx (0, c, a) n) n).1 = (st_l1 (st_lx (0, c2, a) n) n).1 ∧ (st_l1 (st_lx (0, c, a) n) n).2.2 = (st_l1 (st_lx (0, c2, a) n) n).2.2
    obtain ⟨i1, i2⟩ := ih
    unfold st_l1
    rw [i2]
    by_cases h : st_cn (st_lx (0, c2, a) n).2.2 n
    · rw [st_if_y h, st_if_y h, i1]
      exact ⟨rfl, st_do_c⟩
    · rw [st_if_n h, st_if_n h]
      exact ⟨i1, i2⟩
theorem st_hr_c {c c2 : Int × Int} : (st_hr c a).1 = (st_hr c2 a).1 ∧ (st_hr c a).2.2 = (st_hr c2 a).2.2 := by
  obtain ⟨h1, h2⟩ := st_lx_c (a := a) (c := c) (c2 := c2) (a 0 4).toNat
  exact ⟨h1, by show st_hn _ = st_hn _; rw [h2]⟩
noncomputable def st_hs (a : mv_a) : Nat → Int × mv_a
  | 0 => (0, a)
  | n + 1 => ((st_hs a n).1 + (st_hr (0, 0) (st_kp (st_hs a n).2)).1, (st_hr (0, 0) (st_kp (st_hs a n).2)).2.2)
theorem st_hs_p (hi : st_iW a) : ∀ n : Nat, a 0 2 + n ≤ 1000 → st_iW (st_hs a n).2 ∧ (st_hs a n).2 0 2 = a 0 2 + n ∧ 0 ≤ (st_hs a n).1 ∧ (st_hs a n).1 ≤ 24 * n := by
  intro n
  induction n with
  | zero => exact fun _ => ⟨hi, by show a 0 2 = _; omega, Int.le_refl _, Int.le_refl _⟩
  | succ n ih =>
    intro hn
    obtain ⟨i1, i2, i3, i4⟩ := ih (by omega)
    have hk := st_kp_i i1
    have e2 : st_kp (st_hs a n).2 0 2 = (st_hs a n).2 0 2 := st_kp_0 (by decide)
    obtain ⟨j1, j2, j3, j4, j5⟩ := st_hr_p hk.1 (c := (0, 0)) (by omega)
    refine ⟨hk.act j1.1 j2, ?_, ?_, ?_⟩
    · show (st_hr (0, 0) (st_kp (st_hs a n).2)).2.2 0 2 = _
      rw [j3, e2, i2]; omega
    · show 0 ≤ (st_hs a n).1 + (st_hr (0, 0) (st_kp (st_hs a n).2)).1
      omega
    · show (st_hs a n).1 + (st_hr (0, 0) (st_kp (st_hs a n).2)).1 ≤ _
      omega
theorem bx_hours (n : Int) : st_bx (ff_X11_hours [.inr (0, 0), .inl n]) (ff_X12_hours [.inr (100, 0), .inl n]) := by
  refine st_bx_of (fun a => st_if (1 ≤ n ∧ n ≤ 60 ∧ a 0 2 + n ≤ 999) (st_hs a n.toNat).1 (-1)) (fun a => st_if (1 ≤ n ∧ n ≤ 60 ∧ a 0 2 + n ≤ 999) (st_hs a n.toNat).2 a) (fun G a hc hi => ?_) (fun G a hm hi => ?_) (fun a hi => ?_)
  · have b1 := hi.1.1.1
    have no : ¬ (1 ≤ n ∧ n ≤ 60 ∧ a 0 2 + n ≤ 999) → mv_J mm_X11_hours (fun v G' => v = st_if (1 ≤ n ∧ n ≤ 60 ∧ a 0 2 + n ≤ 999) (st_hs a n.toNat).1 (-1) ∧ st_cW G' (st_if (1 ≤ n ∧ n ≤ 60 ∧ a 0 2 + n ≤ 999) (st_hs a n.toNat).2 a) ∧ mv_fC G G') (some (.inl (-1, G))) := fun h => mv_J.ret ⟨(st_if_n h).symm, by rw [st_if_n h]; exact hc, mv_fC.rf⟩
    refine mv_Kp.of (mv_JP.of (rg_X11_hours_0 n G) ?_)
    rw [hc.1.1.1.2.2.1]
    refine mv_J.i (fun h => no (by omega)) (fun h => mv_J.i (fun h2 => no (by omega)) (fun h2 => ?_))
    rw [mv_ws (x := a 0 2 + n) (by omega)]
    refine mv_J.i (fun h3 => ?_) (fun h3 => no (by omega))
    have hy : 1 ≤ n ∧ n ≤ 60 ∧ a 0 2 + n ≤ 999 := by omega
    rw [st_if_y hy, st_if_y hy]
    obtain ⟨N, hN⟩ : ∃ N : Nat, n = N := ⟨n.toNat, by omega⟩
    subst hN
    rw [Int.toNat_natCast]
    have lp : ∀ (k i : Nat) (G1 : mv_G), i + k = N → st_cW G1 (st_hs a i).2 → mv_fC G G1 → mv_JP mm_X11_hours (fun v G' => v = (st_hs a N).1 ∧ st_cW G' (st_hs a N).2 ∧ mv_fC G G') 32 [some (.inr (0, 0)), some (.inl (N : Int)), some (.inl (st_hs a i).1), some (.inl (i : Int))] G1 := by
      intro k
      induction k with
      | zero =>
        intro i G1 hk h1 f1
        have e : i = N := by omega
        subst e
        exact mv_JP.of (rg_X11_hours_32 _ _ _ G1) (mv_J.f (by omega) (mv_J.ret ⟨rfl, h1, f1⟩))
      | succ k ih =>
        intro i G1 hk h1 f1
        obtain ⟨i1, i2, i3, i4⟩ := st_hs_p hi i (by omega)
        have hkp := st_kp_i i1
        have e2 : st_kp (st_hs a i).2 0 2 = (st_hs a i).2 0 2 := st_kp_0 (by decide)
        refine mv_JP.of (rg_X11_hours_32 _ _ _ G1) (mv_J.t (by omega) (mv_J.cn (fx_keepNow h1 i1) (fun _ G2 h2 => mv_J.cn (fx_passHour h2.1.1 hkp.1 (by omega)) (fun v G3 h3 => ?_))))
        obtain ⟨j1, j2, j3, j4, j5⟩ := st_hr_p hkp.1 (c := st_cS G2) (by omega)
        obtain ⟨g1, g2, g3, g4⟩ := h3
        have hc2 := st_hr_c (a := st_kp (st_hs a i).2) (c := st_cS G2) (c2 := (0, 0))
        rw [show mv_w ((i : Int) + 1) = ((i + 1 : Nat) : Int) from mv_ws (by omega), show mv_w ((st_hs a i).1 + v) = (st_hs a (i + 1)).1 from by
          rw [mv_ws (by omega), g1, hc2.1]; rfl]
        refine mv_J.cut (ih (i + 1) G3 (by omega) ?_ ((f1.tr h2.2.1).tr g4.fC))
        have e : (st_hs a (i + 1)).2 = (st_hr (st_cS G2) (st_kp (st_hs a i).2)).2.2 := hc2.2.symm
        rw [e]
        exact h2.1.acb hkp g2 j2 g4
    exact mv_J.cut (lp N 0 G (by omega) hc mv_fC.rf)
  · have b1 := hi.1.1.1
    have c0 : mv_ch [] [(100, 0)] G (mv_up G 100 0 0 0) := mv_ch.rf.up rfl
    have hm0 := hm.ch hi.1 c0 (by decide) (by decide)
    have f0 : mv_fM G (mv_up G 100 0 0 0) := c0.fM rfl
    refine mv_Kp.of (mv_JP.of (rg_X12_hours_0 n G) (mv_J.ce (gx_isIn _ n 1 60) ?_))
    generalize mv_up G 100 0 0 0 = G0 at hm0 f0
    have no : ¬ (1 ≤ n ∧ n ≤ 60 ∧ a 0 2 + n ≤ 999) → mv_J mm_X12_hours (fun v G' => v = st_if (1 ≤ n ∧ n ≤ 60 ∧ a 0 2 + n ≤ 999) (st_hs a n.toNat).1 (-1) ∧ st_mW G' (st_if (1 ≤ n ∧ n ≤ 60 ∧ a 0 2 + n ≤ 999) (st_hs a n.toNat).2 a) ∧ mv_fM G G') (some (.inl (-1, G0))) := fun h => mv_J.ret ⟨(st_if_n h).symm, by rw [st_if_n h]; exact hm0, f0⟩
    refine mv_J.bt (fun h => no (by omega)) (fun h => mv_J.ck (by decide) ?_)
    rw [hm0.1.1.1.2.2.1, mv_ws (x := a 0 2 + n) (by omega)]
    refine mv_J.i (fun h3 => no (by omega)) (fun h3 => ?_)
    have hy : 1 ≤ n ∧ n ≤ 60 ∧ a 0 2 + n ≤ 999 := by omega
    rw [st_if_y hy, st_if_y hy]
    obtain ⟨N, hN⟩ : ∃ N : Nat, n = N := ⟨n.toNat, by omega⟩
    subst hN
    rw [Int.toNat_natCast]
    have lp : ∀ (k i : Nat) (G1 : mv_G), i + k = N → st_mW G1 (st_hs a i).2 → mv_fM G G1 → mv_JP mm_X12_hours (fun v G' => v = (st_hs a N).1 ∧ st_mW G' (st_hs a N).2 ∧ mv_fM G G') 36 [some (.inr (100, 0)), some (.inl (N : Int)), some (.inl (st_hs a i).1), some (.inl (i : Int))] G1 := by
      intro k
      induction k with
      | zero =>
        intro i G1 hk h1 f1
        have e : i = N := by omega
        subst e
        exact mv_JP.of (rg_X12_hours_36 _ _ _ G1) (mv_J.f (by omega) (mv_J.ret ⟨rfl, h1, f1⟩))
      | succ k ih =>
        intro i G1 hk h1 f1
        obtain ⟨i1, i2, i3, i4⟩ := st_hs_p hi i (by omega)
        have hkp := st_kp_i i1
        have e2 : st_kp (st_hs a i).2 0 2 = (st_hs a i).2 0 2 := st_kp_0 (by decide)
        refine mv_JP.of (rg_X12_hours_36 _ _ _ G1) (mv_J.t (by omega) (mv_J.cn (gx_keepsAhead h1 i1) (fun _ G2 h2 => ?_)))
        obtain ⟨⟨m1, m2, m3, m4, m5⟩, -, -, -, -, m6, -⟩ := h2.1
        refine mv_J.cn (gx_goesBy ⟨m1, m2, m3, m5⟩ hkp.1 (by omega) (Or.inl m6) (fun _ => m4)) (fun v G3 h3 => ?_)
        obtain ⟨j1, j2, j3, j4, j5⟩ := st_hr_p hkp.1 (c := st_mS G2) (by omega)
        obtain ⟨g1, g2, g3, g4, g5⟩ := h3
        have hc2 := st_hr_c (a := st_kp (st_hs a i).2) (c := st_mS G2) (c2 := (0, 0))
        rw [show mv_w ((i : Int) + 1) = ((i + 1 : Nat) : Int) from mv_ws (by omega), show mv_w ((st_hs a i).1 + v) = (st_hs a (i + 1)).1 from by
          rw [mv_ws (by omega), g1, hc2.1]; rfl]
        refine mv_J.cut (ih (i + 1) G3 (by omega) ?_ ((f1.tr h2.2).tr g5.fM))
        have e : (st_hs a (i + 1)).2 = (st_hr (st_mS G2) (st_kp (st_hs a i).2)).2.2 := hc2.2.symm
        rw [e]
        exact h2.1.act hkp g2 (g3.1 m6 m4) j2 g5
    exact mv_J.cut (lp N 0 G0 (by omega) hm0 f0)
  · by_cases h : 1 ≤ n ∧ n ≤ 60 ∧ a 0 2 + n ≤ 999
    · rw [st_if_y h]
      exact (st_hs_p hi n.toNat (by omega)).1
    · rw [st_if_n h]; exact hi
end HS
