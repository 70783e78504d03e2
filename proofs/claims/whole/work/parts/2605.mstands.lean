/-! stands, the reference. -/
section MSD
variable {G G2 : mv_G} {a b c : mv_a}
theorem gx_thinks : mv_Kp (ff_X12_thinks [.inr (100, 0)] G) (fun _ G' => G' 100 0 5 = 1 ∧ (∀ j, j < 72 → G' 103 0 j = G 101 0 j) ∧ mv_ch [103] [(100, 5)] G G') := by
  have lp : ∀ (k i : Nat) (G1 : mv_G), i + k = 72 → mv_ch [103] [] G G1 → (∀ j, j < i → G1 103 0 j = G 101 0 j) → mv_JP mm_X12_thinks (fun _ G' => G' 100 0 5 = 1 ∧ (∀ j, j < 72 → G' 103 0 j = G 101 0 j) ∧ mv_ch [103] [(100, 5)] G G') 2 [some (.inr (100, 0)), some (.inl (i : Int))] G1 := by
    intro k
    induction k with
    | zero =>
      intro i G1 hk hc h
      exact mv_JP.of (rg_X12_thinks_2 _ G1) (mv_J.f (by omega) (mv_J.ck (by decide) (mv_J.ret ⟨mv_ups_eq, fun j hj => by rw [mv_up_k (by decide)]; exact h j (by omega), mv_ch.up (hc.mono rfl rfl) rfl⟩)))
    | succ k ih =>
      intro i G1 hk hc h
      refine mv_JP.of (rg_X12_thinks_2 _ G1) (mv_J.t (by omega) ?_)
      rw [mv_ckp (n := 72) (by omega), mv_ckp (n := 72) (by omega), Int.toNat_natCast, show mv_w ((i : Int) + 1) = ((i + 1 : Nat) : Int) from mv_ws (by omega), hc.cell 101 rfl]
      refine mv_J.cut (ih (i + 1) _ (by omega) (hc.uc rfl) (fun j hj => ?_))
      rw [mv_up_at]
      by_cases e : j = i
      · rw [if_pos e, e]
      · rw [if_neg e]; exact h j (by omega)
  exact mv_Kp.of (mv_JP.of (rg_X12_thinks_0 G) (mv_J.cut (lp 72 0 G rfl mv_ch.rf (fun j hj => absurd hj (Nat.not_lt_zero j)))))
theorem gx_endsThought : mv_Kp (ff_X12_endsThought [.inr (100, 0)] G) (fun _ G' => G' 100 0 5 = 0 ∧ (∀ j, j < 72 → G' 101 0 j = G 103 0 j) ∧ mv_ch [101] [(100, 5)] G G') := by
  have lp : ∀ (k i : Nat) (G1 : mv_G), i + k = 72 → mv_ch [101] [] G G1 → (∀ j, j < i → G1 101 0 j = G 103 0 j) → mv_JP mm_X12_endsThought (fun _ G' => G' 100 0 5 = 0 ∧ (∀ j, j < 72 → G' 101 0 j = G 103 0 j) ∧ mv_ch [101] [(100, 5)] G G') 2 [some (.inr (100, 0)), some (.inl (i : Int))] G1 := by
    intro k
    induction k with
    | zero =>
      intro i G1 hk hc h
      exact mv_JP.of (rg_X12_endsThought_2 _ G1) (mv_J.f (by omega) (mv_J.ck (by decide) (mv_J.ret ⟨mv_ups_eq, fun j hj => by rw [mv_up_k (by decide)]; exact h j (by omega), mv_ch.up (hc.mono rfl rfl) rfl⟩)))
    | succ k ih =>
      intro i G1 hk hc h
      refine mv_JP.of (rg_X12_endsThought_2 _ G1) (mv_J.t (by omega) ?_)
      rw [mv_ckp (n := 72) (by omega), mv_ckp (n := 72) (by omega), Int.toNat_natCast, show mv_w ((i : Int) + 1) = ((i + 1 : Nat) : Int) from mv_ws (by omega), hc.cell 103 rfl]
      refine mv_J.cut (ih (i + 1) _ (by omega) (hc.uc rfl) (fun j hj => ?_))
      rw [mv_up_at]
      by_cases e : j = i
      · rw [if_pos e, e]
      · rw [if_neg e]; exact h j (by omega)
  exact mv_Kp.of (mv_JP.of (rg_X12_endsThought_0 G) (mv_J.cut (lp 72 0 G rfl mv_ch.rf (fun j hj => absurd hj (Nat.not_lt_zero j)))))
theorem gx_stands (h : st_mW G a) (hi : st_iW a) (w : Int) : mv_Kp (ff_X12_stands [.inr (100, 0), .inl w] G) (fun v G' => v = st_sa a w ∧ st_mW G' a ∧ mv_fM G G') := by
  have b1 := hi.1.1.1
  have c0 : mv_ch [] [(100, 0)] G (mv_up G 100 0 0 0) := mv_ch.rf.up rfl
  have hm0 := h.ch hi.1 c0 (by decide) (by decide)
  have f0 : mv_fM G (mv_up G 100 0 0 0) := c0.fM rfl
  refine mv_Kp.of (mv_JP.of (rg_X12_stands_0 w G) (mv_J.ce (gx_isIn _ w 0 1) ?_))
  generalize mv_up G 100 0 0 0 = G0 at hm0 f0
  refine mv_J.bt (fun hn => mv_J.ret ⟨(st_if_n hn).symm, hm0, f0⟩) (fun hy => ?_)
  refine mv_J.cn gx_thinks (fun _ G1 h1 => ?_)
  obtain ⟨g5, g103, g1⟩ := h1
  have c2 : mv_ch [103] [(100, 5), (100, 51), (100, 52)] G0 (mv_up (mv_up G1 100 0 51 0) 100 0 52 (-1)) := ((g1.mono rfl rfl).up rfl).up rfl
  have k5 : (mv_up (mv_up G1 100 0 51 0) 100 0 52 (-1)) 100 0 5 = 1 := by rw [mv_up_j (by decide), mv_up_j (by decide)]; exact g5
  have k103 : ∀ j, j < 72 → (mv_up (mv_up G1 100 0 51 0) 100 0 52 (-1)) 103 0 j = G0 101 0 j := fun j hj => by rw [mv_up_k (by decide), mv_up_k (by decide)]; exact g103 j hj
  have kS : st_mS (mv_up (mv_up G1 100 0 51 0) 100 0 52 (-1)) = (0, -1) := by unfold st_mS; rw [mv_up_j (by decide), mv_ups_eq, mv_ups_eq]
  generalize mv_up (mv_up G1 100 0 51 0) 100 0 52 (-1) = G2 at c2 k5 k103 kS
  have hY2 : mv_mY G2 a := mv_mY.cg ⟨hm0.1.1, hm0.1.2.1, hm0.1.2.2.1, hm0.1.2.2.2.2⟩ c2 (by decide) (by decide)
  obtain ⟨N, hN⟩ : ∃ N : Nat, a 0 2 + N = 1000 := ⟨(1000 - a 0 2).toNat, by omega⟩
  have hNe : (1000 - a 0 2).toNat = N := by omega
  have lp : ∀ (k m : Nat) (G3 : mv_G), m + k = N → mv_mY G3 (st_tt ((0, -1), a) m).2 → st_mS G3 = (st_tt ((0, -1), a) m).1 → G3 110 = G2 110 → st_fm G2 G3 → mv_JP mm_X12_stands (fun v G' => v = st_sa a w ∧ st_mW G' a ∧ mv_fM G G') 31 [some (.inr (100, 0)), some (.inl w)] G3 := by
    intro k
    induction k with
    | zero =>
      intro m G3 hk hY hS e110 hf
      obtain ⟨i1, i2, i3, i4⟩ := st_tt_p hi.1 (c := (0, -1)) m (by omega)
      refine mv_JP.of (rg_X12_stands_31 _ G3) (mv_J.ck (by decide) (mv_J.t (by rw [hY.1.1.2.2.1, i3]; omega) (mv_J.cn gx_endsThought (fun _ G4 h4 => ?_))))
      obtain ⟨q5, q101, q4⟩ := h4
      have hfin : mv_fM G G4 := ((f0.tr (mv_ch.fM c2 rfl)).tr hf.fM).tr (mv_ch.fM q4 rfl)
      have ans : st_sa a w = if w = 0 then G4 100 0 51 else G4 100 0 52 := by
        unfold st_sa
        have hs : (G3 100 0 51, G3 100 0 52) = (st_tt ((0, -1), a) m).1 := hS
        rw [st_if_y hy, hNe, show N = m by omega, ← hs, q4.slot 100 51 rfl, q4.slot 100 52 rfl]
      have hW : st_mW G4 a := hm0.cg hi.1 (fun k2 j hr => by
        have mid : ∀ k3, k3 ≠ 100 → k3 ≠ 101 → k3 ≠ 103 → (k3 = 110 ∨ k3 ≤ 109 ∨ (111 ≤ k3 ∧ k3 ≤ 120) ∨ 132 ≤ k3) → G4 k3 = G0 k3 := fun k3 r1 r2 r3 r4 => by
          rw [q4.cell k3 (by simp; omega)]
          by_cases e : k3 = 110
          · subst e; rw [e110, c2.cell 110 rfl]
          · rw [hf.cell k3 (by simp; omega), c2.cell k3 (by simp; omega)]
        by_cases e : k2 = 100
        · subst e
          have hj : j = 3 ∨ j = 5 ∨ j = 6 ∨ j = 8 ∨ j = 16 ∨ j = 35 ∨ j = 36 ∨ j = 37 ∨ j = 68 := by unfold mv_rel2 mv_rel at hr; omega
          by_cases e5 : j = 5
          · subst e5
            rw [q5, hm0.2.2.2.2.2.1]
          · rw [q4 100 0 j (by decide) (by simp; omega), hf 100 0 j (by decide) (by simp; omega), c2 100 0 j (by decide) (by simp; omega)]
        · by_cases e1 : k2 = 101
          · subst e1
            have hj : j < 72 := by unfold mv_rel2 mv_rel at hr; omega
            rw [q101 j hj, hf.cell 103 rfl, k103 j hj]
          · rw [mid k2 e e1 (by unfold mv_rel2 mv_rel at hr; omega) (by unfold mv_rel2 mv_rel at hr; omega)])
      rw [ans]
      exact mv_J.i (fun e => mv_J.ret ⟨(if_pos e).symm, hW, hfin⟩) (fun e => mv_J.ret ⟨(if_neg e).symm, hW, hfin⟩)
    | succ k ih =>
      intro m G3 hk hY hS e110 hf
      obtain ⟨i1, i2, i3, i4⟩ := st_tt_p hi.1 (c := (0, -1)) m (by omega)
      have e5 : G3 100 0 5 = 1 := by rw [hf.slot 100 5 rfl]; exact k5
      refine mv_JP.of (rg_X12_stands_31 _ G3) (mv_J.ck (by decide) (mv_J.f (by rw [hY.1.1.2.2.1, i3]; omega) (mv_J.cn (gx_goesBy hY i1 (by omega) (Or.inr e5) (fun h => by omega)) (fun v G4 h4 => ?_))))
      obtain ⟨-, y4, p4, s4, f4⟩ := h4
      rw [hS] at y4 s4
      exact mv_J.cut (ih (m + 1) G4 (by omega) y4 s4 ((p4.2 e5).1.trans e110) (hf.tr f4))
  exact mv_J.cut (lp N 0 G2 (by omega) hY2 kS rfl mv_ch.rf)
end MSD
theorem bx_stands (w : Int) : st_bx (ff_X11_stands [.inr (0, 0), .inl w]) (ff_X12_stands [.inr (100, 0), .inl w]) :=
  st_bx_of (fun a => st_sa a w) (fun a => a) (fun G a hc hi => fx_stands hc hi w) (fun G a hm hi => gx_stands hm hi w) (fun a hi => hi)
