/-! ROOM, the class: the table of a line, the seats read out of it, the best gap. -/
noncomputable def mv_xi (a : mv_a) (p0 : Nat) (it : Nat → Nat) (c i : Nat) : Nat → Option Int := mv_xe (fun i x => mv_wt a p0 (it i) x) (fun i => (mv_dd a (it i) (it (i + 1))).toNat) (a 0 0).toNat (c - 1 - i) i
noncomputable def mv_lm (a : mv_a) (p0 : Nat) (it : Nat → Nat) (c i y : Nat) : Option Int := mv_mn (mv_xi a p0 it c i) ((a 0 0).toNat - y) y
theorem mv_xi_Q {a : mv_a} {p0 : Nat} {it : Nat → Nat} {c i x : Nat} : mv_Qv (c - 1 - i + 1) (mv_xi a p0 it c i x) := mv_Qv_xe (fun i x => mv_wt_Q) _ _ _
theorem mv_lm_Q {a : mv_a} {p0 : Nat} {it : Nat → Nat} {c i y : Nat} : mv_Qv (c - 1 - i + 1) (mv_lm a p0 it c i y) := mv_Qv_mn (fun x => mv_xi_Q) _ _
theorem mv_xi_last {a : mv_a} {p0 : Nat} {it : Nat → Nat} {c i x : Nat} (h : ¬ i + 1 < c) : mv_xi a p0 it c i x = mv_wt a p0 (it i) x := by
  unfold mv_xi
  rw [show c - 1 - i = 0 by omega]
  rfl
theorem mv_xi_step {a : mv_a} {p0 : Nat} {it : Nat → Nat} {c i x : Nat} (h : i + 1 < c) : mv_xi a p0 it c i x = mv_oa (mv_wt a p0 (it i) x) (mv_lm a p0 it c (i + 1) (x + (mv_dd a (it i) (it (i + 1))).toNat)) := by
  unfold mv_lm mv_xi
  rw [show c - 1 - i = (c - 1 - (i + 1)) + 1 by omega]
  rfl
theorem mv_lm_step {a : mv_a} {p0 : Nat} {it : Nat → Nat} {c i y : Nat} (h : y < (a 0 0).toNat) : mv_lm a p0 it c i y = mv_om (mv_xi a p0 it c i y) (mv_lm a p0 it c i (y + 1)) := by
  unfold mv_lm
  rw [show (a 0 0).toNat - y = ((a 0 0).toNat - (y + 1)) + 1 by omega]
  rfl
theorem mv_lm_end {a : mv_a} {p0 : Nat} {it : Nat → Nat} {c i y : Nat} (h : (a 0 0).toNat ≤ y) : mv_lm a p0 it c i y = none := by
  unfold mv_lm
  rw [show (a 0 0).toNat - y = 0 by omega]
  rfl
theorem mv_dd_b {a : mv_a} (hi : mv_iB a) {q q2 : Nat} (hq : (q : Int) < a 0 1) (hq2 : (q2 : Int) < a 0 1) : 1 ≤ mv_tk a q ∧ mv_tk a q ≤ mv_dd a q q2 ∧ mv_dd a q q2 ≤ 45 := by
  have t := hi.2.2.2.2.1 q hq
  have t2 := hi.2.2.2.2.1 q2 hq2
  have ab := mv_ap_b (k1 := a 5 q) (g1 := a 7 q) (k2 := a 5 q2) (g2 := a 7 q2) t.2.1 t2.2.1
  unfold mv_dd mv_tk
  omega
/-- a line of persons: the asker, and others that sit -/
def mv_ln (a : mv_a) (p0 : Nat) (it : Nat → Nat) (c : Nat) : Prop := c ≤ 10 ∧ ∀ i, i < c → (it i : Int) < a 0 1 ∧ (it i ≠ p0 → a 3 (it i) ≠ -1)
section RO
variable {G : mv_G} {a : mv_a} {p0 c : Nat} {it : Nat → Nat}
theorem mv_abs_eq {x : Int} (h : -1000 ≤ x ∧ x ≤ 1000) (G : mv_G) : mv_abs [.inl x] G = some (if x < 0 then 0 - x else x, G) := by
  show some (if 0 ≤ x then x else mv_w (0 - x), G) = _
  rw [mv_ws (x := 0 - x) (by omega)]
  by_cases h2 : x < 0
  · rw [if_neg (by omega), if_pos h2]
  · rw [if_pos (by omega), if_neg h2]
theorem fx_weightOf (hB : mv_cB G a) (hi : mv_iB a) (hK : mv_kC G a) (q : Nat) (hq : (q : Int) < a 0 1) (hs : q ≠ p0 → a 3 q ≠ -1) (x : Nat) (hx : x < 60) : mv_Kp (ff_X8_weightOf [.inr (74, 0), .inl q, .inl p0, .inl x] G) (fun v G' => mv_cz v (mv_wt a p0 q x) ∧ G' = G) := by
  have b1 := hi.1
  have sp := hi.2.2.2.1 q (by omega)
  have tp := hi.2.2.2.2.1 q hq
  refine mv_Kp.of (mv_JP.of (rg_X8_weightOf_0 q p0 x G) (mv_J.ce (fx_fits hB hi q hq x) (mv_J.bt (fun h1 => mv_J.ret ⟨?_, rfl⟩) (fun h1 => mv_J.ck (by omega) ?_))))
  · unfold mv_wt
    rw [if_neg h1]
    rfl
  · rw [hB.2.2.2.1, Int.toNat_natCast, mv_ws (x := (x : Int) - a 3 q) (by omega)]
    have e1 : mv_wt a p0 q x = (if q = p0 ∨ (x : Int) = a 3 q then some 0 else if a 8 q = 0 then none else some (100 * mv_mco a q (if (x : Int) < a 3 q then a 3 q - x else x - a 3 q) + 1)) := by unfold mv_wt; rw [if_pos h1]
    refine mv_J.ce (mv_abs_eq (by omega) G) (mv_J.i (fun h2 => mv_J.ret ⟨?_, rfl⟩) (fun h2 => mv_J.i (fun h3 => mv_J.ret ⟨?_, rfl⟩) (fun h3 => mv_J.ck (by omega) (mv_J.ck (by omega) ?_))))
    · rw [e1, if_pos (Or.inl (by omega))]
      rfl
    · rw [e1, if_pos (Or.inr (by split at h3 <;> omega))]
      rfl
    · rw [hB.2.2.2.2.2.2.2.2.1]
      have hne : ¬ (q = p0 ∨ (x : Int) = a 3 q) := fun h4 => by
        rcases h4 with h4 | h4
        · omega
        · rw [if_neg (by omega)] at h3; omega
      rw [if_neg hne] at e1
      have hsq := hs (fun h => hne (Or.inl h))
      have far := hi.2.2.2.2.2.1 q hq hsq
      refine mv_J.i (fun h4 => mv_J.ret ⟨?_, rfl⟩) (fun h4 => ?_)
      · rw [e1, if_pos h4]
        rfl
      · rw [if_neg h4] at e1
        have ey : (if (x : Int) - a 3 q < 0 then 0 - ((x : Int) - a 3 q) else (x : Int) - a 3 q) = (if (x : Int) < a 3 q then a 3 q - x else x - a 3 q) := by
          by_cases h5 : (x : Int) < a 3 q
          · rw [if_pos (by omega), if_pos h5]; omega
          · rw [if_neg (by omega), if_neg h5]
        rw [ey] at h3 ⊢
        obtain ⟨y, hy⟩ : ∃ y : Nat, (if (x : Int) < a 3 q then a 3 q - x else x - a 3 q) = (y : Int) := ⟨(if (x : Int) < a 3 q then a 3 q - x else x - a 3 q).toNat, by split <;> omega⟩
        rw [hy] at h3 e1 ⊢
        have y60 : (y : Int) < a 0 0 := by
          have h6 := h1.2
          have ek : mv_tk a q = a 4 q + a 6 q := rfl
          split at hy <;> omega
        have hk := hK q hq hsq h4 y (by omega) y60
        have hb := mv_hd9_b (mv_lv a 22 (mv_tmm a q y) y)
        have hb2 : 0 ≤ mv_mco a q y ∧ mv_mco a q y ≤ 999 := hb
        refine mv_J.t (by omega) (mv_J.ck (by omega) (mv_J.ck (by omega) (mv_J.ret ⟨?_, rfl⟩)))
        rw [Int.toNat_natCast, hk, mv_ws (x := mv_mco a q y * 16) (by omega), mv_ws (by omega), e1]
        show mv_mco a q y * 16 + 1 = mv_ph (100 * mv_mco a q y + 1)
        rw [mv_ph_eq (by omega)]
        omega
theorem fx_takesWithKeep (hB : mv_cB G a) (hi : mv_iB a) (hl : mv_ln a p0 it c) (h80 : ∀ i, i < c → G 80 0 i = it i) (i : Nat) (hic : i < c) : ff_X8_takesWithKeep [.inr (74, 0), .inl i, .inl c] G = some (if i + 1 < c then mv_dd a (it i) (it (i + 1)) else mv_tk a (it i), G) := by
  have hc := hl.1
  have q0 := (hl.2 i hic).1
  have b1 := hi.1
  have tp := hi.2.2.2.2.1 (it i) q0
  refine mv_Kp.eq (mv_Kp.of (mv_JP.of (rg_X8_takesWithKeep_0 i c G) (mv_J.ck (by omega) ?_)))
  rw [Int.toNat_natCast, h80 i hic, mv_ws (x := (i : Int) + 1) (by omega), show ((i : Int) + 1).toNat = i + 1 by omega]
  refine mv_J.ce (fx_takes hB hi (it i) q0) (mv_J.i (fun h1 => ?_) (fun h1 => mv_J.ret ⟨by rw [if_neg (by omega)], rfl⟩))
  have q1 := (hl.2 (i + 1) (by omega)).1
  have hd := mv_dd_b hi q0 q1
  rw [h80 i hic, h80 (i + 1) (by omega)]
  refine mv_J.ck (by omega) (mv_J.ck (by omega) (mv_J.ce (fx_apart hB hi (it i) (it (i + 1)) q0 q1) (mv_J.ret ⟨?_, rfl⟩)))
  unfold mv_dd at hd
  rw [if_pos (by omega), mv_ws (by omega)]
  rfl
/-- the table's row of one of the line -/
def mv_tb (G : mv_G) (a : mv_a) (p0 : Nat) (it : Nat → Nat) (c i : Nat) : Prop := (∀ x : Nat, (x : Int) < a 0 0 → mv_cx (G 78 (i + 1) x) (mv_xi a p0 it c i x)) ∧ ∀ x : Nat, (x : Int) ≤ a 0 0 → mv_cz (G 79 (i + 1) x) (mv_lm a p0 it c i x)
theorem mv_cx_b {k : Nat} {x : Int} {o : Option Int} (hk : k ≤ 10) (hQ : mv_Qv k o) (h : mv_cx x o) : 0 ≤ x ∧ x ≤ 2000000 := by
  cases o with
  | none => unfold mv_cx at h; dsimp only at h; omega
  | some v =>
    have := mv_Qv_b hk hQ
    unfold mv_cx at h
    dsimp only at h
    omega
set_option maxHeartbeats 2000000 in
theorem fx_weigh (hB : mv_cB G a) (hi : mv_iB a) (hK : mv_kC G a) (hl : mv_ln a p0 it c) (h80 : ∀ i, i < c → G 80 0 i = it i) : mv_Kp (ff_X8_weigh [.inr (74, 0), .inl p0, .inl c] G) (fun _ G' => (∀ i, i < c → mv_tb G' a p0 it c i) ∧ mv_ch [78, 79] [] G G') := by
  have b1 := hi.1
  have hc10 := hl.1
  obtain ⟨P, hP⟩ : ∃ P : Int → mv_G → Prop, P = (fun _ G' => (∀ i, i < c → mv_tb G' a p0 it c i) ∧ mv_ch [78, 79] [] G G') := ⟨_, rfl⟩
  rw [← hP]
  have key : ∀ (m : Nat) (G1 : mv_G), m ≤ c → mv_ch [78, 79] [] G G1 → (∀ i, m ≤ i → i < c → mv_tb G1 a p0 it c i) → mv_JP mm_X8_weigh P 13 [some (.inr (74, 0)), some (.inl (p0 : Int)), some (.inl (c : Int)), some (.inl (a 0 0)), some (.inl ((m : Int) - 1)), none, none, none] G1 := by
    intro m
    induction m with
    | zero =>
      intro G1 hm hc ht
      refine mv_JP.of (rg_X8_weigh_13 _ _ _ _ G1) (mv_J.t (by omega) (mv_J.ret ?_))
      rw [hP]
      exact ⟨fun i h => ht i (Nat.zero_le _) h, hc⟩
    | succ m ih =>
      intro G1 hm hc ht
      have hB1 := hB.ch hc (by decide)
      have h801 : ∀ i, i < c → G1 80 0 i = it i := fun i h => by rw [hc.cell 80 rfl]; exact h80 i h
      have e0 : ((m + 1 : Nat) : Int) - 1 = (m : Int) := by omega
      have q0 := (hl.2 m (by omega)).1
      have tb1 : 1 ≤ (if m + 1 < c then mv_dd a (it m) (it (m + 1)) else mv_tk a (it m)) ∧ (if m + 1 < c then mv_dd a (it m) (it (m + 1)) else mv_tk a (it m)) ≤ 45 := by
        split
        · have := mv_dd_b hi q0 (hl.2 (m + 1) (by omega)).1
          omega
        · have := mv_dd_b hi q0 q0
          omega
      rw [e0]
      refine mv_JP.of (rg_X8_weigh_13 _ _ _ _ G1) (mv_J.f (by omega) (mv_J.ce (fx_takesWithKeep hB1 hi hl h801 m (by omega)) (mv_J.ck (by omega) (mv_J.ck (by omega) (mv_J.cut ?_)))))
      rw [Int.toNat_natCast, mv_ws (x := a 0 0 - 1) (by omega)]
      have hc2 : mv_ch [78, 79] [] G (mv_up G1 79 (m + 1) (a 0 0).toNat 1000000) := hc.uc rfl
      have base : (mv_up G1 79 (m + 1) (a 0 0).toNat 1000000) 79 (m + 1) (a 0 0).toNat = 1000000 := mv_ups_eq
      have oth : ∀ i, m + 1 ≤ i → i < c → mv_tb (mv_up G1 79 (m + 1) (a 0 0).toNat 1000000) a p0 it c i := fun i h1 h2 => by
        unfold mv_tb
        rw [mv_up_k (by decide), mv_up_i (by omega)]
        exact ht i h1 h2
      generalize mv_up G1 79 (m + 1) (a 0 0).toNat 1000000 = G2 at hc2 base oth
      have inner : ∀ (y : Nat) (G3 : mv_G), (y : Int) ≤ a 0 0 → mv_ch [78, 79] [] G G3 → (∀ i, m + 1 ≤ i → i < c → mv_tb G3 a p0 it c i) → (∀ x : Nat, y ≤ x → (x : Int) < a 0 0 → mv_cx (G3 78 (m + 1) x) (mv_xi a p0 it c m x)) → (∀ x : Nat, y ≤ x → (x : Int) ≤ a 0 0 → mv_cz (G3 79 (m + 1) x) (mv_lm a p0 it c m x)) → mv_JP mm_X8_weigh P 43 [some (.inr (74, 0)), some (.inl (p0 : Int)), some (.inl (c : Int)), some (.inl (a 0 0)), some (.inl (m : Int)), some (.inl (if m + 1 < c then mv_dd a (it m) (it (m + 1)) else mv_tk a (it m))), some (.inl ((y : Int) - 1)), none] G3 := by
        intro y
        induction y with
        | zero =>
          intro G3 hy hc3 ho h78 h79
          refine mv_JP.of (rg_X8_weigh_43 _ _ _ _ _ _ G3) (mv_J.t (by omega) (mv_J.cut ?_))
          rw [mv_ws (by omega)]
          refine ih G3 (by omega) hc3 (fun i h1 h2 => ?_)
          rcases Nat.lt_or_ge m i with h3 | h3
          · exact ho i h3 h2
          · rw [show i = m by omega]
            exact ⟨fun x h4 => h78 x (Nat.zero_le _) h4, fun x h4 => h79 x (Nat.zero_le _) h4⟩
        | succ y ihy =>
          intro G3 hy hc3 ho h78 h79
          have hB3 := hB.ch hc3 (by decide)
          have hK3 : mv_kC G3 a := by unfold mv_kC; rw [hc3.cell 77 rfl]; exact hK
          have h803 : G3 80 0 m = it m := by rw [hc3.cell 80 rfl]; exact h80 m (by omega)
          have ey : ((y + 1 : Nat) : Int) - 1 = (y : Int) := by omega
          rw [ey]
          refine mv_JP.of (rg_X8_weigh_43 _ _ _ _ _ _ G3) (mv_J.f (by omega) (mv_J.ck (by omega) ?_))
          rw [Int.toNat_natCast, h803]
          refine mv_J.cn (fx_weightOf hB3 hi hK3 (it m) q0 (hl.2 m (by omega)).2 y (by omega)) (fun v G4 h4 => ?_)
          have hv := h4.1
          rw [h4.2]
          clear h4 G4
          have vb := mv_cx_b (by omega) mv_wt_Q (mv_cz_cx hv)
          have ez : ((y : Int) + 1).toNat = y + 1 := by omega
          have hl1 := h79 (y + 1) (by omega) (by omega)
          have l1b := mv_cx_b (k := c - 1 - m + 1) (by omega) mv_lm_Q (mv_cz_cx hl1)
          -- what comes behind, with the sum
          have fin : ∀ sum : Int, mv_cx sum (mv_xi a p0 it c m y) → mv_JP mm_X8_weigh P 43 [some (.inr (74, 0)), some (.inl (p0 : Int)), some (.inl (c : Int)), some (.inl (a 0 0)), some (.inl (m : Int)), some (.inl (if m + 1 < c then mv_dd a (it m) (it (m + 1)) else mv_tk a (it m))), some (.inl ((y : Int) - 1)), none] (mv_up (mv_up G3 78 (m + 1) y sum) 79 (m + 1) y (if G3 79 (m + 1) (y + 1) < sum then G3 79 (m + 1) (y + 1) else sum)) := fun sum hsum => by
            refine ihy _ (by omega) ((hc3.uc rfl).uc rfl) (fun i h1 h2 => ?_) (fun x h1 h2 => ?_) (fun x h1 h2 => ?_)
            · unfold mv_tb
              rw [mv_up_k (by decide), mv_up_i (by omega), mv_up_i (by omega), mv_up_k (by decide)]
              exact ho i h1 h2
            · rw [mv_up_k (by decide), mv_up_at]
              split
              · next h3 => rw [h3]; exact hsum
              · exact h78 x (by omega) h2
            · rw [mv_up_at]
              split
              · next h3 =>
                rw [h3, mv_lm_step (by omega)]
                exact mv_cz_min (k := c - 1 - m + 1) (by omega) mv_xi_Q mv_lm_Q hsum hl1
              · rw [mv_up_k (by decide)]
                exact h79 x (by omega) h2
          rw [mv_ws (x := (m : Int) + 1) (by omega), mv_ws (x := (y : Int) + (-1)) (by omega), mv_ws (x := (y : Int) + 1) (by omega), mv_ws (x := v + 1000000) (by omega), ez, Int.toNat_natCast, show (y : Int) + (-1) = (y : Int) - 1 by omega, show ((m : Int) + 1).toNat = m + 1 by omega]
          refine mv_J.i (fun h5 => ?_) (fun h5 => ?_)
          · rw [if_pos (c := m + 1 < c) (by omega)] at tb1 fin ⊢
            have hst := mv_xi_step (a := a) (p0 := p0) (it := it) (c := c) (i := m) (x := y) (by omega)
            rw [mv_ws (x := (y : Int) + mv_dd a (it m) (it (m + 1))) (by omega)]
            refine mv_J.i (fun h6 => ?_) (fun h6 => ?_)
            · refine mv_J.ck (by omega) (mv_J.ck (by omega) (mv_J.ck (by omega) (mv_J.ck (by omega) (mv_J.ck (by omega) (mv_J.ce (mv_min_eq _ _ _) (mv_J.ck (by omega) (mv_J.cut ?_)))))))
              rw [mv_up_k (by decide : (79 : Nat) ≠ 78)]
              refine fin _ ?_
              rw [hst, mv_lm_end (by omega)]
              exact mv_cx_add (k := 0) (by omega) mv_wt_Q (fun v h => by cases h) hv rfl
            · have hr := (ho (m + 1) (by omega) (by omega)).2 (y + (mv_dd a (it m) (it (m + 1))).toNat) (by omega)
              have rb := mv_cx_b (k := c - 1 - (m + 1) + 1) (by omega) mv_lm_Q (mv_cz_cx hr)
              rw [show ((y : Int) + mv_dd a (it m) (it (m + 1))).toNat = y + (mv_dd a (it m) (it (m + 1))).toNat by omega, mv_ws (x := v + G3 79 (m + 1 + 1) (y + (mv_dd a (it m) (it (m + 1))).toNat)) (by omega)]
              refine mv_J.ck (by omega) (mv_J.ck (by omega) (mv_J.ck (by omega) (mv_J.ck (by omega) (mv_J.ck (by omega) (mv_J.ck (by omega) (mv_J.ck (by omega) (mv_J.ce (mv_min_eq _ _ _) (mv_J.ck (by omega) (mv_J.cut ?_)))))))))
              rw [mv_up_k (by decide : (79 : Nat) ≠ 78)]
              refine fin _ ?_
              rw [hst]
              exact mv_cx_add (k := c - 1 - (m + 1) + 1) (by omega) mv_wt_Q mv_lm_Q hv hr
          · refine mv_J.ck (by omega) (mv_J.ck (by omega) (mv_J.ck (by omega) (mv_J.ck (by omega) (mv_J.ck (by omega) (mv_J.ce (mv_min_eq _ _ _) (mv_J.ck (by omega) (mv_J.cut ?_)))))))
            rw [mv_up_k (by decide : (79 : Nat) ≠ 78)]
            refine fin _ ?_
            rw [mv_xi_last (by omega)]
            exact mv_cz_cx hv
      obtain ⟨L, hL⟩ : ∃ L : Nat, a 0 0 = L := ⟨(a 0 0).toNat, by omega⟩
      have := inner L G2 (by omega) hc2 oth (fun x h1 h2 => by omega) (fun x h1 h2 => by
        rw [show x = (a 0 0).toNat by omega, base, mv_lm_end (Nat.le_refl _)]
        rfl)
      rw [← hL] at this
      exact this
  refine mv_Kp.of (mv_JP.of (rg_X8_weigh_0 p0 c G) (mv_J.cut ?_))
  rw [hB.1.1, mv_ws (by omega)]
  exact key c G (Nat.le_refl _) mv_ch.rf (fun i h1 h2 => by omega)
end RO
