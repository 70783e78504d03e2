/-! The best inch for an arm rest, the reference. -/
section MB
variable {G : mv_G} {a : mv_a} {w k : Nat}
set_option maxHeartbeats 2000000 in
theorem gx_findsAround (hB : mv_mB G a) (hi : mv_iB a) (hw : 1 ≤ w ∧ w ≤ 20) (hk : k ≤ 15) (hb : mv_sB G w k ((a 0 0).toNat + 1)) (rest : Nat) (hr : 1 ≤ rest ∧ (rest : Int) < a 0 0) : mv_Kp (ff_X12_findsAround [.inr (100, 0), .inl w, .inl k, .inl rest] G) (fun _ G' => (∀ f l : Nat, f < rest → rest < l → (l : Int) ≤ a 0 0 → G' 132 0 (62 * f + l) = mv_Fe w k (mv_Cr rest w) f l) ∧ mv_ch [132] [] G G') := by
  have b1 := hi.1
  obtain ⟨P, hP⟩ : ∃ P : Int → mv_G → Prop, P = (fun _ G' => (∀ f l : Nat, f < rest → rest < l → (l : Int) ≤ a 0 0 → G' 132 0 (62 * f + l) = mv_Fe w k (mv_Cr rest w) f l) ∧ mv_ch [132] [] G G') := ⟨_, rfl⟩
  rw [← hP]
  have key : ∀ (q n : Nat) (G1 : mv_G), (n : Int) + q = (if a 0 0 < 2 then 2 else a 0 0 + 1) → 2 ≤ n → mv_ch [132] [] G G1 → mv_sR G1 w k a rest n 0 → mv_JP mm_X12_findsAround P 3 [some (.inr (100, 0)), some (.inl (w : Int)), some (.inl (k : Int)), some (.inl (rest : Int)), some (.inl (n : Int)), none, none, none, none, none] G1 := by
    intro q
    induction q with
    | zero =>
      intro n G1 hq hn2 hc ht
      have hB1 := hB.ch hc (by decide) rfl rfl
      refine mv_JP.of (rg_X12_findsAround_3 _ _ _ _ G1) (mv_J.ce (gx_length hB1 hi) (mv_J.t (by split at hq <;> omega) (mv_J.ret ?_)))
      rw [hP]
      exact ⟨fun f l h1 h2 h3 => ht f l h1 h2 h3 (Or.inl (by split at hq <;> omega)), hc⟩
    | succ q ih =>
      intro n G1 hq hn2 hc ht
      have hnL : (n : Int) ≤ a 0 0 := by split at hq <;> omega
      have hB1 := hB.ch hc (by decide) rfl rfl
      have rows : ∀ (m f : Nat) (G2 : mv_G), f + m = rest → (rest : Int) - n + 1 ≤ f → mv_ch [132] [] G G2 → mv_sR G2 w k a rest n f → mv_JP mm_X12_findsAround P 25 [some (.inr (100, 0)), some (.inl (w : Int)), some (.inl (k : Int)), some (.inl (rest : Int)), some (.inl (n : Int)), some (.inl (f : Int)), none, none, none, none] G2 := by
        intro m
        induction m with
        | zero =>
          intro f G2 hm hf hc2 ht2
          refine mv_JP.of (rg_X12_findsAround_25 _ _ _ _ _ G2) (mv_J.f (by omega) (mv_J.cut ?_))
          rw [mv_ws (by omega)]
          refine ih (n + 1) G2 (by split at hq <;> split <;> omega) (by omega) hc2 (fun f2 l2 h1 h2 h3 h4 => ht2 f2 l2 h1 h2 h3 ?_)
          omega
        | succ m ihm =>
          intro f G2 hm hf hc2 ht2
          have hB2 := hB.ch hc2 (by decide) rfl rfl
          refine mv_JP.of (rg_X12_findsAround_25 _ _ _ _ _ G2) (mv_J.t (by omega) (mv_J.ce (gx_length hB2 hi) ?_))
          rw [mv_ws (x := (f : Int) + n) (by omega), mv_ws (x := (n : Int) + 1) (by omega)]
          refine mv_J.i (fun h1 => mv_J.cut ?_) (fun h1 => mv_J.cut ?_)
          · refine ih (n + 1) G2 (by split at hq <;> split <;> omega) (by omega) hc2 (fun f2 l2 h2 h3 h4 h5 => ht2 f2 l2 h2 h3 h4 ?_)
            omega
          · -- one stretch
            have hb2 : mv_sB G2 w k ((a 0 0).toNat + 1) := fun x hx => by rw [hc2.cell 135 rfl]; exact hb x hx
            obtain ⟨iR, hIR⟩ : ∃ iR : Nat → Option Int, iR = fun x => mv_oc (mv_Cr rest w x) (1 + mv_stv mv_Hf 1 w k (mv_Cr rest w) f ((x : Int) - k) + mv_stv mv_Hf 1 w k (mv_Cr rest w) (x + w + k) ((f + n : Nat) : Int)) := ⟨_, rfl⟩
            have pI : ∀ x v, iR x = some v → 1 ≤ v := fun x v h => by
              rw [hIR] at h
              by_cases c : mv_Cr rest w x
              · have h : mv_oc (mv_Cr rest w x) _ = some v := h
                rw [mv_oc_t c] at h
                have := Option.some.inj h
                have := mv_Fe_b (k := k) (C := mv_Cr rest w) hw.1 (((x : Int) - k) - f).toNat f ((x : Int) - k) (by omega)
                have := mv_Fe_b (k := k) (C := mv_Cr rest w) hw.1 100 (x + w + k) ((f + n : Nat) : Int) (by omega)
                unfold mv_Fe at *
                omega
              · have h : mv_oc (mv_Cr rest w x) _ = some v := h
                rw [mv_oc_f c] at h
                cases h
            have inner : ∀ (j x : Nat) (acc : Int), x + j = ((f + n : Nat) - (w : Int) - f + 1).toNat → acc = (match mv_mn iR x f with | some v => v | none => -1) → mv_JP mm_X12_findsAround P 57 [some (.inr (100, 0)), some (.inl (w : Int)), some (.inl (k : Int)), some (.inl (rest : Int)), some (.inl (n : Int)), some (.inl (f : Int)), some (.inl ((f : Int) + n)), some (.inl acc), some (.inl ((f + x : Nat) : Int)), none] G2 := by
              intro j
              induction j with
              | zero =>
                intro x acc hj hacc
                refine mv_JP.of (rg_X12_findsAround_57 _ _ _ _ _ _ _ _ G2) ?_
                have ei : mv_w (mv_w (62 * (f : Int)) + ((f : Int) + n)) = ((62 * f + (f + n) : Nat) : Int) := by rw [mv_ws (x := 62 * (f : Int)) (by omega), mv_ws (by omega)]; omega
                rw [ei]
                clear ei
                rw [mv_ws (x := ((f + x : Nat) : Int) + w) (by omega), mv_ws (x := (f : Int) + 1) (by omega), Int.toNat_natCast, mv_ckp (n := 3844) (by omega), mv_ckp (n := 3844) (by omega)]
                have e1 : mv_Fe w k (mv_Cr rest w) f ((f + n : Nat) : Int) = _ := mv_stv_eq mv_Hf_ok hw.1 f ((f + n : Nat) : Int)
                have e2 : mv_Fe w k (mv_Cr rest w) f ((f + n : Nat) : Int) = mv_z0 (mv_mn iR x f) := by
                  rw [e1, mv_Hf_v, hIR, ← hj, Nat.add_zero]
                have put : ∀ v : Int, v = mv_z0 (mv_mn iR x f) → mv_JP mm_X12_findsAround P 25 [some (.inr (100, 0)), some (.inl (w : Int)), some (.inl (k : Int)), some (.inl (rest : Int)), some (.inl (n : Int)), some (.inl ((f : Int) + 1)), none, none, none, none] (mv_up G2 132 0 (62 * f + (f + n)) v) := fun v hv => by
                  have := ihm (f + 1) (mv_up G2 132 0 (62 * f + (f + n)) v) (by omega) (by omega) (hc2.uc rfl) (fun f2 l2 h2 h3 h4 h5 => by
                    rw [mv_up_at]
                    by_cases e : f2 = f ∧ l2 = f + n
                    · rw [e.1, e.2, if_pos rfl, e2]
                      exact hv
                    · rw [if_neg (by omega)]
                      exact ht2 f2 l2 h2 h3 h4 (by omega))
                  exact this
                refine mv_J.t (by omega) (mv_J.i (fun h2 => mv_J.cut (put 0 ?_)) (fun h2 => mv_J.cut (put acc ?_)))
                · cases ho : mv_mn iR x f with
                  | none => rfl
                  | some v =>
                    rw [ho] at hacc
                    obtain ⟨z, -, -, hz⟩ := mv_mn_at _ _ _ ho
                    have := pI z v hz
                    have hacc : acc = v := hacc
                    omega
                · cases ho : mv_mn iR x f with
                  | none =>
                    rw [ho] at hacc
                    exact absurd hacc h2
                  | some v =>
                    rw [ho] at hacc
                    exact hacc
              | succ j ihj =>
                intro x acc hj hacc
                have hs := mv_mn_s (f := iR) x f
                have nx : ∀ acc2 : Int, acc2 = (match mv_mn iR (x + 1) f with | some v => v | none => -1) → mv_JP mm_X12_findsAround P 57 [some (.inr (100, 0)), some (.inl (w : Int)), some (.inl (k : Int)), some (.inl (rest : Int)), some (.inl (n : Int)), some (.inl (f : Int)), some (.inl ((f : Int) + n)), some (.inl acc2), some (.inl (((f + x : Nat) : Int) + 1)), none] G2 := fun acc2 h => by
                  have := ihj (x + 1) acc2 (by omega) h
                  rw [show ((f + (x + 1) : Nat) : Int) = ((f + x : Nat) : Int) + 1 by omega] at this
                  exact this
                refine mv_JP.of (rg_X12_findsAround_57 _ _ _ _ _ _ _ _ G2) ?_
                rw [show mv_w (((f + x : Nat) : Int) + w) = ((f + x : Nat) : Int) + w by rw [mv_ws (by omega)], mv_ws (x := ((f + x : Nat) : Int) + w + k) (by omega), mv_ws (x := ((f + x : Nat) : Int) - k) (by omega), mv_ws (x := ((f + x : Nat) : Int) + 1) (by omega)]
                have sub1 := gx_fewestBy (G := G2) (k := k) hi hw.1 hb2 rest f (((f + x : Nat) : Int) - k) (by omega) (by omega) (fun h2 h3 => by
                  have := ht2 f (((f + x : Nat) : Int) - k).toNat h2 (by omega) (by omega) (Or.inl (by omega))
                  rw [show (((((f + x : Nat) : Int) - k).toNat : Nat) : Int) = ((f + x : Nat) : Int) - k by omega] at this
                  exact this)
                have sub2 := gx_fewestBy (G := G2) (k := k) hi hw.1 hb2 rest (f + x + w + k) ((f : Int) + n) (by omega) (by omega) (fun h2 h3 => by
                  have := ht2 (f + x + w + k) ((f : Int) + n).toNat h2 (by omega) (by omega) (Or.inl (by omega))
                  rw [show ((((f : Int) + n).toNat : Nat) : Int) = (f : Int) + n by omega] at this
                  exact this)
                rw [show ((f + x + w + k : Nat) : Int) = ((f + x : Nat) : Int) + w + k by omega] at sub2
                have bF1 := mv_Fe_b (k := k) (C := mv_Cr rest w) hw.1 100 f (((f + x : Nat) : Int) - k) (by omega)
                have bF2 := mv_Fe_b (k := k) (C := mv_Cr rest w) hw.1 100 (f + x + w + k) ((f : Int) + n) (by omega)
                have yes : mv_Cr rest w (f + x) → mv_J mm_X12_findsAround P (mv_cn (ff_X12_fewestBy [.inr (100, 0), .inl (rest : Int), .inl (f : Int), .inl (((f + x : Nat) : Int) - k)] G2) fun r0 G0 => mv_cn (ff_X12_fewestBy [.inr (100, 0), .inl (rest : Int), .inl (((f + x : Nat) : Int) + w + k), .inl ((f : Int) + n)] G0) fun r1 G1 => if acc = -1 then some (.inr (57, [some (.inr (100, 0)), some (.inl (w : Int)), some (.inl (k : Int)), some (.inl (rest : Int)), some (.inl (n : Int)), some (.inl (f : Int)), some (.inl ((f : Int) + n)), some (.inl (mv_w (mv_w (1 + r0) + r1))), some (.inl (((f + x : Nat) : Int) + 1)), none], G1)) else if mv_w (mv_w (1 + r0) + r1) < acc then some (.inr (57, [some (.inr (100, 0)), some (.inl (w : Int)), some (.inl (k : Int)), some (.inl (rest : Int)), some (.inl (n : Int)), some (.inl (f : Int)), some (.inl ((f : Int) + n)), some (.inl (mv_w (mv_w (1 + r0) + r1))), some (.inl (((f + x : Nat) : Int) + 1)), none], G1)) else some (.inr (57, [some (.inr (100, 0)), some (.inl (w : Int)), some (.inl (k : Int)), some (.inl (rest : Int)), some (.inl (n : Int)), some (.inl (f : Int)), some (.inl ((f : Int) + n)), some (.inl acc), some (.inl (((f + x : Nat) : Int) + 1)), none], G1))) := by
                  intro hC
                  have eR : iR (f + x) = some (1 + mv_Fe w k (mv_Cr rest w) f (((f + x : Nat) : Int) - k) + mv_Fe w k (mv_Cr rest w) (f + x + w + k) ((f : Int) + n)) := by
                    rw [hIR]
                    exact mv_oc_t hC
                  rw [eR] at hs
                  refine mv_J.ce sub1 (mv_J.ce sub2 ?_)
                  rw [mv_ws (x := 1 + mv_Fe w k (mv_Cr rest w) f (((f + x : Nat) : Int) - k)) (by omega), mv_ws (by omega)]
                  cases ho : mv_mn iR x f with
                  | none =>
                    rw [ho] at hacc hs
                    have hacc : acc = -1 := hacc
                    refine mv_J.t hacc (mv_J.cut (nx _ ?_))
                    rw [hs]
                    rfl
                  | some v =>
                    rw [ho] at hacc hs
                    have hacc : acc = v := hacc
                    obtain ⟨z, -, -, hz⟩ := mv_mn_at _ _ _ ho
                    have := pI z v hz
                    refine mv_J.f (by omega) (mv_J.i (fun h2 => mv_J.cut (nx _ ?_)) (fun h2 => mv_J.cut (nx _ ?_)))
                    · rw [hs]
                      rw [hacc] at h2
                      exact (if_pos h2).symm
                    · rw [hs]
                      rw [hacc] at h2 ⊢
                      exact (if_neg h2).symm
                refine mv_J.f (by omega) (mv_J.i (fun h2 => mv_J.i (fun h3 => mv_J.cut (nx _ ?_)) (fun h3 => yes (by unfold mv_Cr; omega))) (fun h2 => yes (by unfold mv_Cr; omega)))
                have eR : iR (f + x) = none := by
                  rw [hIR]
                  exact mv_oc_f (fun h => h (by omega))
                rw [eR] at hs
                rw [hs, hacc]
                cases mv_mn iR x f <;> rfl
            have := inner ((f + n : Nat) - (w : Int) - f + 1).toNat 0 (-1) (by omega) rfl
            exact this
      refine mv_JP.of (rg_X12_findsAround_3 _ _ _ _ G1) (mv_J.ce (gx_length hB1 hi) (mv_J.f (by omega) (mv_J.ce (gx_greater _ _ _) (mv_J.cut ?_))))
      rw [mv_ws (x := (rest : Int) - n) (by omega), mv_ws (by omega)]
      by_cases c : (0 : Int) < (rest : Int) - n + 1
      · rw [if_pos c, show (rest : Int) - n + 1 = (((rest : Int) - n + 1).toNat : Nat) by omega]
        exact rows (rest - ((rest : Int) - n + 1).toNat) _ G1 (by omega) (by omega) hc (fun f2 l2 h1 h2 h3 h4 => ht f2 l2 h1 h2 h3 (by omega))
      · rw [if_neg c]
        exact rows rest 0 G1 (by omega) (by omega) hc ht
  have := key ((if a 0 0 < 2 then 2 else a 0 0 + 1) - 2).toNat 2 G (by split <;> omega) (Nat.le_refl _) mv_ch.rf (fun f l h1 h2 h3 h4 => by omega)
  exact mv_Kp.of (mv_JP.of (rg_X12_findsAround_0 w k rest G) (mv_J.cut this))
theorem gx_bestRest (hB : mv_mB G a) (hi : mv_iB a) (w k : Int) : mv_Kp (ff_X12_bestRest [.inr (100, 0), .inl w, .inl k] G) (fun v G' => v = mv_bre a w k ∧ mv_ch [132, 135] [(100, 0)] G G') := by
  have b1 := hi.1
  have c0 : mv_ch [132, 135] [(100, 0)] G (mv_up G 100 0 0 0) := mv_ch.rf.up rfl
  refine mv_Kp.of (mv_JP.of (rg_X12_bestRest_0 w k G) ?_)
  generalize mv_up G 100 0 0 0 = G0 at c0
  have hB0 := hB.ch c0 (by decide) rfl rfl
  refine mv_J.ce (gx_areAlike _ _ _) (mv_J.bt (fun h1 => mv_J.ret ⟨(if_neg h1).symm, c0⟩) (fun hwk => ?_))
  have er : mv_bre a w k = (mv_br w.toNat k.toNat (a 0 0) ((a 0 0).toNat - 1)).1 := if_pos hwk
  obtain ⟨⟨w1, w2⟩, k1, k2⟩ := id hwk
  obtain ⟨x, rfl⟩ : ∃ x : Nat, w = x := ⟨w.toNat, by omega⟩
  obtain ⟨y, rfl⟩ : ∃ y : Nat, k = y := ⟨k.toNat, by omega⟩
  rw [Int.toNat_natCast, Int.toNat_natCast] at er
  have hx : 1 ≤ x ∧ x ≤ 20 := by omega
  refine mv_J.cn (gx_findsBare hB0 hi hx (by omega)) (fun v G1 h1 => ?_)
  obtain ⟨hb1, c1⟩ := h1
  have c01 := c0.tr (c1.mono (S2 := [132, 135]) (T2 := [(100, 0)]) rfl rfl)
  have hB1 := hB.ch c01 (by decide) rfl rfl
  refine mv_J.ce (gx_length hB1 hi) (mv_J.ck (by omega) (mv_J.cut ?_))
  have eL := hb1 (a 0 0).toNat (by omega)
  rw [eL, show (((a 0 0).toNat : Nat) : Int) = a 0 0 by omega]
  have key : ∀ (q i : Nat) (G2 : mv_G), (i : Int) + 1 + q = a 0 0 → mv_ch [132, 135] [(100, 0)] G G2 → mv_sB G2 x y ((a 0 0).toNat + 1) → mv_JP mm_X12_bestRest (fun v G' => v = mv_bre a x y ∧ mv_ch [132, 135] [(100, 0)] G G') 38 [some (.inr (100, 0)), some (.inl (x : Int)), some (.inl (y : Int)), some (.inl (mv_br x y (a 0 0) i).1), some (.inl (mv_br x y (a 0 0) i).2), some (.inl ((i + 1 : Nat) : Int)), none] G2 := by
    intro q
    induction q with
    | zero =>
      intro i G2 hq hc hb
      have hB2 := hB.ch hc (by decide) rfl rfl
      refine mv_JP.of (rg_X12_bestRest_38 _ _ _ _ _ G2) (mv_J.ce (gx_length hB2 hi) (mv_J.f (by omega) (mv_J.ret ⟨?_, hc⟩)))
      rw [er, show (a 0 0).toNat - 1 = i by omega]
    | succ q ih =>
      intro i G2 hq hc hb
      have hB2 := hB.ch hc (by decide) rfl rfl
      refine mv_JP.of (rg_X12_bestRest_38 _ _ _ _ _ G2) (mv_J.ce (gx_length hB2 hi) ?_)
      rw [mv_ws (x := ((i + 1 : Nat) : Int) + 1) (by omega)]
      refine mv_J.t (by omega) (mv_J.cn (gx_findsAround hB2 hi hx (by omega) hb (i + 1) (by omega)) (fun v G3 h3 => ?_))
      obtain ⟨h3, c3⟩ := h3
      have hc3 : mv_ch [132, 135] [(100, 0)] G G3 := hc.tr (c3.mono rfl rfl)
      have hB3 := hB.ch hc3 (by decide) rfl rfl
      have hb3 : mv_sB G3 x y ((a 0 0).toNat + 1) := fun z hz => by rw [c3.cell 135 rfl]; exact hb z hz
      have e := gx_fewestBy (G := G3) (k := y) hi hx.1 hb3 (i + 1) 0 (a 0 0) (Int.le_refl _) (by omega) (fun h4 h5 => by
        have := h3 0 (a 0 0).toNat (by omega) (by omega) (by omega)
        rw [show (((a 0 0).toNat : Nat) : Int) = a 0 0 by omega] at this
        exact this)
      refine mv_J.ce (gx_length hB3 hi) (mv_J.ce e ?_)
      have nx := ih (i + 1) G3 (by omega) hc3 hb3
      have est : mv_br x y (a 0 0) (i + 1) = if (mv_br x y (a 0 0) i).2 < mv_Fe x y (mv_Cr (i + 1) x) 0 (a 0 0) then (((i + 1 : Nat) : Int), mv_Fe x y (mv_Cr (i + 1) x) 0 (a 0 0)) else mv_br x y (a 0 0) i := rfl
      rw [est] at nx
      rw [show ((i + 1 + 1 : Nat) : Int) = ((i + 1 : Nat) : Int) + 1 by omega] at nx
      refine mv_J.i (fun h6 => mv_J.ce (gx_greater _ _ _) (mv_J.cut ?_)) (fun h6 => mv_J.ce (gx_greater _ _ _) (mv_J.cut ?_))
      · rw [if_pos h6] at nx
        rw [if_neg (by omega)]
        exact nx
      · rw [if_neg h6] at nx
        by_cases h7 : mv_Fe x y (mv_Cr (i + 1) x) 0 (a 0 0) < (mv_br x y (a 0 0) i).2
        · rw [if_pos h7]; exact nx
        · rw [if_neg h7, show mv_Fe x y (mv_Cr (i + 1) x) 0 (a 0 0) = (mv_br x y (a 0 0) i).2 by omega]; exact nx
  have := key ((a 0 0).toNat - 1) 0 G1 (by omega) c01 hb1
  exact this
end MB
