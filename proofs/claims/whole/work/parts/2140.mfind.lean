/-! ROOM, the reference: the best gap and the seats. -/
theorem mv_gat_who {a : mv_a} {s : Int} {i : Nat} (h : i < (mv_gat a s (a 0 1).toNat).1) : ∃ q : Nat, (mv_gat a s (a 0 1).toNat).2 4 i = q ∧ (q : Int) < a 0 1 ∧ a 3 q ≠ -1 ∧ (mv_gat a s (a 0 1).toNat).2 0 i = a 3 q := by
  obtain ⟨q, h1, h2, h3, h4⟩ := mv_gat_mem (a := a) (s := s) (a 0 1).toNat i h
  exact ⟨q, congrFun h4 4, by omega, h2, congrFun h4 0⟩
section MF
variable {G : mv_G} {a : mv_a} {p0 n : Nat} {r : mv_a}
set_option maxHeartbeats 1000000 in
theorem gx_itemsFor (h : mv_mR G n r) (hn : n ≤ 9) (hw : ∀ i, i < n → ∃ q : Nat, r 4 i = q ∧ q ≠ p0 ∧ r 0 i = a 3 q) (g : Nat) (hg : g ≤ n) : mv_Kp (ff_X12_itemsFor [.inr (100, 0), .inl p0, .inl g] G) (fun _ G' => mv_mI G' a p0 (mv_itg r p0 g) (n + 1) ∧ mv_ch [128, 129] [] G G') := by
  refine mv_Kp.of (mv_JP.of (rg_X12_itemsFor_0 p0 g G) (mv_J.cut ?_))
  have key : ∀ (q i : Nat) (G1 : mv_G), i + q = n + 1 → mv_ch [128, 129] [] G G1 → mv_mI G1 a p0 (mv_itg r p0 g) i → mv_JP mm_X12_itemsFor (fun _ G' => mv_mI G' a p0 (mv_itg r p0 g) (n + 1) ∧ mv_ch [128, 129] [] G G') 2 [some (.inr (100, 0)), some (.inl (p0 : Int)), some (.inl (g : Int)), some (.inl (i : Int))] G1 := by
    intro q
    induction q with
    | zero =>
      intro i G1 hq hc hI
      refine mv_JP.of (rg_X12_itemsFor_2 _ _ _ G1) ?_
      rw [hc.cell 100 rfl, h.1]
      exact mv_J.t (by omega) (mv_J.ret ⟨by rw [show n + 1 = i by omega]; exact hI, hc⟩)
    | succ q ih =>
      intro i G1 hq hc hI
      have e4 : ∀ j, j < n → G1 127 0 j = r 4 j := fun j hj => by rw [hc.cell 127 rfl]; exact h.2 4 (by decide) j hj
      have e0 : ∀ j, j < n → G1 123 0 j = r 0 j := fun j hj => by rw [hc.cell 123 rfl]; exact h.2 0 (by decide) j hj
      have nx : ∀ u v : Int, u = mv_itg r p0 g i → v = (if mv_itg r p0 g i = p0 then -1 else a 3 (mv_itg r p0 g i)) → mv_JP mm_X12_itemsFor (fun _ G' => mv_mI G' a p0 (mv_itg r p0 g) (n + 1) ∧ mv_ch [128, 129] [] G G') 2 [some (.inr (100, 0)), some (.inl (p0 : Int)), some (.inl (g : Int)), some (.inl ((i : Int) + 1))] (mv_up (mv_up G1 128 0 i u) 129 0 i v) := fun u v hu hv => by
        refine ih (i + 1) _ (by omega) ((hc.uc rfl).uc rfl) (fun j hj => ?_)
        rw [mv_up_k (k := 129) (a := 128) (by decide), mv_up_at, mv_up_at, mv_up_k (k := 128) (a := 129) (by decide)]
        by_cases e : j = i
        · rw [if_pos e, if_pos e, e]
          exact ⟨hu, hv⟩
        · rw [if_neg e, if_neg e]
          exact hI j (by omega)
      refine mv_JP.of (rg_X12_itemsFor_2 _ _ _ G1) ?_
      rw [hc.cell 100 rfl, h.1, mv_ws (x := (i : Int) + 1) (by omega), mv_ws (x := (i : Int) - 1) (by omega), Int.toNat_natCast, mv_up_k (k := 128) (a := 123) (by decide), mv_up_k (k := 128) (a := 123) (by decide), mv_up_k (k := 128) (a := 123) (by decide)]
      refine mv_J.f (by omega) (mv_J.i (fun h1 => ?_) (fun h1 => mv_J.i (fun h2 => ?_) (fun h2 => ?_)))
      · have ei : mv_itg r p0 g i = p0 := by unfold mv_itg; rw [if_neg (by omega), if_pos (by omega)]
        refine mv_J.ck (by omega) (mv_J.t h1 (mv_J.ck (by omega) (mv_J.cut (nx _ _ (by rw [ei]) (by rw [ei, if_pos rfl])))))
      · obtain ⟨w, w1, w2, w3⟩ := hw i (by omega)
        have ei : mv_itg r p0 g i = w := by unfold mv_itg; rw [if_pos (by omega), w1, Int.toNat_natCast]
        rw [e4 i (by omega), e0 i (by omega)]
        refine mv_J.ck (by omega) (mv_J.ck (by omega) (mv_J.f h1 (mv_J.t h2 (mv_J.ck (by omega) (mv_J.ck (by omega) (mv_J.cut (nx _ _ (by rw [ei, w1]) (by rw [ei, if_neg w2, w3]))))))))
      · obtain ⟨w, w1, w2, w3⟩ := hw (i - 1) (by omega)
        have ei : mv_itg r p0 g i = w := by unfold mv_itg; rw [if_neg (by omega), if_neg (by omega), w1, Int.toNat_natCast]
        have em : ((i : Int) - 1).toNat = i - 1 := by omega
        rw [em, e4 (i - 1) (by omega), e0 (i - 1) (by omega)]
        refine mv_J.ck (by omega) (mv_J.ck (by omega) (mv_J.f h1 (mv_J.f h2 (mv_J.ck (by omega) (mv_J.ck (by omega) (mv_J.cut (nx _ _ (by rw [ei, w1]) (by rw [ei, if_neg w2, w3]))))))))
  exact key (n + 1) 0 G (by omega) mv_ch.rf (fun j hj => by omega)
end MF
section MG
variable {G : mv_G} {a : mv_a} {p0 c : Nat} {it : Nat → Nat}
theorem mv_mt.ch {S : List Nat} {T : List (Nat × Nat)} {G2 : mv_G} {i : Nat} (h : mv_mt G a p0 it c i) (hc : mv_ch S T G G2) (h1 : (S.contains 130 || T.any fun q => q.1 == 130) = false) : mv_mt G2 a p0 it c i := by
  intro x hx
  rw [hc.cell 130 h1]
  exact h x hx
set_option maxHeartbeats 2000000 in
set_option maxRecDepth 100000 in
/-- the table of the items that stand there -/
theorem gx_tabled (hB : mv_mB G a) (hi : mv_iB a) (hL : mv_mL G 1 a 22) (hLi : mv_iL mv_qm a 22) (hl : mv_ln a p0 it c) (h0 : 0 < c) (hI : mv_mI G a p0 it c) (h46 : G 100 0 46 = (c : Int) - 1) : mv_JP mm_X12_leastBy (fun v G' => v = mv_e6 (mv_lm a p0 it c 0 0) ∧ (∀ i, i < c → mv_mt G' a p0 it c i) ∧ mv_ch [121, 122, 130] [(100, 47), (100, 48), (100, 49), (100, 50)] G G') 11 [some (.inr (100, 0)), none, none, some (.inl ((c : Int) - 1)), none, none, none] G := by
  have b1 := hi.1
  have hc10 := hl.1
  obtain ⟨P, hP⟩ : ∃ P : Int → mv_G → Prop, P = (fun v G' => v = mv_e6 (mv_lm a p0 it c 0 0) ∧ (∀ i, i < c → mv_mt G' a p0 it c i) ∧ mv_ch [121, 122, 130] [(100, 47), (100, 48), (100, 49), (100, 50)] G G') := ⟨_, rfl⟩
  rw [← hP]
  have key : ∀ (q : Nat) (G1 : mv_G), q ≤ c → mv_ch [121, 122, 130] [(100, 47), (100, 48), (100, 49), (100, 50)] G G1 → (∀ i, q ≤ i → i < c → mv_mt G1 a p0 it c i) → mv_JP mm_X12_leastBy P 11 [some (.inr (100, 0)), none, none, some (.inl ((q : Int) - 1)), none, none, none] G1 := by
    intro q
    induction q with
    | zero =>
      intro G1 hq hc ht
      have hB1 := hB.ch hc (by decide) rfl rfl
      have hI1 := hI.ch hc rfl
      refine mv_JP.of (rg_X12_leastBy_11 _ G1) (mv_J.t (by omega) ?_)
      have := gx_leastB hB1 hi hl hI1 (by rw [hc.slot 100 46 rfl]; exact h46) 0 h0 (ht 0 (by omega) h0) 0 0 (by omega) (Or.inl ⟨rfl, rfl⟩)
      refine mv_J.ce this (mv_J.ret ?_)
      rw [hP]
      exact ⟨rfl, fun i hi => ht i (by omega) hi, hc⟩
    | succ q ih =>
      intro G1 hq hc ht
      rw [show ((q + 1 : Nat) : Int) - 1 = (q : Int) by omega]
      have inner : ∀ (m x : Nat) (G2 : mv_G), (x : Int) + m = a 0 0 → mv_ch [121, 122, 130] [(100, 47), (100, 48), (100, 49), (100, 50)] G G2 → (∀ i, q + 1 ≤ i → i < c → mv_mt G2 a p0 it c i) → (∀ y : Nat, y < x → G2 130 0 (60 * q + y) = mv_e6 (mv_xi a p0 it c q y)) → mv_JP mm_X12_leastBy P 18 [some (.inr (100, 0)), none, none, some (.inl (q : Int)), some (.inl (x : Int)), none, none] G2 := by
        intro m
        induction m with
        | zero =>
          intro x G2 hm hc2 ht2 hr2
          have hB2 := hB.ch hc2 (by decide) rfl rfl
          refine mv_JP.of (rg_X12_leastBy_18 _ _ G2) (mv_J.ce (gx_length hB2 hi) (mv_J.f (by omega) (mv_J.cut ?_)))
          rw [mv_ws (by omega)]
          refine ih G2 (by omega) hc2 (fun i h1 h2 => ?_)
          by_cases e : i = q
          · subst e
            exact fun y hy => hr2 y (by omega)
          · exact ht2 i (by omega) h2
        | succ m ihm =>
          intro x G2 hm hc2 ht2 hr2
          have hB2 := hB.ch hc2 (by decide) rfl rfl
          have hI2 := hI.ch hc2 rfl
          have hL2 := hL.ch hc2 (by decide)
          refine mv_JP.of (rg_X12_leastBy_18 _ _ G2) (mv_J.ce (gx_length hB2 hi) (mv_J.t (by omega) (mv_J.cn (gx_costAt hB2 hi hL2 hLi hl hI2 q (by omega) x (by omega)) (fun v G3 h3 => ?_))))
          obtain ⟨hv, hc3⟩ := h3
          subst hv
          have hc23 := hc2.tr (hc3.mono (S2 := [121, 122, 130]) (T2 := [(100, 47), (100, 48), (100, 49), (100, 50)]) rfl rfl)
          have hB3 := hB.ch hc23 (by decide) rfl rfl
          have hI3 := hI.ch hc23 rfl
          have hw6 : mv_B6 (mv_wt a p0 (it q) x) := mv_B6_Q (k := 1) (by omega) mv_wt_Q
          have ei : mv_w (mv_w (60 * (q : Int)) + x) = ((60 * q + x : Nat) : Int) := by rw [mv_ws (x := 60 * (q : Int)) (by omega), mv_ws (by omega)]; omega
          rw [ei, Int.toNat_natCast, mv_ws (x := (x : Int) + 1) (by omega), mv_ws (x := (q : Int) + 1) (by omega), mv_ckp (n := 660) (by omega), mv_ckp (n := 660) (by omega)]
          have nx : ∀ u : Int, u = mv_e6 (mv_xi a p0 it c q x) → mv_J mm_X12_leastBy P (some (.inr (18, [some (.inr (100, 0)), none, none, some (.inl (q : Int)), some (.inl ((x : Int) + 1)), none, none], mv_up G3 130 0 (60 * q + x) u))) := fun u hu => mv_J.cut (by
            have := ihm (x + 1) (mv_up G3 130 0 (60 * q + x) u) (by omega) (hc23.uc rfl) (fun i h1 h2 y hy => by
              rw [mv_up_at, if_neg (by omega), hc3.cell 130 rfl]
              exact ht2 i h1 h2 y hy) (fun y hy => by
              rw [mv_up_at]
              by_cases e : y = x
              · rw [if_pos (by rw [e]), e]
                exact hu
              · rw [if_neg (by omega), hc3.cell 130 rfl]
                exact hr2 y (by omega))
            exact this)
          have nx2 : ∀ (u : Int) (G4 : mv_G), G4 = G3 → u = mv_e6 (mv_xi a p0 it c q x) → mv_J mm_X12_leastBy P (mv_ck ((60 * q + x : Nat) : Int) 660 (some (.inr (18, [some (.inr (100, 0)), none, none, some (.inl (q : Int)), some (.inl ((x : Int) + 1)), none, none], mv_up G4 130 0 (60 * q + x) u)))) := fun u G4 e4 hu => by
            rw [mv_ckp (n := 660) (by omega), e4]
            exact nx u hu
          refine mv_J.i (fun h1 => mv_J.t rfl (nx _ ?_)) (fun h1 => ?_)
          · have hw : mv_wt a p0 (it q) x = none := by
              cases ho : mv_wt a p0 (it q) x with
              | none => rfl
              | some v =>
                rw [ho] at h1 hw6
                have := hw6 v rfl
                have h1 : v = 1000000 := h1
                omega
            by_cases e : q + 1 < c
            · rw [mv_xi_step e, hw]; rfl
            · rw [mv_xi_last e, hw]; rfl
          · obtain ⟨v, hv⟩ : ∃ v, mv_wt a p0 (it q) x = some v := by
              cases ho : mv_wt a p0 (it q) x with
              | none => rw [ho] at h1; exact absurd rfl h1
              | some v => exact ⟨v, rfl⟩
            have hvb := hw6 v hv
            rw [hv]
            show mv_J mm_X12_leastBy P (mv_cn (ff_X12_leastBehind [.inr (100, 0), .inl ((q : Int) + 1), .inl (x : Int)] G3) _)
            by_cases e : q + 1 < c
            · have q1 := (hl.2 q (by omega)).1
              have q2 := (hl.2 (q + 1) e).1
              have hlb := gx_leastB hB3 hi hl hI3 (by rw [hc23.slot 100 46 rfl]; exact h46) (q + 1) e (fun y hy => by rw [hc3.cell 130 rfl]; exact ht2 (q + 1) (by omega) e y hy) x _ (by omega) (Or.inr ⟨by omega, rfl⟩)
              rw [Nat.add_sub_cancel] at hlb
              refine mv_J.ce hlb ?_
              have hlmB : mv_B6 (mv_lm a p0 it c (q + 1) (x + (mv_dd a (it q) (it (q + 1))).toNat)) := mv_lm_B hc10 e
              have ex := mv_xi_step (a := a) (p0 := p0) (it := it) (x := x) e
              rw [hv] at ex
              refine mv_J.i (fun h2 => nx2 _ _ rfl ?_) (fun h2 => nx2 _ _ rfl ?_)
              · have : mv_lm a p0 it c (q + 1) (x + (mv_dd a (it q) (it (q + 1))).toNat) = none := mv_e6_inj hlmB (fun v hv => by cases hv) h2
                rw [ex, this]
                rfl
              · cases ho : mv_lm a p0 it c (q + 1) (x + (mv_dd a (it q) (it (q + 1))).toNat) with
                | none => rw [ho] at h2; exact absurd rfl h2
                | some w =>
                  rw [ho] at hlmB
                  have := hlmB w rfl
                  rw [ex, ho]
                  show mv_w (v + w) = v + w
                  rw [mv_ws (by omega)]
            · have hlb := gx_leastE (c := c) (G := G3) (by rw [hc23.slot 100 46 rfl]; exact h46) (x : Int)
              rw [show (c : Int) = (q : Int) + 1 by omega] at hlb
              refine mv_J.ce hlb (mv_J.f (by decide) (nx2 _ _ rfl ?_))
              rw [mv_xi_last e, hv]
              show mv_w (v + 0) = v
              rw [mv_ws (by omega)]
              omega
      refine mv_JP.of (rg_X12_leastBy_11 _ G1) (mv_J.f (by omega) (mv_J.cut ?_))
      exact inner (a 0 0).toNat 0 G1 (by omega) hc (fun i h1 h2 => ht i (by omega) h2) (fun y hy => by omega)
  have := key c G (Nat.le_refl _) mv_ch.rf (fun i h1 h2 => by omega)
  exact this
end MG
section MH
variable {G : mv_G} {a : mv_a} {p0 n : Nat} {r : mv_a}
theorem gx_leastBy (hB : mv_mB G a) (hi : mv_iB a) (hL : mv_mL G 1 a 22) (hLi : mv_iL mv_qm a 22) (h : mv_mR G n r) (hn : n ≤ 9) (hw : ∀ i, i < n → ∃ q : Nat, r 4 i = q ∧ q ≠ p0 ∧ r 0 i = a 3 q) (g : Nat) (hg : g ≤ n) (hl : mv_ln a p0 (mv_itg r p0 g) (n + 1)) : mv_Kp (ff_X12_leastBy [.inr (100, 0), .inl p0, .inl g] G) (fun v G' => v = mv_e6 (mv_tot a n r p0 g) ∧ mv_mI G' a p0 (mv_itg r p0 g) (n + 1) ∧ (∀ i, i < n + 1 → mv_mt G' a p0 (mv_itg r p0 g) (n + 1) i) ∧ mv_ch [121, 122, 128, 129, 130] [(100, 47), (100, 48), (100, 49), (100, 50)] G G') := by
  refine mv_Kp.of (mv_JP.of (rg_X12_leastBy_0 p0 g G) (mv_J.cn (gx_itemsFor h hn hw g hg) (fun v G1 h1 => mv_J.cut ?_)))
  obtain ⟨hI, hc⟩ := h1
  have hB1 := hB.ch hc (by decide) rfl rfl
  have hL1 := hL.ch hc (by decide)
  have e46 : G1 100 0 46 = ((n + 1 : Nat) : Int) - 1 := by rw [hc.cell 100 rfl, h.1]; omega
  have := gx_tabled hB1 hi hL1 hLi hl (by omega) hI e46
  rw [← e46] at this
  exact mv_JP.mono this (fun v G' h2 => ⟨h2.1, hI.ch h2.2.2 rfl, h2.2.1, (hc.mono rfl rfl).tr (h2.2.2.mono rfl rfl)⟩)
end MH
