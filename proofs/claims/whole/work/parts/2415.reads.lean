/-! TEXT: the reference reads a token. -/
/-- the reference stands behind the k-th token -/
def mv_mT (G : mv_G) (t : Nat → Int) (n k : Nat) : Prop := G 100 0 18 = ((mv_tbg t n k : Nat) : Int) ∧ G 100 0 17 = ((if mv_tbg t n k < n then mv_te t n (mv_tbg t n k) else mv_tbg t n k : Nat) : Int) ∧ mv_tv (mv_tk1 t n (mv_tbg t n k)) (G 100 0 19) (G 100 0 20)
section RD
variable {G : mv_G} {t : Nat → Int} {n : Nat}
set_option maxHeartbeats 2000000 in
set_option maxRecDepth 100000 in
theorem gx_reads0 (hn : n ≤ 400) (hs : G 100 0 16 = n) (hT : ∀ j, j < n → G 111 0 j = t j) (hb : ∀ j, j < n → 0 ≤ t j ∧ t j ≤ 255) (h112 : ∀ j, G 112 0 j = mv_wo.getD j 0) (k s : Nat) (h17 : G 100 0 17 = s) (hsn : s ≤ n) (hk : mv_rn mv_blk t n s = mv_tbg t n k) : mv_Kp (ff_X12_reads [.inr (100, 0)] G) (fun _ G' => mv_mT G' t n k ∧ mv_ch [] [(100, 17), (100, 18), (100, 19), (100, 20)] G G') := by
  obtain ⟨P, hP⟩ : ∃ P : Int → mv_G → Prop, P = (fun _ G' => mv_mT G' t n k ∧ mv_ch [] [(100, 17), (100, 18), (100, 19), (100, 20)] G G') := ⟨_, rfl⟩
  rw [← hP]
  have raw : ∀ G2, mv_ch [] [(100, 17), (100, 18), (100, 19), (100, 20)] G G2 → ∀ i : Nat, ff_X12_raw [.inr (100, 0), .inl i] G2 = some (if i < n then t i else -1, G2) := fun G2 h i => gx_raw hn ((h.slot 100 16 rfl).trans hs) (fun j hj => by rw [h.cell 111 rfl]; exact hT j hj) i
  -- the end of it all
  have fin : ∀ (G2 : mv_G), mv_ch [] [(100, 17), (100, 18), (100, 19), (100, 20)] G G2 → mv_tbg t n k < n → G2 100 0 18 = ((mv_tbg t n k : Nat) : Int) → G2 100 0 17 = ((mv_te t n (mv_tbg t n k) : Nat) : Int) → mv_tv (mv_tk1 t n (mv_tbg t n k)) (G2 100 0 19) (G2 100 0 20) → P 0 G2 := fun G2 h h1 h2 h3 h4 => by
    rw [hP]
    refine ⟨⟨h2, ?_, h4⟩, h⟩
    rw [if_pos h1]
    exact h3
  have key : ∀ (d s : Nat) (G1 : mv_G), s ≤ n → n - s = d → mv_ch [] [(100, 17), (100, 18), (100, 19), (100, 20)] G G1 → G1 100 0 17 = s → mv_rn mv_blk t n s = mv_tbg t n k → mv_JP mm_X12_reads P 0 [some (.inr (100, 0)), none] G1 := by
    intro d
    induction d with
    | zero =>
      intro s G1 hsn hd hc h17 hk
      rw [mv_rn_e (by omega)] at hk
      have r := raw G1 hc s
      rw [if_neg (by omega)] at r
      refine mv_JP.of (rg_X12_reads_0 G1) ?_
      rw [h17]
      refine mv_J.ce r (mv_J.f (by decide) ?_)
      rw [h17]
      refine mv_J.ce r (mv_J.f (by decide) ?_)
      have e17 : ∀ x y, (mv_up (mv_up G1 100 0 18 x) 100 0 19 y) 100 0 17 = s := fun x y => by rw [mv_up_j (by decide), mv_up_j (by decide), h17]
      rw [e17, h17]
      have c2 : mv_ch [] [(100, 17), (100, 18), (100, 19), (100, 20)] G (mv_up (mv_up G1 100 0 18 (s : Int)) 100 0 19 1) := (hc.up rfl).up rfl
      have r2 := raw _ c2 s
      rw [if_neg (by omega)] at r2
      refine mv_J.ce r2 (mv_J.t rfl (mv_J.ret ?_))
      rw [hP]
      refine ⟨⟨?_, ?_, ?_⟩, c2.up rfl⟩
      · rw [mv_up_j (by decide), mv_up_j (by decide), mv_ups_eq, hk]
      · rw [mv_up_j (by decide), e17, if_neg (by omega), hk]
      · rw [mv_ups_eq]
        refine Or.inl ⟨if_pos (by omega), rfl⟩
    | succ d ih =>
      intro s G1 hsn hd hc h17 hk
      have hsn2 : s < n := by omega
      have hbs := hb s hsn2
      have r := raw G1 hc s
      rw [if_pos hsn2] at r
      refine mv_JP.of (rg_X12_reads_0 G1) ?_
      rw [h17]
      have skip : mv_blk (t s) = true → mv_JP mm_X12_reads P 0 [some (.inr (100, 0)), none] (mv_up G1 100 0 17 ((s : Int) + 1)) := fun h => by
        rw [mv_rn_t hsn2 h] at hk
        exact ih (s + 1) _ hsn2 (by omega) (hc.up rfl) mv_ups_eq hk
      refine mv_J.ce r ?_
      rw [h17, mv_ws (x := (s : Int) + 1) (by omega)]
      refine mv_J.i (fun h1 => mv_J.cut (skip (by unfold mv_blk; exact decide_eq_true (Or.inl h1)))) (fun h1 => mv_J.ce r ?_)
      rw [h17, mv_ws (x := (s : Int) + 1) (by omega)]
      refine mv_J.i (fun h2 => mv_J.cut (skip (by unfold mv_blk; exact decide_eq_true (Or.inr h2)))) (fun h2 => ?_)
      have nbl : ¬ mv_blk (t s) = true := fun h => (of_decide_eq_true h).elim h1 h2
      rw [mv_rn_f hsn2 nbl] at hk
      subst hk
      have e17 : ∀ x y, (mv_up (mv_up G1 100 0 18 x) 100 0 19 y) 100 0 17 = ((mv_tbg t n k : Nat) : Int) := fun x y => by rw [mv_up_j (by decide), mv_up_j (by decide), h17]
      rw [e17]
      have c2 : mv_ch [] [(100, 17), (100, 18), (100, 19), (100, 20)] G (mv_up (mv_up G1 100 0 18 ((mv_tbg t n k : Nat) : Int)) 100 0 19 1) := (hc.up rfl).up rfl
      have r2 := raw _ c2 (mv_tbg t n k)
      rw [if_pos hsn2] at r2
      refine mv_J.ce r2 (mv_J.f (by omega) ?_)
      rw [e17, mv_ws (x := ((mv_tbg t n k : Nat) : Int) + 1) (by omega)]
      -- the heap from here on
      have g18 : (mv_up (mv_up (mv_up (mv_up G1 100 0 18 ((mv_tbg t n k : Nat) : Int)) 100 0 19 1) 100 0 17 (((mv_tbg t n k : Nat) : Int) + 1)) 100 0 20 (t (mv_tbg t n k))) 100 0 18 = ((mv_tbg t n k : Nat) : Int) := by rw [mv_up_j (by decide), mv_up_j (by decide), mv_up_j (by decide), mv_ups_eq]
      have g17 : (mv_up (mv_up (mv_up (mv_up G1 100 0 18 ((mv_tbg t n k : Nat) : Int)) 100 0 19 1) 100 0 17 (((mv_tbg t n k : Nat) : Int) + 1)) 100 0 20 (t (mv_tbg t n k))) 100 0 17 = ((mv_tbg t n k + 1 : Nat) : Int) := by rw [mv_up_j (by decide), mv_ups_eq]; omega
      have g19 : (mv_up (mv_up (mv_up (mv_up G1 100 0 18 ((mv_tbg t n k : Nat) : Int)) 100 0 19 1) 100 0 17 (((mv_tbg t n k : Nat) : Int) + 1)) 100 0 20 (t (mv_tbg t n k))) 100 0 19 = 1 := by rw [mv_up_j (by decide), mv_up_j (by decide), mv_ups_eq]
      have g20 : (mv_up (mv_up (mv_up (mv_up G1 100 0 18 ((mv_tbg t n k : Nat) : Int)) 100 0 19 1) 100 0 17 (((mv_tbg t n k : Nat) : Int) + 1)) 100 0 20 (t (mv_tbg t n k))) 100 0 20 = t (mv_tbg t n k) := mv_ups_eq
      have c3 : mv_ch [] [(100, 17), (100, 18), (100, 19), (100, 20)] G (mv_up (mv_up (mv_up (mv_up G1 100 0 18 ((mv_tbg t n k : Nat) : Int)) 100 0 19 1) 100 0 17 (((mv_tbg t n k : Nat) : Int) + 1)) 100 0 20 (t (mv_tbg t n k))) := (c2.up rfl).up rfl
      generalize mv_up (mv_up (mv_up (mv_up G1 100 0 18 ((mv_tbg t n k : Nat) : Int)) 100 0 19 1) 100 0 17 (((mv_tbg t n k : Nat) : Int) + 1)) 100 0 20 (t (mv_tbg t n k)) = G3 at g17 g18 g19 g20 c3
      clear r r2 skip e17 c2
      obtain ⟨b, hbb⟩ : ∃ b, mv_tbg t n k = b := ⟨_, rfl⟩
      rw [hbb] at hsn2 hbs h17 g17 g18 g20 nbl h1 h2 fin hd hsn ⊢
      refine mv_J.ce (gx_isLetter G3 _) (mv_J.it (fun h3 => ?_) (fun h3 => mv_J.cut ?_))
      · refine mv_J.ce (gx_isDigit G3 _) (mv_J.it (fun h4 => ?_) (fun h4 => mv_J.cut ?_))
        · have ete : mv_te t n b = b + 1 := by unfold mv_te; rw [if_neg h3, if_neg h4]
          have etk : mv_tk1 t n b = if mv_sgn (t b) = true then 30000 + t b else -1 := by unfold mv_tk1; rw [if_neg (by omega), if_neg h3, if_neg h4]
          refine mv_J.ce (gx_isMarkSign G3 _) (mv_J.it (fun h5 => mv_J.ret ?_) (fun h5 => mv_J.ret ?_))
          · refine fin G3 c3 hsn2 g18 (by rw [ete]; exact g17) (Or.inr (Or.inl ⟨?_, g19⟩))
            rw [etk, if_neg h5]
          · refine fin _ (c3.up rfl) hsn2 (by rw [mv_up_j (by decide)]; exact g18) (by rw [mv_up_j (by decide), ete]; exact g17) (Or.inr (Or.inr (Or.inr (Or.inr ⟨mv_ups_eq, ?_, ?_⟩))))
            · rw [mv_up_j (by decide), g20, etk, if_pos h5]
            · rw [mv_up_j (by decide), g20]; exact h5
        · -- a number
          have ete : mv_te t n b = mv_rn mv_dgt t n (b + 1) := by unfold mv_te; rw [if_neg h3, if_pos h4]
          have etk : mv_tk1 t n b = if 4 < mv_te t n b - b then -1 else mv_nm t (mv_te t n b - b) b 0 := by unfold mv_tk1; rw [if_neg (by omega), if_neg h3, if_pos h4]
          have d4 := of_decide_eq_true h4
          rw [mv_ws (x := t b - 48) (by omega)]
          have run : ∀ (e x : Nat) (v : Int) (G2 : mv_G), x ≤ n → n - x = e → b < x → mv_rn mv_dgt t n x = mv_te t n b → mv_ch [] [(100, 17), (100, 18), (100, 19), (100, 20)] G G2 → G2 100 0 17 = x → G2 100 0 18 = b → G2 100 0 19 = 1 → G2 100 0 20 = v → 0 ≤ v → v ≤ 99999 → (x - b ≤ 4 → v = mv_nm t (x - b) b 0 ∧ v ≤ mv_9 (x - b)) → mv_JP mm_X12_reads P 171 [some (.inr (100, 0)), none] G2 := by
            intro e
            induction e with
            | zero =>
              intro x v G2 hx he hbx hrx hc2 k17 k18 k19 k20 v0 v9 v4
              rw [mv_rn_e (by omega)] at hrx
              have r := raw G2 hc2 x
              rw [if_neg (by omega)] at r
              refine mv_JP.of (rg_X12_reads_171 G2) ?_
              rw [k17]
              refine mv_J.ce r (mv_J.ce (gx_isDigit G2 (-1)) (mv_J.t (by decide) ?_))
              rw [k17, k18, mv_ws (x := (x : Int) - b) (by omega)]
              refine mv_J.i (fun h5 => mv_J.ret ?_) (fun h5 => mv_J.ret ?_)
              · have v4 := v4 (by omega)
                have q9 := mv_9_b (x - b) (by omega)
                refine fin _ (hc2.up rfl) hsn2 (by rw [mv_up_j (by decide)]; exact k18) (by rw [mv_up_j (by decide), ← hrx]; exact k17) (Or.inr (Or.inr (Or.inl ?_)))
                rw [mv_ups_eq, mv_up_j (by decide), k20, etk, ← hrx, if_neg (by omega)]
                exact ⟨by omega, by omega, rfl, v4.1⟩
              · refine fin G2 hc2 hsn2 k18 (by rw [← hrx]; exact k17) (Or.inr (Or.inl ⟨?_, k19⟩))
                rw [etk, if_pos (by omega)]
            | succ e ihe =>
              intro x v G2 hx he hbx hrx hc2 k17 k18 k19 k20 v0 v9 v4
              have r := raw G2 hc2 x
              rw [if_pos (by omega)] at r
              refine mv_JP.of (rg_X12_reads_171 G2) ?_
              rw [k17]
              refine mv_J.ce r (mv_J.ce (gx_isDigit G2 _) (mv_J.it (fun h5 => ?_) (fun h5 => ?_)))
              · rw [mv_rn_f (by omega) h5] at hrx
                rw [k17, k18, mv_ws (x := (x : Int) - b) (by omega)]
                refine mv_J.i (fun h5 => mv_J.ret ?_) (fun h5 => mv_J.ret ?_)
                · have v4 := v4 (by omega)
                  have q9 := mv_9_b (x - b) (by omega)
                  refine fin _ (hc2.up rfl) hsn2 (by rw [mv_up_j (by decide)]; exact k18) (by rw [mv_up_j (by decide), ← hrx]; exact k17) (Or.inr (Or.inr (Or.inl ?_)))
                  rw [mv_ups_eq, mv_up_j (by decide), k20, etk, ← hrx, if_neg (by omega)]
                  exact ⟨by omega, by omega, rfl, v4.1⟩
                · refine fin G2 hc2 hsn2 k18 (by rw [← hrx]; exact k17) (Or.inr (Or.inl ⟨?_, k19⟩))
                  rw [etk, if_pos (by omega)]
              · rw [mv_rn_t (by omega) h5] at hrx
                have d5 := of_decide_eq_true h5
                rw [k20]
                refine mv_J.i (fun h6 => ?_) (fun h6 => mv_J.cut ?_)
                · rw [k17]
                  refine mv_J.ce r (mv_J.cut ?_)
                  rw [mv_up_j (by decide), k17, mv_ws (x := (x : Int) + 1) (by omega), mv_ws (x := 10 * v) (by omega), mv_ws (x := 10 * v + t x) (by omega), mv_ws (x := 10 * v + t x - 48) (by omega)]
                  refine ihe (x + 1) (10 * v + t x - 48) _ (by omega) (by omega) (by omega) hrx ((hc2.up rfl).up rfl) mv_ups_eq ?_ ?_ ?_ (by omega) (by omega) (fun h7 => ?_)
                  · rw [mv_up_j (by decide), mv_up_j (by decide)]; exact k18
                  · rw [mv_up_j (by decide), mv_up_j (by decide)]; exact k19
                  · rw [mv_up_j (by decide), mv_ups_eq]
                  · obtain ⟨w1, w2⟩ := v4 (by omega)
                    have q9 : mv_9 (x + 1 - b) = mv_9 (x - b) * 10 + 9 := by rw [show x + 1 - b = x - b + 1 by omega]; rfl
                    have ql := mv_nm_l (t := t) (x - b) b 0
                    rw [show b + (x - b) = x by omega, ← w1, show x - b + 1 = x + 1 - b by omega] at ql
                    omega
                · rw [mv_up_j (by decide), k17, mv_ws (x := (x : Int) + 1) (by omega)]
                  refine ihe (x + 1) v _ (by omega) (by omega) (by omega) hrx ((hc2.up rfl).up rfl) mv_ups_eq ?_ ?_ ?_ v0 v9 (fun h7 => ?_)
                  · rw [mv_up_j (by decide), mv_up_j (by decide)]; exact k18
                  · rw [mv_up_j (by decide), mv_up_j (by decide)]; exact k19
                  · rw [mv_up_j (by decide), mv_ups_eq]
                  · obtain ⟨w1, w2⟩ := v4 (by omega)
                    have := mv_9_b (x - b) (by omega)
                    omega
          refine run (n - (b + 1)) (b + 1) (t b - 48) (mv_up G3 100 0 20 (t b - 48)) hsn2 rfl (Nat.lt_succ_self b) ete.symm (c3.up rfl) (by rw [mv_up_j (by decide)]; exact g17) (by rw [mv_up_j (by decide)]; exact g18) (by rw [mv_up_j (by decide)]; exact g19) mv_ups_eq (by omega) (by omega) (fun _ => ?_)
          rw [show b + 1 - b = 1 by omega]
          have e1 : mv_nm t 1 b 0 = 0 * 10 + t b - 48 := rfl
          have e2 : mv_9 1 = 0 * 10 + 9 := rfl
          omega
      · -- a word
        have ete : mv_te t n b = mv_rn mv_ltr t n (b + 1) := by unfold mv_te; rw [if_pos h3]
        have etk : mv_tk1 t n b = if mv_wdx t b (mv_te t n b) = -1 then -1 else 20000 + mv_wdx t b (mv_te t n b) := by unfold mv_tk1; rw [if_neg (by omega), if_pos h3]
        have rb := mv_rn_b (p := mv_ltr) (t := t) (n := n) (n - (b + 1)) (b + 1) (by omega)
        rw [← ete] at rb
        have wend : ∀ (G2 : mv_G), mv_ch [] [(100, 17), (100, 18), (100, 19), (100, 20)] G G2 → G2 100 0 17 = ((mv_te t n b : Nat) : Int) → G2 100 0 18 = b → G2 100 0 19 = 1 → mv_J mm_X12_reads P (mv_cn (ff_X12_wordAt [.inr (100, 0), .inl (b : Int), .inl ((mv_te t n b : Nat) : Int)] G2) fun r2 G2 => if (mv_up G2 100 0 20 r2) 100 0 20 = -1 then some (.inl (0, mv_up G2 100 0 20 r2)) else some (.inl (0, mv_up (mv_up G2 100 0 20 r2) 100 0 19 2))) := fun G2 hc2 k17 k18 k19 => by
          have hw := gx_wordAt (G := G2) (t := t) hn (fun j hj => by rw [hc2.cell 111 rfl]; exact hT j hj) (fun j => by rw [hc2.cell 112 rfl]; exact h112 j) b (mv_te t n b) (by omega) rb.2.1 (fun j g1 g2 e => by
            have : mv_ltr (t j) = true := by
              by_cases e2 : j = b
              · exact e2 ▸ h3
              · exact rb.2.2.1 j (by omega) g2
            have := of_decide_eq_true this
            omega)
          refine mv_J.ce hw ?_
          have hm := mv_wdx_m (t := t) (a := b) (b := mv_te t n b)
          generalize mv_wfm t b (mv_te t n b) 21 0 = z at hm
          rw [mv_ups_eq]
          refine mv_J.i (fun h5 => mv_J.ret ?_) (fun h5 => mv_J.ret ?_)
          · refine fin _ (hc2.up rfl) hsn2 (by rw [mv_up_j (by decide)]; exact k18) (by rw [mv_up_j (by decide)]; exact k17) (Or.inr (Or.inl ⟨?_, by rw [mv_up_j (by decide)]; exact k19⟩))
            rcases hm with ⟨m1, m2⟩ | ⟨w, m1, m2, m3⟩
            · rw [etk, if_pos m1]
            · omega
          · refine fin _ ((hc2.up rfl).up rfl) hsn2 (by rw [mv_up_j (by decide), mv_up_j (by decide)]; exact k18) (by rw [mv_up_j (by decide), mv_up_j (by decide)]; exact k17) (Or.inr (Or.inr (Or.inr (Or.inl ?_))))
            rcases hm with ⟨m1, m2⟩ | ⟨w, m1, m2, m3⟩
            · exact absurd m2 h5
            · refine ⟨w, m1, ?_, mv_ups_eq, by rw [mv_up_j (by decide), mv_ups_eq]; exact m2⟩
              rw [etk, m3, if_neg (by omega)]
        have run : ∀ (e x : Nat) (G2 : mv_G), x ≤ n → n - x = e → mv_rn mv_ltr t n x = mv_te t n b → mv_ch [] [(100, 17), (100, 18), (100, 19), (100, 20)] G G2 → G2 100 0 17 = x → G2 100 0 18 = b → G2 100 0 19 = 1 → mv_JP mm_X12_reads P 95 [some (.inr (100, 0)), none] G2 := by
          intro e
          induction e with
          | zero =>
            intro x G2 hx he hrx hc2 k17 k18 k19
            rw [mv_rn_e (by omega)] at hrx
            have r := raw G2 hc2 x
            rw [if_neg (by omega)] at r
            refine mv_JP.of (rg_X12_reads_95 G2) ?_
            rw [k17]
            refine mv_J.ce r (mv_J.ce (gx_isLetter G2 (-1)) (mv_J.t (by decide) ?_))
            rw [k18, k17, hrx]
            exact wend G2 hc2 (by rw [← hrx]; exact k17) k18 k19
          | succ e ihe =>
            intro x G2 hx he hrx hc2 k17 k18 k19
            have r := raw G2 hc2 x
            rw [if_pos (by omega)] at r
            refine mv_JP.of (rg_X12_reads_95 G2) ?_
            rw [k17]
            refine mv_J.ce r (mv_J.ce (gx_isLetter G2 _) (mv_J.it (fun h5 => ?_) (fun h5 => mv_J.cut ?_)))
            · rw [mv_rn_f (by omega) h5] at hrx
              rw [k18, k17, hrx]
              exact wend G2 hc2 (by rw [← hrx]; exact k17) k18 k19
            · rw [mv_rn_t (by omega) h5] at hrx
              rw [k17, mv_ws (x := (x : Int) + 1) (by omega)]
              exact ihe (x + 1) _ (by omega) (by omega) hrx (hc2.up rfl) mv_ups_eq (by rw [mv_up_j (by decide)]; exact k18) (by rw [mv_up_j (by decide)]; exact k19)
        exact run (n - (b + 1)) (b + 1) G3 hsn2 rfl ete.symm c3 g17 g18 g19
  exact mv_Kp.of (key (n - s) s G hsn rfl mv_ch.rf h17 hk)
/-- the next token -/
theorem gx_reads (hn : n ≤ 400) (hs : G 100 0 16 = n) (hT : ∀ j, j < n → G 111 0 j = t j) (hb : ∀ j, j < n → 0 ≤ t j ∧ t j ≤ 255) (h112 : ∀ j, G 112 0 j = mv_wo.getD j 0) (k : Nat) (h : mv_mT G t n k) : mv_Kp (ff_X12_reads [.inr (100, 0)] G) (fun _ G' => mv_mT G' t n (k + 1) ∧ mv_ch [] [(100, 17), (100, 18), (100, 19), (100, 20)] G G') := by
  have l := (mv_tb_le (t := t) (n := n) k).1
  have e : mv_tbg t n (k + 1) = if mv_tbg t n k < n then mv_rn mv_blk t n (mv_te t n (mv_tbg t n k)) else mv_tbg t n k := rfl
  refine gx_reads0 hn hs hT hb h112 (k + 1) _ h.2.1 ?_ ?_
  · split
    · rename_i c; exact (mv_te_b c).2
    · exact l
  · rw [e]
    by_cases c : mv_tbg t n k < n
    · rw [if_pos c, if_pos c]
    · rw [if_neg c, if_neg c]
      exact mv_rn_e (by omega)
end RD
