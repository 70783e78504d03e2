/-! TEXT: the class splits the tape. -/
/-- the tokens lie there: m of them and the END -/
def mv_cT (G : mv_G) (t : Nat → Int) (n m : Nat) : Prop := G 52 0 6 = ((m + 1 : Nat) : Int) ∧ m ≤ n ∧ mv_tbg t n m = n ∧ (∀ j, j < m → mv_tbg t n j < n) ∧ ∀ j, j < m + 1 → G 64 0 j = mv_tk1 t n (mv_tbg t n j) ∧ G 65 0 j = ((mv_tbg t n j : Nat) : Int)
section SP
variable {G : mv_G} {t : Nat → Int} {n : Nat}
set_option maxRecDepth 100000 in
theorem fx_addToken (m : Nat) (hm : m < 401) (h : G 52 0 6 = m) (v p : Int) : ff_X7_addToken [.inr (52, 0), .inl v, .inl p] G = some (0, mv_up (mv_up (mv_up G 64 0 m v) 65 0 m p) 52 0 6 ((m + 1 : Nat) : Int)) := by
  refine mv_Kp.eq (mv_Kp.of (mv_JP.of (rg_X7_addToken_0 v p G) ?_))
  rw [mv_up_k (by decide : (52 : Nat) ≠ 65), mv_up_k (by decide : (52 : Nat) ≠ 64), h, Int.toNat_natCast, mv_ws (by omega)]
  refine mv_J.t (by omega) ?_
  rw [mv_ckp (n := 401) (by omega), mv_ckp (n := 401) (by omega)]
  exact mv_J.ret ⟨rfl, by rw [show ((m + 1 : Nat) : Int) = (m : Int) + 1 by omega]⟩
set_option maxHeartbeats 2000000 in
set_option maxRecDepth 100000 in
theorem fx_split (hn : n ≤ 400) (hs : G 52 0 0 = n) (hT : ∀ j, j < n → G 63 0 j = t j) (hb : ∀ j, j < n → 0 ≤ t j ∧ t j ≤ 255) : mv_Kp (ff_X7_split [.inr (52, 0)] G) (fun _ G' => (∃ m, mv_cT G' t n m) ∧ mv_ch [64, 65] [(52, 6)] G G') := by
  obtain ⟨P, hP⟩ : ∃ P : Int → mv_G → Prop, P = (fun _ G' => (∃ m, mv_cT G' t n m) ∧ mv_ch [64, 65] [(52, 6)] G G') := ⟨_, rfl⟩
  rw [← hP]
  have key : ∀ (d i m : Nat) (G1 : mv_G), i ≤ n → n - i ≤ d → mv_ch [64, 65] [(52, 6)] G G1 → G1 52 0 6 = m → m ≤ i → mv_rn mv_blk t n i = mv_tbg t n m → (∀ j, j < m → mv_tbg t n j < n ∧ G1 64 0 j = mv_tk1 t n (mv_tbg t n j) ∧ G1 65 0 j = ((mv_tbg t n j : Nat) : Int)) → mv_JP mm_X7_split P 7 [some (.inr (52, 0)), some (.inl (i : Int)), none] G1 := by
    intro d
    induction d with
    | zero =>
      intro i m G1 hi hd hc h6 hm hr hj
      have e : i = n := by omega
      subst e
      rw [mv_rn_e (Nat.le_refl _)] at hr
      refine mv_JP.of (rg_X7_split_7 _ G1) ?_
      rw [hc.slot 52 0 rfl, hs]
      refine mv_J.f (by omega) (mv_J.ce (fx_addToken m (by omega) h6 _ _) (mv_J.ret ?_))
      rw [hP]
      refine ⟨⟨m, ?_, hm, hr.symm, fun j h => (hj j h).1, fun j h => ?_⟩, ((hc.uc rfl).uc rfl).up rfl⟩
      · exact mv_ups_eq
      · rw [mv_up_k (by decide : (64 : Nat) ≠ 52), mv_up_k (by decide : (65 : Nat) ≠ 52), mv_up_k (by decide : (64 : Nat) ≠ 65), mv_up_at, mv_up_at]
        by_cases e : j = m
        · subst e
          rw [if_pos rfl, if_pos rfl, ← hr]
          exact ⟨(if_pos (Nat.le_refl _)).symm, rfl⟩
        · rw [if_neg e, if_neg e, mv_up_k (by decide)]
          exact (hj j (by omega)).2
    | succ d ih =>
      intro i m G1 hi hd hc h6 hm hr hj
      by_cases hin : i < n
      · have h0 : ∀ G2, mv_ch [64, 65] [(52, 6)] G G2 → G2 52 0 0 = n := fun G2 h => (h.slot 52 0 rfl).trans hs
        have h63 : ∀ G2, mv_ch [64, 65] [(52, 6)] G G2 → ∀ j, j < n → G2 63 0 j = t j := fun G2 h j h2 => by rw [h.cell 63 rfl]; exact hT j h2
        -- a token is put down
        have tok : ∀ x : Int, ¬ mv_blk (t i) = true → x = ((mv_te t n i : Nat) : Int) → mv_J mm_X7_split P (mv_cn (ff_X7_tokenOf [.inr (52, 0), .inl (i : Int), .inl x] G1) fun r2 G2 => mv_cn (ff_X7_addToken [.inr (52, 0), .inl r2, .inl (i : Int)] G2) fun _ G3 => some (.inr (7, [some (.inr (52, 0)), some (.inl x), none], G3))) := by
          intro x hbl hx
          subst hx
          rw [mv_rn_f hin hbl] at hr
          obtain ⟨b1, b2⟩ := mv_te_b (t := t) hin
          refine mv_J.ce (fx_tokenOf hn (h63 G1 hc) hb i hin) (mv_J.ce (fx_addToken m (by omega) h6 _ _) (mv_J.cut ?_))
          refine ih (mv_te t n i) (m + 1) _ b2 (by omega) (((hc.uc rfl).uc rfl).up rfl) mv_ups_eq (by omega) ?_ (fun j h => ?_)
          · have e : mv_tbg t n (m + 1) = if mv_tbg t n m < n then mv_rn mv_blk t n (mv_te t n (mv_tbg t n m)) else mv_tbg t n m := rfl
            rw [e, ← hr, if_pos hin]
          · rw [mv_up_k (by decide : (64 : Nat) ≠ 52), mv_up_k (by decide : (65 : Nat) ≠ 52), mv_up_k (by decide : (64 : Nat) ≠ 65), mv_up_at, mv_up_at]
            by_cases e : j = m
            · subst e
              rw [if_pos rfl, if_pos rfl, ← hr]
              exact ⟨hin, rfl, rfl⟩
            · rw [if_neg e, if_neg e, mv_up_k (by decide)]
              exact hj j (by omega)
        refine mv_JP.of (rg_X7_split_7 _ G1) ?_
        rw [h0 G1 hc, Int.toNat_natCast, h63 G1 hc i hin, mv_ws (x := (i : Int) + 1) (by omega)]
        refine mv_J.t (by omega) (mv_J.ck (by omega) (mv_J.ce (fx_isLetter G1 _) (mv_J.it (fun h1 => ?_) (fun h1 => mv_J.cut ?_))))
        · rw [h63 G1 hc i hin]
          refine mv_J.ck (by omega) (mv_J.ce (fx_isDigit G1 _) (mv_J.it (fun h2 => ?_) (fun h2 => mv_J.cut ?_)))
          · rw [h63 G1 hc i hin]
            have ete : mv_te t n i = i + 1 := by unfold mv_te; rw [if_neg h1, if_neg h2]
            have skip : mv_blk (t i) = true → mv_JP mm_X7_split P 7 [some (.inr (52, 0)), some (.inl ((i : Int) + 1)), none] G1 := fun h => by
              rw [mv_rn_t hin h] at hr
              exact ih (i + 1) m G1 hin (by omega) hc h6 (by omega) hr hj
            refine mv_J.ck (by omega) (mv_J.i (fun h3 => mv_J.cut (skip (by unfold mv_blk; exact decide_eq_true (Or.inl h3)))) (fun h3 => mv_J.ck (by omega) (mv_J.i (fun h4 => mv_J.cut (skip (by unfold mv_blk; exact decide_eq_true (Or.inr h4)))) (fun h4 => ?_))))
            exact tok _ (fun h => (of_decide_eq_true h).elim h3 h4) (by omega)
          · -- digits
            have ete : mv_te t n i = mv_rn mv_dgt t n (i + 1) := by unfold mv_te; rw [if_neg h1, if_pos h2]
            have nb : t i ≠ 32 ∧ t i ≠ 10 := by have := of_decide_eq_true h2; omega
            have nbl : ¬ mv_blk (t i) = true := fun h => (of_decide_eq_true h).elim nb.1 nb.2
            have run : ∀ (e x : Nat), x ≤ n → n - x = e → mv_rn mv_dgt t n x = mv_te t n i → mv_JP mm_X7_split P 70 [some (.inr (52, 0)), some (.inl (x : Int)), some (.inl (i : Int))] G1 := by
              intro e
              induction e with
              | zero =>
                intro x hx he hrx
                rw [mv_rn_e (by omega)] at hrx
                refine mv_JP.of (rg_X7_split_70 _ _ G1) ?_
                rw [h0 G1 hc, Int.toNat_natCast i, h63 G1 hc i hin]
                exact mv_J.f (by omega) (mv_J.ck (by omega) (mv_J.f nb.1 (mv_J.ck (by omega) (mv_J.f nb.2 (tok _ nbl (by omega))))))
              | succ e ihe =>
                intro x hx he hrx
                refine mv_JP.of (rg_X7_split_70 _ _ G1) ?_
                rw [h0 G1 hc, Int.toNat_natCast, Int.toNat_natCast, h63 G1 hc i hin, h63 G1 hc x (by omega), mv_ws (x := (x : Int) + 1) (by omega)]
                refine mv_J.t (by omega) (mv_J.ck (by omega) (mv_J.ce (fx_isDigit G1 _) (mv_J.it (fun h3 => ?_) (fun h3 => mv_J.cut ?_))))
                · rw [mv_rn_f (by omega) h3] at hrx
                  rw [h63 G1 hc i hin]
                  exact mv_J.ck (by omega) (mv_J.f nb.1 (mv_J.ck (by omega) (mv_J.f nb.2 (tok _ nbl (by omega)))))
                · rw [mv_rn_t (by omega) h3] at hrx
                  exact ihe (x + 1) (by omega) (by omega) hrx
            exact run (n - (i + 1)) (i + 1) hin rfl ete.symm
        · -- letters
          have ete : mv_te t n i = mv_rn mv_ltr t n (i + 1) := by unfold mv_te; rw [if_pos h1]
          have nb : t i ≠ 32 ∧ t i ≠ 10 := by have := of_decide_eq_true h1; omega
          have nbl : ¬ mv_blk (t i) = true := fun h => (of_decide_eq_true h).elim nb.1 nb.2
          have run : ∀ (e x : Nat), x ≤ n → n - x = e → mv_rn mv_ltr t n x = mv_te t n i → mv_JP mm_X7_split P 32 [some (.inr (52, 0)), some (.inl (x : Int)), some (.inl (i : Int))] G1 := by
            intro e
            induction e with
            | zero =>
              intro x hx he hrx
              rw [mv_rn_e (by omega)] at hrx
              refine mv_JP.of (rg_X7_split_32 _ _ G1) ?_
              rw [h0 G1 hc, Int.toNat_natCast i, h63 G1 hc i hin]
              exact mv_J.f (by omega) (mv_J.ck (by omega) (mv_J.f nb.1 (mv_J.ck (by omega) (mv_J.f nb.2 (tok _ nbl (by omega))))))
            | succ e ihe =>
              intro x hx he hrx
              refine mv_JP.of (rg_X7_split_32 _ _ G1) ?_
              rw [h0 G1 hc, Int.toNat_natCast, Int.toNat_natCast, h63 G1 hc i hin, h63 G1 hc x (by omega), mv_ws (x := (x : Int) + 1) (by omega)]
              refine mv_J.t (by omega) (mv_J.ck (by omega) (mv_J.ce (fx_isLetter G1 _) (mv_J.it (fun h3 => ?_) (fun h3 => mv_J.cut ?_))))
              · rw [mv_rn_f (by omega) h3] at hrx
                rw [h63 G1 hc i hin]
                exact mv_J.ck (by omega) (mv_J.f nb.1 (mv_J.ck (by omega) (mv_J.f nb.2 (tok _ nbl (by omega)))))
              · rw [mv_rn_t (by omega) h3] at hrx
                exact ihe (x + 1) (by omega) (by omega) hrx
          exact run (n - (i + 1)) (i + 1) hin rfl ete.symm
      · exact ih i m G1 hi (by omega) hc h6 hm hr hj
  refine mv_Kp.of (mv_JP.of (rg_X7_split_0 G) (mv_J.cut ?_))
  have := key n 0 0 (mv_up G 52 0 6 0) (Nat.zero_le _) (by omega) (mv_ch.rf.up rfl) mv_ups_eq (Nat.le_refl _) rfl (fun j h => absurd h (Nat.not_lt_zero j))
  exact this
end SP
