/-! TEXT: the class reads the lines of a law. -/
abbrev pr_L : Type := (Nat × pr_S × (Nat → Int) × (Nat → Int) × (Nat → Int)) ⊕ (Int × Nat)
noncomputable def pr_lw (I : Nat → Int) (kd : Nat) : Nat → Nat → pr_S → (Nat → Int) → (Nat → Int) → (Nat → Int) → pr_L
  | 0, _, S, _, _, _ => .inr (0, S.1)
  | f + 1, j, S, F, W, T => pr_if (I S.1 = -2) (.inl (j, S, F, W, T)) (pr_if (I S.1 ≠ 20000 + (kd : Int)) (.inr (1, S.1)) (pr_if (16 ≤ j) (.inr (3, S.1))
      (match pr_ps I kd 500 0 (pr_st S) with
        | .inr e => .inr e
        | .inl S1 => match pr_if (I S1.1 = 20002) (pr_cl I kd 2000 2 0 false (pr_st S1)) (.inl S1) with
          | .inr e => .inr e
          | .inl S2 => pr_if (I S2.1 = 30059) (pr_lw I kd f (j + 1) (pr_st S2) (mv_sp F j (S.2.1 : Int)) (mv_sp W j (S1.2.1 : Int)) (mv_sp T j (S2.2.1 : Int))) (.inr (1, S2.1)))))
/-- the lines of a law that the class reads -/
def pr_cN (G : mv_G) (j : Nat) (F W T : Nat → Int) : Prop := G 53 0 0 = (j : Int) ∧ ∀ l, l < j → G 55 0 l = F l ∧ G 56 0 l = W l ∧ G 57 0 l = T l
def pr_cV (t : Nat → Int) (n : Nat) (R : pr_L) (G : mv_G) : Prop := match R with
  | .inl (j, S, F, W, T) => pr_cS G S ∧ pr_cN G j F W T
  | .inr e => G 52 0 1 = e.1 ∧ e.1 ≠ 0 ∧ G 52 0 2 = ((mv_tbg t n e.2 : Nat) : Int)
def pr_cd (G G2 : mv_G) : Prop := mv_ch [54, 55, 56, 57] [(52, 1), (52, 2), (52, 7), (53, 0), (53, 1)] G G2
theorem pr_cc.d {G G2 : mv_G} (h : pr_cc G G2) : pr_cd G G2 := h.mono rfl rfl
section LW
variable {G : mv_G} {t : Nat → Int} {n m kd : Nat}
theorem pr_cN.ch {G2 : mv_G} {j : Nat} {F W T : Nat → Int} (h : pr_cN G j F W T) (hc : pr_cc G G2) : pr_cN G2 j F W T := by
  refine ⟨(hc.slot 53 0 rfl).trans h.1, fun l hl => ?_⟩
  rw [hc.cell 55 rfl, hc.cell 56 rfl, hc.cell 57 rfl]
  exact h.2 l hl
theorem pr_dT (h : mv_cT G t n m) {G2 : mv_G} (hc : pr_cd G G2) : mv_cT G2 t n m := h.ch hc rfl rfl
set_option maxHeartbeats 4000000 in
set_option maxRecDepth 100000 in
theorem fx_readLaw (hn : n ≤ 400) (hb : ∀ j, j < n → 0 ≤ t j ∧ t j ≤ 255) (hT : mv_cT G t n m) (hk5 : G 52 0 5 = (kd : Int)) (hkd : kd ≤ 1) (h1 : G 52 0 1 = 0) (h2 : G 52 0 2 = -1) (h7 : G 52 0 7 = 0) : mv_Kp (ff_X7_readLaw [.inr (52, 0)] G) (fun _ G' => pr_cV t n (pr_lw (pr_I t n) kd 500 0 (0, 0, fun _ => 0) (fun _ => 0) (fun _ => 0) (fun _ => 0)) G' ∧ pr_cd G G') := by
  have hm := hT.2.1
  have hIm := pr_I_m hT
  obtain ⟨Q, hQ⟩ : ∃ Q : pr_L → Int → mv_G → Prop, Q = (fun R _ G' => pr_cV t n R G' ∧ pr_cd G G') := ⟨_, rfl⟩
  have key : ∀ (f i j : Nat) (S : pr_S) (F W T : Nat → Int) (G1 : mv_G), m < S.1 + f → pr_cd G G1 → pr_cS G1 S → pr_cN G1 j F W T → S.1 ≤ m → i ≤ S.1 → S.2.1 ≤ S.1 → j ≤ 16 → mv_JP mm_X7_readLaw (Q (pr_lw (pr_I t n) kd f j S F W T)) 9 [some (.inr (52, 0)), some (.inl (i : Int))] G1 := by
    intro f
    induction f with
    | zero => intro i j S F W T G1 h1 _ _ _ h4; omega
    | succ f ih =>
      intro i j S F W T G1 hf hc hS hN hk hi hz hj
      have hT1 := pr_dT hT hc
      have hk51 : G1 52 0 5 = (kd : Int) := (hc.slot 52 5 rfl).trans hk5
      have e64 : G1 64 0 S.1 = pr_I t n S.1 := pr_tk hn hT1 S.1 hk
      refine mv_JP.of (rg_X7_readLaw_9 _ G1) ?_
      rw [hT1.1, hS.1, hS.2.1, Int.toNat_natCast, e64, hk51, hN.1, mv_ws (x := 20000 + (kd : Int)) (by omega)]
      refine mv_J.t (by omega) (mv_J.t rfl ?_)
      rw [mv_ckp (n := 401) (by omega), mv_ckp (n := 401) (by omega)]
      -- a told fault ends all
      have dead : ∀ (e : Int × Nat) (v : Int) (G3 : mv_G), pr_cd G G3 → (G3 52 0 1 = e.1 ∧ e.1 ≠ 0 ∧ G3 52 0 2 = ((mv_tbg t n e.2 : Nat) : Int)) → mv_JP mm_X7_readLaw (Q (.inr e)) 9 [some (.inr (52, 0)), some (.inl v)] G3 := fun e v G3 c3 h3 => by
        refine mv_JP.of (rg_X7_readLaw_9 _ G3) ?_
        have fin : mv_J mm_X7_readLaw (Q (.inr e)) (some (.inl (0, G3))) := mv_J.ret (by rw [hQ]; exact ⟨h3, c3⟩)
        exact mv_J.i (fun _ => mv_J.f (fun h4 => h3.2.1 (h3.1.symm.trans h4)) fin) (fun _ => fin)
      have up1 : ∀ {G3 : mv_G} (k : Nat) (i : Nat) (v : Int), [55, 56, 57].contains k = true → pr_cd G G3 → pr_cd G (mv_up G3 k 0 i v) := fun {G3} k i v h h3 => by
        refine mv_ch.uc h3 ?_
        revert h
        intro h
        have : k = 55 ∨ k = 56 ∨ k = 57 := by simpa using h
        rcases this with rfl | rfl | rfl <;> rfl
      refine mv_J.i (fun c1 => mv_J.ret ?_) (fun c1 => ?_)
      · have er : pr_lw (pr_I t n) kd (f + 1) j S F W T = .inl (j, S, F, W, T) := by
          conv => lhs; unfold pr_lw
          exact pr_t c1
        rw [er, hQ]
        exact ⟨⟨hS, hN⟩, hc⟩
      · have hkm : S.1 < m := by
          rcases Nat.lt_or_eq_of_le hk with h | h
          · exact h
          · exact absurd (h ▸ hIm) c1
        refine mv_J.i (fun c2 => mv_J.i (fun c3 => ?_) (fun c3 => ?_)) (fun c2 => ?_)
        · refine mv_J.cn (fx_step S hS hT1 hn hkm) (fun _ G2 h3 => ?_)
          obtain ⟨hS2, d2⟩ := h3
          have hN2 := hN.ch d2
          have hc2 : pr_cd G G2 := hc.tr d2.d
          rw [hN2.1, hS2.2.2.1, Int.toNat_natCast]
          refine mv_J.ck (by omega) ?_
          have e0 : pr_lw (pr_I t n) kd (f + 1) j S F W T = match pr_ps (pr_I t n) kd 500 0 (pr_st S) with
              | .inr e => .inr e
              | .inl S1 => match pr_if (pr_I t n S1.1 = 20002) (pr_cl (pr_I t n) kd 2000 2 0 false (pr_st S1)) (.inl S1) with
                | .inr e => .inr e
                | .inl S2 => pr_if (pr_I t n S2.1 = 30059) (pr_lw (pr_I t n) kd f (j + 1) (pr_st S2) (mv_sp F j (S.2.1 : Int)) (mv_sp W j (S1.2.1 : Int)) (mv_sp T j (S2.2.1 : Int))) (.inr (1, S2.1)) := by
            conv => lhs; unfold pr_lw
            rw [pr_f c1, pr_f (fun h => h c2), pr_f (by omega)]
          rw [e0]
          clear e0
          -- from is put down
          have hc3 : pr_cd G (mv_up G2 55 0 j (S.2.1 : Int)) := up1 55 j _ rfl hc2
          have hS3 : pr_cS (mv_up G2 55 0 j (S.2.1 : Int)) (pr_st S) := by
            obtain ⟨a1, a2, a3, a4, a5⟩ := hS2
            exact ⟨by rw [mv_up_k (by decide)]; exact a1, by rw [mv_up_k (by decide)]; exact a2, by rw [mv_up_k (by decide)]; exact a3, fun x hx => by rw [mv_up_k (by decide)]; exact a4 x hx, by rw [mv_up_k (by decide)]; exact a5⟩
          have hF3 : (mv_up G2 55 0 j (S.2.1 : Int)) 53 0 0 = (j : Int) ∧ (∀ l, l < j → (mv_up G2 55 0 j (S.2.1 : Int)) 56 0 l = W l ∧ (mv_up G2 55 0 j (S.2.1 : Int)) 57 0 l = T l) ∧ ∀ l, l < j + 1 → (mv_up G2 55 0 j (S.2.1 : Int)) 55 0 l = mv_sp F j (S.2.1 : Int) l := by
            refine ⟨by rw [mv_up_k (by decide)]; exact hN2.1, fun l hl => ?_, fun l hl => ?_⟩
            · rw [mv_up_k (by decide), mv_up_k (by decide)]; exact (hN2.2 l hl).2
            · rw [mv_up_at]
              unfold mv_sp
              by_cases e : l = j
              · rw [if_pos e, if_pos e]
              · rw [if_neg e, if_neg e]; exact (hN2.2 l (by omega)).1
          show mv_J mm_X7_readLaw _ (mv_cn (ff_X7_readSum [.inr (52, 0)] (mv_up G2 55 0 j (S.2.1 : Int))) _)
          generalize mv_up G2 55 0 j (S.2.1 : Int) = G3 at hc3 hS3 hF3
          have hT3 := pr_dT hT hc3
          have hk53 : G3 52 0 5 = (kd : Int) := (hc3.slot 52 5 rfl).trans hk5
          refine mv_J.cn (fx_readSum hn hb hT3 hk53 hkd (pr_st S) hS3 (show S.1 + 1 ≤ m by omega) (show S.2.1 ≤ S.1 + 1 by omega)) (fun _ G4 h4 => ?_)
          obtain ⟨h4, d4⟩ := h4
          have hc4 : pr_cd G G4 := hc3.tr d4.d
          have e40 : G4 53 0 0 = (j : Int) := (d4.slot 53 0 rfl).trans hF3.1
          rw [e40, Int.toNat_natCast]
          refine mv_J.ck (by omega) ?_
          have u1 : ∀ v, (mv_up G4 56 0 j v) 52 = G4 52 := fun v => mv_up_k (by decide)
          have u2 : ∀ v, (mv_up G4 56 0 j v) 53 = G4 53 := fun v => mv_up_k (by decide)
          have u3 : ∀ v, (mv_up G4 56 0 j v) 64 = G4 64 := fun v => mv_up_k (by decide)
          rw [u1, u2, u3, e40, Int.toNat_natCast]
          cases hp : pr_ps (pr_I t n) kd 500 0 (pr_st S) with
          | inr e =>
            rw [hp] at h4
            have h4 : pr_cE t n m G4 e := h4
            show mv_J mm_X7_readLaw (Q (.inr e)) _
            refine mv_J.f (fun h => h4.2.1 (h4.1.symm.trans h)) (mv_J.ck (by omega) ?_)
            have hE : ∀ x y : Int, ∀ G5 : mv_G, G5 52 = G4 52 → (∃ z : Nat, z ≤ 401 ∧ G5 53 0 1 = z) → pr_cE t n m G5 e := fun x y G5 g1 g2 => by
              obtain ⟨a1, a2, a3, a4, a5⟩ := h4
              exact ⟨by rw [g1]; exact a1, a2, by rw [g1]; exact a3, by rw [g1]; exact a4, g2⟩
            have h5 := hE 0 0 (mv_up (mv_up (mv_up G4 56 0 j (G4 53 0 1)) 57 0 j (G4 53 0 1)) 53 0 0 (mv_w ((mv_up (mv_up G4 56 0 j (G4 53 0 1)) 57 0 j (G4 53 0 1)) 53 0 0 + 1))) (by rw [mv_up_k (by decide), mv_up_k (by decide), mv_up_k (by decide)]) (by rw [mv_up_j (by decide), mv_up_k (by decide), mv_up_k (by decide)]; exact h4.2.2.2.2)
            refine mv_J.ce (fx_takeE h5 _) (mv_J.cut (dead e _ _ ((up1 57 j _ rfl (up1 56 j _ rfl hc4)).up rfl) ⟨h5.1, h5.2.1, h5.2.2.1⟩))
          | inl S1 =>
            rw [hp] at h4
            have h4 : pr_cS G4 S1 ∧ S1.1 ≤ m := h4
            have b1 := pr_ps_b hIm 500 0 (pr_st S) S1 1 (show S.1 + 1 ≤ m by omega) (show S.2.1 + 1 + 0 ≤ S.1 + 1 by omega) hp
            have e1 : (pr_st S).1 = S.1 + 1 := rfl
            show mv_J mm_X7_readLaw (Q (match pr_if (pr_I t n S1.1 = 20002) (pr_cl (pr_I t n) kd 2000 2 0 false (pr_st S1)) (.inl S1) with
                | .inr e => .inr e
                | .inl S2 => pr_if (pr_I t n S2.1 = 30059) (pr_lw (pr_I t n) kd f (j + 1) (pr_st S2) (mv_sp F j (S.2.1 : Int)) (mv_sp W j (S1.2.1 : Int)) (mv_sp T j (S2.2.1 : Int))) (.inr (1, S2.1)))) _
            rw [h4.1.1, h4.1.2.1, h4.1.2.2.1, Int.toNat_natCast, pr_tk hn (pr_dT hT hc4) S1.1 h4.2]
            refine mv_J.t rfl ?_
            rw [mv_ckp (n := 401) (by omega)]
            show mv_J mm_X7_readLaw _ (if pr_I t n S1.1 = 20002 then _ else _)
            -- when is put down
            have hc5 : pr_cd G (mv_up G4 56 0 j (S1.2.1 : Int)) := up1 56 j _ rfl hc4
            have hS5 : pr_cS (mv_up G4 56 0 j (S1.2.1 : Int)) S1 := by
              obtain ⟨a1, a2, a3, a4, a5⟩ := h4.1
              exact ⟨by rw [u1]; exact a1, by rw [u1]; exact a2, by rw [u2]; exact a3, fun x hx => by rw [mv_up_k (by decide)]; exact a4 x hx, by rw [u1]; exact a5⟩
            have hF5 : (mv_up G4 56 0 j (S1.2.1 : Int)) 53 0 0 = (j : Int) ∧ (∀ l, l < j → (mv_up G4 56 0 j (S1.2.1 : Int)) 57 0 l = T l) ∧ ∀ l, l < j + 1 → (mv_up G4 56 0 j (S1.2.1 : Int)) 55 0 l = mv_sp F j (S.2.1 : Int) l ∧ (mv_up G4 56 0 j (S1.2.1 : Int)) 56 0 l = mv_sp W j (S1.2.1 : Int) l := by
              refine ⟨by rw [u2]; exact e40, fun l hl => ?_, fun l hl => ⟨?_, ?_⟩⟩
              · rw [mv_up_k (by decide), d4.cell 57 rfl]; exact (hF3.2.1 l hl).2
              · rw [mv_up_k (by decide), d4.cell 55 rfl]; exact hF3.2.2 l hl
              · rw [mv_up_at]
                unfold mv_sp
                by_cases e : l = j
                · rw [if_pos e, if_pos e]
                · rw [if_neg e, if_neg e, d4.cell 56 rfl]; exact (hF3.2.1 l (by omega)).1
            -- what ends a line
            have fin : ∀ (S2 : pr_S) (G6 : mv_G), pr_cd G G6 → pr_cS G6 S2 → S2.1 ≤ m → S1.1 ≤ S2.1 → S2.2.1 + 1 ≤ S2.1 → (G6 53 0 0 = (j : Int) ∧ (∀ l, l < j → G6 57 0 l = T l) ∧ ∀ l, l < j + 1 → G6 55 0 l = mv_sp F j (S.2.1 : Int) l ∧ G6 56 0 l = mv_sp W j (S1.2.1 : Int) l) → ∀ v : Int, v = (j : Int) → mv_J mm_X7_readLaw (Q (pr_if (pr_I t n S2.1 = 30059) (pr_lw (pr_I t n) kd f (j + 1) (pr_st S2) (mv_sp F j (S.2.1 : Int)) (mv_sp W j (S1.2.1 : Int)) (mv_sp T j (S2.2.1 : Int))) (.inr (1, S2.1)))) (mv_ck v 16 (mv_cn (ff_X7_take [.inr (52, 0), .inl 30059] (mv_up (mv_up G6 57 0 j (S2.2.1 : Int)) 53 0 0 (mv_w ((mv_up G6 57 0 j (S2.2.1 : Int)) 53 0 0 + 1)))) fun r4 G4 => some (.inr (9, [some (.inr (52, 0)), some (.inl (mv_w ((i : Int) + 1)))], G4)))) := by
              intro S2 G6 hc6 hS6 hk2 hk12 hz2 hF6 v hv
              have w1 : (mv_up G6 57 0 j (S2.2.1 : Int)) 53 0 0 = (j : Int) := by rw [mv_up_k (by decide)]; exact hF6.1
              rw [w1, mv_ws (x := (j : Int) + 1) (by omega), mv_ws (x := (i : Int) + 1) (by omega)]
              refine mv_J.ck (by omega) ?_
              have hc7 : pr_cd G (mv_up (mv_up G6 57 0 j (S2.2.1 : Int)) 53 0 0 ((j : Int) + 1)) := (up1 57 j _ rfl hc6).up rfl
              have hS7 : pr_cS (mv_up (mv_up G6 57 0 j (S2.2.1 : Int)) 53 0 0 ((j : Int) + 1)) S2 := by
                obtain ⟨a1, a2, a3, a4, a5⟩ := hS6
                exact ⟨by rw [mv_up_k (by decide), mv_up_k (by decide)]; exact a1, by rw [mv_up_k (by decide), mv_up_k (by decide)]; exact a2, by rw [mv_up_j (by decide), mv_up_k (by decide)]; exact a3, fun x hx => by rw [mv_up_k (by decide), mv_up_k (by decide)]; exact a4 x hx, by rw [mv_up_k (by decide), mv_up_k (by decide)]; exact a5⟩
              have hN7 : pr_cN (mv_up (mv_up G6 57 0 j (S2.2.1 : Int)) 53 0 0 ((j : Int) + 1)) (j + 1) (mv_sp F j (S.2.1 : Int)) (mv_sp W j (S1.2.1 : Int)) (mv_sp T j (S2.2.1 : Int)) := by
                refine ⟨mv_ups_eq, fun l hl => ⟨?_, ?_, ?_⟩⟩
                · rw [mv_up_k (by decide), mv_up_k (by decide)]; exact (hF6.2.2 l hl).1
                · rw [mv_up_k (by decide), mv_up_k (by decide)]; exact (hF6.2.2 l hl).2
                · rw [mv_up_k (by decide), mv_up_at]
                  unfold mv_sp
                  by_cases e : l = j
                  · rw [if_pos e, if_pos e]
                  · rw [if_neg e, if_neg e]; exact hF6.2.1 l (by omega)
              generalize mv_up (mv_up G6 57 0 j (S2.2.1 : Int)) 53 0 0 ((j : Int) + 1) = G7 at hc7 hS7 hN7
              have hT7 := pr_dT hT hc7
              by_cases c : pr_I t n S2.1 = 30059
              · have hk3 : S2.1 ≠ m := fun e => by rw [e, hIm] at c; omega
                have tk : mv_Kp (ff_X7_take [.inr (52, 0), .inl 30059] G7) (fun _ G' => pr_cS G' (pr_st S2) ∧ pr_cc G7 G') := by
                  refine mv_Kp.of (mv_JP.of (rg_X7_take_0 30059 G7) ?_)
                  rw [hS7.1, hS7.2.1, Int.toNat_natCast, pr_tk hn hT7 S2.1 hk2, mv_ckp (n := 401) (by omega)]
                  exact mv_J.t rfl (mv_J.t c (mv_J.cn (fx_step S2 hS7 hT7 hn (by omega)) (fun _ G8 h8 => mv_J.ret h8)))
                refine mv_J.cn tk (fun _ G8 h8 => mv_J.cut ?_)
                rw [pr_t c]
                exact ih (i + 1) (j + 1) (pr_st S2) _ _ _ G8 (show m < S2.1 + 1 + f by omega) (hc7.tr h8.2.d) h8.1 (hN7.ch h8.2) (show S2.1 + 1 ≤ m by omega) (show i + 1 ≤ S2.1 + 1 by omega) (show S2.2.1 ≤ S2.1 + 1 by omega) (by omega)
              · have tk : mv_Kp (ff_X7_take [.inr (52, 0), .inl 30059] G7) (fun _ G' => pr_cE t n m G' (1, S2.1) ∧ pr_cc G7 G') := by
                  refine mv_Kp.of (mv_JP.of (rg_X7_take_0 30059 G7) ?_)
                  rw [hS7.1, hS7.2.1, Int.toNat_natCast, pr_tk hn hT7 S2.1 hk2, mv_ckp (n := 401) (by omega)]
                  exact mv_J.t rfl (mv_J.f c (mv_J.cn (fx_fail S2 hS7 hT7 hn hk2 (by omega) 1 (by decide)) (fun _ G8 h8 => mv_J.ret h8)))
                refine mv_J.cn tk (fun _ G8 h8 => mv_J.cut ?_)
                rw [pr_f c]
                exact dead _ _ G8 (hc7.tr h8.2.d) ⟨h8.1.1, h8.1.2.1, h8.1.2.2.1⟩
            refine mv_J.i (fun c => ?_) (fun c => ?_)
            · rw [pr_t c]
              have hk3 : S1.1 ≠ m := fun e => by rw [e, hIm] at c; omega
              have hT5 := pr_dT hT hc5
              refine mv_J.cn (fx_step S1 hS5 hT5 hn (by omega)) (fun _ G6 h6 => ?_)
              obtain ⟨hS6, d6⟩ := h6
              have hc6 : pr_cd G G6 := hc5.tr d6.d
              have hT6 := pr_dT hT hc6
              have hk56 : G6 52 0 5 = (kd : Int) := (hc6.slot 52 5 rfl).trans hk5
              have pc : mv_Kp ((ff_rc 30).1 [.inr (52, 0), .inl 20003, .inl 0] G6) (pr_Q t n m G6 (pr_cl (pr_I t n) kd 2000 2 0 false (pr_st S1))) := by
                show mv_Kp (mv_fn mv_rc (mm_X7_readClaims (ff_rc 29)) mv_sh 400 4 [.inr (52, 0), .inl 20003, .inl 0] G6) _
                refine mv_Kp.of (mv_JP.of (rg_X7_readClaims_0 (ff_rc 29) 20003 0 G6) (mv_J.cut ?_))
                exact (fx_claims hn hb hkd 2000).2 29 0 2 0 false (pr_st S1) G6 G6 (Or.inr rfl) hT6 hk56 mv_ch.rf hS6 (show S1.1 + 1 ≤ m by omega) (show S1.2.1 + 0 ≤ S1.1 + 1 by omega) (show 3 * (m - (S1.1 + 1)) + 1 + 2 ≤ 2000 by omega) (by decide) (by decide) (Nat.zero_le _) rfl
              refine mv_J.cn pc (fun _ G7 h7 => ?_)
              obtain ⟨h7, d7⟩ := h7
              have hc7 : pr_cd G G7 := hc6.tr d7.d
              have g0 : G7 53 0 0 = (j : Int) := (d7.slot 53 0 rfl).trans ((d6.slot 53 0 rfl).trans hF5.1)
              cases hp2 : pr_cl (pr_I t n) kd 2000 2 0 false (pr_st S1) with
              | inr e =>
                rw [hp2] at h7
                have h7 : pr_cE t n m G7 e := h7
                show mv_J mm_X7_readLaw (Q (.inr e)) _
                rw [g0, Int.toNat_natCast]
                refine mv_J.ck (by omega) ?_
                have h5 : pr_cE t n m (mv_up (mv_up G7 57 0 j (G7 53 0 1)) 53 0 0 (mv_w ((mv_up G7 57 0 j (G7 53 0 1)) 53 0 0 + 1))) e := by
                  obtain ⟨a1, a2, a3, a4, a5⟩ := h7
                  exact ⟨by rw [mv_up_k (by decide), mv_up_k (by decide)]; exact a1, a2, by rw [mv_up_k (by decide), mv_up_k (by decide)]; exact a3, by rw [mv_up_k (by decide), mv_up_k (by decide)]; exact a4, by rw [mv_up_j (by decide), mv_up_k (by decide)]; exact a5⟩
                exact mv_J.ce (fx_takeE h5 _) (mv_J.cut (dead e _ _ ((up1 57 j _ rfl hc7).up rfl) ⟨h5.1, h5.2.1, h5.2.2.1⟩))
              | inl S2 =>
                rw [hp2] at h7
                have h7 : pr_cS G7 S2 ∧ S2.1 ≤ m := h7
                have b2 := pr_cl_b hIm 2000 2 0 false (pr_st S1) S2 1 (show S1.1 + 1 ≤ m by omega) (show S1.2.1 + 1 + 0 ≤ S1.1 + 1 by omega) hp2
                have e2 : (pr_st S1).1 = S1.1 + 1 := rfl
                rw [g0, Int.toNat_natCast, h7.1.2.2.1]
                exact fin S2 G7 hc7 h7.1 h7.2 (by omega) b2.2.2.1 ⟨g0, fun l hl => by rw [d7.cell 57 rfl, d6.cell 57 rfl]; exact hF5.2.1 l hl, fun l hl => by rw [d7.cell 55 rfl, d6.cell 55 rfl, d7.cell 56 rfl, d6.cell 56 rfl]; exact hF5.2.2 l hl⟩ _ rfl
            · rw [pr_f c]
              have := fin S1 _ hc5 hS5 h4.2 (Nat.le_refl _) b1.2.2.1 hF5 (j : Int) rfl
              exact this
        · have er : pr_lw (pr_I t n) kd (f + 1) j S F W T = .inr (3, S.1) := by
            conv => lhs; unfold pr_lw
            rw [pr_f c1, pr_f (fun h => h c2), pr_t (by omega)]
          rw [er]
          exact mv_J.cn (fx_fail S hS hT1 hn hk (by omega) 3 (by decide)) (fun _ G2 h2 => mv_J.ret (by rw [hQ]; exact ⟨⟨h2.1.1, h2.1.2.1, h2.1.2.2.1⟩, hc.tr h2.2.d⟩))
        · have er : pr_lw (pr_I t n) kd (f + 1) j S F W T = .inr (1, S.1) := by
            conv => lhs; unfold pr_lw
            rw [pr_f c1, pr_t c2]
          rw [er]
          exact mv_J.cn (fx_fail S hS hT1 hn hk (by omega) 1 (by decide)) (fun _ G2 h2 => mv_J.ret (by rw [hQ]; exact ⟨⟨h2.1.1, h2.1.2.1, h2.1.2.2.1⟩, hc.tr h2.2.d⟩))
  have hcl : ff_X5_clear [.inr (53, 0)] G = some (0, mv_up (mv_up G 53 0 0 0) 53 0 1 0) := mv_Kp.eq (mv_Kp.of (mv_JP.of (rg_X5_clear_0_53 G) (mv_J.ret ⟨rfl, rfl⟩)))
  refine mv_Kp.mono (P := Q (pr_lw (pr_I t n) kd 500 0 (0, 0, fun _ => 0) (fun _ => 0) (fun _ => 0) (fun _ => 0))) (mv_Kp.of (mv_JP.of (rg_X7_readLaw_0 G) (mv_J.ce hcl (mv_J.cut ?_)))) (fun r G' h => by rw [hQ] at h; exact h)
  refine key 500 0 0 (0, 0, fun _ => 0) _ _ _ _ (by omega) ((mv_ch.rf.up rfl).up rfl) ⟨?_, ?_, ?_, fun j hj => absurd hj (Nat.not_lt_zero j), ?_⟩ ⟨?_, fun l hl => absurd hl (Nat.not_lt_zero l)⟩ (Nat.zero_le _) (Nat.le_refl _) (Nat.le_refl _) (Nat.zero_le _)
  · rw [mv_up_k (by decide), mv_up_k (by decide)]; exact h1
  · rw [mv_up_k (by decide), mv_up_k (by decide)]; exact h7
  · exact mv_ups_eq
  · rw [mv_up_k (by decide), mv_up_k (by decide)]; exact h2
  · rw [mv_up_j (by decide)]; exact mv_ups_eq
end LW
