/-! TEXT: the reference reads the lines of a law. -/
def pr_md (G G2 : mv_G) : Prop := mv_ch [114, 115, 116, 117, 118, 119] [(100, 17), (100, 18), (100, 19), (100, 20), (100, 29), (100, 30), (100, 32), (100, 33), (100, 34)] G G2 ∧ (∀ j, j < 800 → G2 117 0 j = G 117 0 j ∧ G2 118 0 j = G 118 0 j) ∧ ∀ j, j < 32 → G2 114 0 j = G 114 0 j ∧ G2 115 0 j = G 115 0 j ∧ G2 116 0 j = G 116 0 j
theorem pr_md.rf {G : mv_G} : pr_md G G := ⟨mv_ch.rf, fun _ _ => ⟨rfl, rfl⟩, fun _ _ => ⟨rfl, rfl, rfl⟩⟩
theorem pr_md.tr {G G2 G3 : mv_G} (h : pr_md G G2) (h2 : pr_md G2 G3) : pr_md G G3 := ⟨h.1.tr h2.1, fun j hj => ⟨(h2.2.1 j hj).1.trans (h.2.1 j hj).1, (h2.2.1 j hj).2.trans (h.2.1 j hj).2⟩, fun j hj => ⟨(h2.2.2 j hj).1.trans (h.2.2 j hj).1, (h2.2.2 j hj).2.1.trans (h.2.2 j hj).2.1, (h2.2.2 j hj).2.2.trans (h.2.2 j hj).2.2⟩⟩
theorem pr_mc.d {G G2 : mv_G} (h : pr_mc G G2) : pr_md G G2 := ⟨h.1.mono rfl rfl, h.2, fun j _ => by rw [h.1.cell 114 rfl, h.1.cell 115 rfl, h.1.cell 116 rfl]; exact ⟨rfl, rfl, rfl⟩⟩
theorem pr_mE.md {G G2 : mv_G} {t : Nat → Int} {n kd : Nat} (h : pr_mE G t n kd) (hc : pr_md G G2) : pr_mE G2 t n kd := by
  unfold pr_mE at h ⊢
  rw [hc.1.slot 100 16 rfl, hc.1.slot 100 28 rfl, hc.1.cell 111 rfl, hc.1.cell 112 rfl]
  exact h
theorem pr_md.up {G G2 : mv_G} {k j : Nat} {v : Int} (h : pr_md G G2) (hk : k = 114 ∨ k = 115 ∨ k = 116) (hj : 32 ≤ j) : pr_md G (mv_up G2 k 0 j v) := by
  refine ⟨h.1.uc ?_, fun x hx => ?_, fun x hx => ?_⟩
  · rcases hk with rfl | rfl | rfl <;> rfl
  · rw [mv_up_k (by omega), mv_up_k (by omega)]
    exact h.2.1 x hx
  · have e : ∀ q, (mv_up G2 k 0 j v) q 0 x = G2 q 0 x := fun q => by
      by_cases e : q = k
      · subst e; exact mv_up_j (by omega)
      · rw [mv_up_k e]
    rw [e, e, e]
    exact h.2.2 x hx
theorem pr_mS.ul {G1 : mv_G} {t : Nat → Int} {n : Nat} {S : pr_S} {k j : Nat} {v : Int} (h : pr_mS G1 t n S) (hk : k = 114 ∨ k = 115 ∨ k = 116) : pr_mS (mv_up G1 k 0 j v) t n S := by
  unfold pr_mS mv_mT at h ⊢
  rw [mv_up_k (by omega : (117 : Nat) ≠ k), mv_up_k (by omega : (118 : Nat) ≠ k), mv_up_k (by omega : (100 : Nat) ≠ k)]
  exact h
/-- the lines of a law that the reference reads -/
def pr_mN (G : mv_G) (j : Nat) (F W T : Nat → Int) : Prop := ∀ l, l < j → G 114 0 (32 + l) = F l ∧ G 115 0 (32 + l) = W l ∧ G 116 0 (32 + l) = T l
def pr_mV (t : Nat → Int) (n : Nat) (R : pr_L) (r : Int) (G : mv_G) : Prop := match R with
  | .inl (j, S, F, W, T) => r = (j : Int) ∧ pr_mS G t n S ∧ pr_mN G j F W T
  | .inr e => r = -1 ∧ G 100 0 33 = e.1 ∧ G 100 0 34 = ((mv_tbg t n e.2 : Nat) : Int)
section ML
variable {G : mv_G} {t : Nat → Int} {n m kd : Nat}
theorem gx_readAny (hn : n ≤ 400) (hb : ∀ j, j < n → 0 ≤ t j ∧ t j ≤ 255) (hE : pr_mE G t n kd) (hkd : kd ≤ 1) (hIm : pr_I t n m = -2) (hm : m ≤ n) (S : pr_S) (h : pr_mS G t n S) (h30 : G 100 0 30 = 0) (hk : S.1 ≤ m) (hz : S.2.1 ≤ S.1) : mv_Kp (ff_X12_readAny [.inr (100, 0)] G) (fun r G' => (match pr_cl (pr_I t n) kd 2000 2 0 false S with
    | .inl S2 => r = 0 ∧ pr_mS G' t n S2 ∧ G' 100 0 30 = 0
    | .inr e => r = -1 ∧ G' 100 0 33 = e.1 ∧ G' 100 0 34 = ((mv_tbg t n e.2 : Nat) : Int)) ∧ pr_mc G G') := by
  obtain ⟨P, hP⟩ : ∃ P : Int → mv_G → Prop, P = (fun r G' => (match pr_cl (pr_I t n) kd 2000 2 0 false S with
    | .inl S2 => r = 0 ∧ pr_mS G' t n S2 ∧ G' 100 0 30 = 0
    | .inr e => r = -1 ∧ G' 100 0 33 = e.1 ∧ G' 100 0 34 = ((mv_tbg t n e.2 : Nat) : Int)) ∧ pr_mc G G') := ⟨_, rfl⟩
  rw [← hP]
  have hA : pr_A G t n [] S (mv_up G 100 0 32 0) := ⟨pr_mc.rf.up rfl, h.up rfl, mv_ups_eq, True.intro, by rw [mv_up_j (by decide)]; exact h30⟩
  refine mv_Kp.of (mv_JP.of (rg_X12_readAny_0 G) (mv_J.cut ?_))
  have := (gx_any P hn hb hE hkd hIm hm 2000).2.2 0 false S [] _ hA True.intro True.intro True.intro hk (show S.2.1 + 0 ≤ S.1 by omega) rfl (by decide) (by decide) (by omega) (fun e he G' hG' => ?_) (fun S2 hS2 hna hno b1 b2 S1 G2 hSS hA2 => ?_)
  · exact this
  · rw [hP, he]
    exact ⟨⟨rfl, hG'.2⟩, hG'.1⟩
  · have bb := pr_cl_b hIm 2000 2 0 false S S2 0 hk (by rw [if_neg (c := false = true ∧ 2 ≠ 0) (fun h => by cases h.1)]; omega) hS2
    have l1 := (pr_bw_op (b := b1) (x := 10) (st := pr_bw b2 11 []) (Or.inl rfl)).2.2
    have l2 := (pr_bw_op (b := b2) (x := 11) (st := []) (Or.inr rfl)).2.2
    have l3 : ([] : List Int).length = 0 := rfl
    have z2 : S2.2.1 = S1.2.1 + (if b1 = true then 1 else 0) + (if b2 = true then 1 else 0) := by
      rw [hSS, pr_sg_2, pr_sg_2]
      cases b1 <;> cases b2 <;> rfl
    have q1 : (if b1 = true then 1 else 0) ≤ 1 := by split <;> omega
    have q2 : (if b2 = true then 1 else 0) ≤ 1 := by split <;> omega
    refine gx_close P hn hE b1 b2 [] S1 S2 G2 True.intro True.intro hA2 hSS (by omega) (by omega) hna hno _ (fun _ G4 hA4 => ?_) (fun h => absurd rfl h)
    rw [hP, hS2]
    exact ⟨⟨rfl, hA4.2.1, hA4.2.2.2.2⟩, hA4.1⟩
set_option maxHeartbeats 4000000 in
set_option maxRecDepth 100000 in
theorem gx_readLaw (hn : n ≤ 400) (hb : ∀ j, j < n → 0 ≤ t j ∧ t j ≤ 255) (hE : pr_mE G t n kd) (hkd : kd ≤ 1) (hIm : pr_I t n m = -2) (hm : m ≤ n) (h : pr_mS G t n (0, 0, fun _ => 0)) (h30 : G 100 0 30 = 0) : mv_Kp (ff_X12_readLaw [.inr (100, 0)] G) (fun r G' => pr_mV t n (pr_lw (pr_I t n) kd 500 0 (0, 0, fun _ => 0) (fun _ => 0) (fun _ => 0) (fun _ => 0)) r G' ∧ pr_md G G') := by
  obtain ⟨Q, hQ⟩ : ∃ Q : pr_L → Int → mv_G → Prop, Q = (fun R r G' => pr_mV t n R r G' ∧ pr_md G G') := ⟨_, rfl⟩
  have key : ∀ (f j : Nat) (S : pr_S) (F W T : Nat → Int) (G1 : mv_G), m < S.1 + f → pr_md G G1 → pr_mS G1 t n S → pr_mN G1 j F W T → G1 100 0 30 = 0 → S.1 ≤ m → S.2.1 ≤ S.1 → j ≤ 16 → mv_JP mm_X12_readLaw (Q (pr_lw (pr_I t n) kd f j S F W T)) 2 [some (.inr (100, 0)), some (.inl (j : Int)), none] G1 := by
    intro f
    induction f with
    | zero => intro j S F W T G1 h1 _ _ _ _ h4; omega
    | succ f ih =>
      intro j S F W T G1 hf hc hS hN h301 hk hz hj
      have hE1 := hE.md hc
      have il : ff_X12_isLineWord [.inr (100, 0)] G1 = some (mv_b (pr_I t n S.1 = 20000 + (kd : Int)), G1) := by
        refine mv_Kp.eq (mv_Kp.of (mv_JP.of (rg_X12_isLineWord_0 G1) ?_))
        rw [hE1.2.2.2]
        have bb : mv_b (pr_I t n S.1 = 20000 + (kd : Int)) = 0 ∨ mv_b (pr_I t n S.1 = 20000 + (kd : Int)) = 1 := by
          by_cases c : pr_I t n S.1 = 20000 + (kd : Int)
          · exact Or.inr (mv_b1 c)
          · exact Or.inl (mv_b0 c)
        refine mv_J.i (fun h0 => ?_) (fun h0 => ?_)
        · have w := gx_isWord S.1 0 (by decide) hS.1
          have e : kd = 0 := by omega
          subst e
          exact mv_J.ce w (mv_J.r0 bb ⟨rfl, rfl⟩)
        · have w := gx_isWord S.1 1 (by decide) hS.1
          have e : kd = 1 := by omega
          subst e
          exact mv_J.ce w (mv_J.r0 bb ⟨rfl, rfl⟩)
      have err : ∀ (x : Int) (k : Nat) (G2 : mv_G), pr_md G G2 → mv_mT G2 t n k → mv_J mm_X12_readLaw (Q (.inr (x, k))) (mv_cn (ff_X12_errs [.inr (100, 0), .inl x] G2) fun r1 G1 => some (.inl (r1, G1))) := fun x k G2 c2 hT2 => by
        refine mv_J.cn (gx_errs k hT2 x) (fun r G3 h3 => mv_J.ret ?_)
        obtain ⟨⟨rfl, g2, g3⟩, c3⟩ := h3
        rw [hQ]
        exact ⟨⟨rfl, g2, g3⟩, c2.tr c3.c.d⟩
      refine mv_JP.of (rg_X12_readLaw_2 _ G1) (mv_J.ce il (mv_J.bt (fun c2 => ?_) (fun c2 => ?_)))
      · have hend : G1 100 0 19 = 0 ↔ pr_I t n S.1 = -2 := by
          have hv := hS.1.2.2
          show _ ↔ mv_tk1 t n (mv_tbg t n S.1) = _
          generalize mv_tk1 t n (mv_tbg t n S.1) = v at hv
          rcases hv with ⟨q1, q2⟩ | ⟨q1, q2⟩ | ⟨q1, q2, q3, q4⟩ | ⟨x, q1, q2, q3, q4⟩ | ⟨q1, q2, q3⟩
          · omega
          · omega
          · omega
          · omega
          · have : 0 ≤ G1 100 0 20 ∧ G1 100 0 20 ≤ 62 := by have := of_decide_eq_true q3; omega
            omega
        refine mv_J.i (fun c1 => mv_J.ret ?_) (fun c1 => ?_)
        · have er : pr_lw (pr_I t n) kd (f + 1) j S F W T = .inl (j, S, F, W, T) := by
            conv => lhs; unfold pr_lw
            exact pr_t (hend.mp c1)
          rw [er, hQ]
          exact ⟨⟨rfl, hS, hN⟩, hc⟩
        · have er : pr_lw (pr_I t n) kd (f + 1) j S F W T = .inr (1, S.1) := by
            conv => lhs; unfold pr_lw
            rw [pr_f (fun h => c1 (hend.mpr h)), pr_t c2]
          rw [er]
          exact err 1 S.1 G1 hc hS.1
      · have c1 : ¬ pr_I t n S.1 = -2 := by omega
        have hkm : S.1 < m := by
          rcases Nat.lt_or_eq_of_le hk with h | h
          · exact h
          · exact absurd (h ▸ hIm) c1
        refine mv_J.i (fun c3 => ?_) (fun c3 => ?_)
        · have er : pr_lw (pr_I t n) kd (f + 1) j S F W T = .inr (3, S.1) := by
            conv => lhs; unfold pr_lw
            rw [pr_f c1, pr_f (fun h => h c2), pr_t (by omega)]
          rw [er]
          exact err 3 S.1 G1 hc hS.1
        · have e0 : pr_lw (pr_I t n) kd (f + 1) j S F W T = match pr_ps (pr_I t n) kd 500 0 (pr_st S) with
              | .inr e => .inr e
              | .inl S1 => match pr_if (pr_I t n S1.1 = 20002) (pr_cl (pr_I t n) kd 2000 2 0 false (pr_st S1)) (.inl S1) with
                | .inr e => .inr e
                | .inl S2 => pr_if (pr_I t n S2.1 = 30059) (pr_lw (pr_I t n) kd f (j + 1) (pr_st S2) (mv_sp F j (S.2.1 : Int)) (mv_sp W j (S1.2.1 : Int)) (mv_sp T j (S2.2.1 : Int))) (.inr (1, S2.1)) := by
            conv => lhs; unfold pr_lw
            rw [pr_f c1, pr_f (fun h => h c2), pr_f (by omega)]
            rfl
          rw [e0]
          clear e0
          refine mv_J.cn (gx_readsS hn hb hE1 S hS) (fun _ G2 h3 => ?_)
          have hS2 := h3.1
          have d2 := h3.2
          have hc2 : pr_md G G2 := hc.tr d2.c.d
          rw [hS2.2.1, mv_ws (x := 32 + (j : Int)) (by omega), show Int.toNat (32 + (j : Int)) = 32 + j by omega]
          refine mv_J.ck (by omega) ?_
          have hc3 : pr_md G (mv_up G2 114 0 (32 + j) (S.2.1 : Int)) := hc2.up (Or.inl rfl) (by omega)
          have hS3 : pr_mS (mv_up G2 114 0 (32 + j) (S.2.1 : Int)) t n (pr_st S) := hS2.ul (Or.inl rfl)
          have hF3 : (mv_up G2 114 0 (32 + j) (S.2.1 : Int)) 100 0 30 = 0 ∧ (∀ l, l < j → (mv_up G2 114 0 (32 + j) (S.2.1 : Int)) 115 0 (32 + l) = W l ∧ (mv_up G2 114 0 (32 + j) (S.2.1 : Int)) 116 0 (32 + l) = T l) ∧ ∀ l, l < j + 1 → (mv_up G2 114 0 (32 + j) (S.2.1 : Int)) 114 0 (32 + l) = mv_sp F j (S.2.1 : Int) l := by
            refine ⟨by rw [mv_up_k (by decide), d2.1.slot 100 30 rfl]; exact h301, fun l hl => ?_, fun l hl => ?_⟩
            · rw [mv_up_k (by decide), mv_up_k (by decide), d2.1.cell 115 rfl, d2.1.cell 116 rfl]; exact (hN l hl).2
            · unfold mv_sp
              by_cases e : l = j
              · rw [if_pos e, e, mv_ups_eq]
              · rw [if_neg e, mv_up_j (by omega), d2.1.cell 114 rfl]; exact (hN l (by omega)).1
          show mv_J mm_X12_readLaw _ (mv_cn (ff_X12_readSum [.inr (100, 0)] (mv_up G2 114 0 (32 + j) (S.2.1 : Int))) _)
          generalize mv_up G2 114 0 (32 + j) (S.2.1 : Int) = G3 at hc3 hS3 hF3
          refine mv_J.cn (gx_readSum hn hb (hE.md hc3) hkd hIm hm (pr_st S) hS3 (show S.1 + 1 ≤ m by omega) (show S.2.1 ≤ S.1 + 1 by omega)) (fun r G4 h4 => ?_)
          obtain ⟨h4, d4⟩ := h4
          have hc4 : pr_md G G4 := hc3.tr d4.c.d
          cases hp : pr_ps (pr_I t n) kd 500 0 (pr_st S) with
          | inr e =>
            rw [hp] at h4
            refine mv_J.t h4.1 (mv_J.ret ?_)
            rw [hQ]
            exact ⟨⟨rfl, h4.2⟩, hc4⟩
          | inl S1 =>
            rw [hp] at h4
            obtain ⟨h40, hS4⟩ := h4
            have b1 := pr_ps_b hIm 500 0 (pr_st S) S1 1 (show S.1 + 1 ≤ m by omega) (show S.2.1 + 1 + 0 ≤ S.1 + 1 by omega) hp
            have e1 : (pr_st S).1 = S.1 + 1 := rfl
            show mv_J mm_X12_readLaw (Q (match pr_if (pr_I t n S1.1 = 20002) (pr_cl (pr_I t n) kd 2000 2 0 false (pr_st S1)) (.inl S1) with
                | .inr e => .inr e
                | .inl S2 => pr_if (pr_I t n S2.1 = 30059) (pr_lw (pr_I t n) kd f (j + 1) (pr_st S2) (mv_sp F j (S.2.1 : Int)) (mv_sp W j (S1.2.1 : Int)) (mv_sp T j (S2.2.1 : Int))) (.inr (1, S2.1)))) _
            rw [hS4.2.1]
            refine mv_J.f (by omega) (mv_J.ck (by omega) ?_)
            have hc5 : pr_md G (mv_up G4 115 0 (32 + j) (S1.2.1 : Int)) := hc4.up (Or.inr (Or.inl rfl)) (by omega)
            have hS5 : pr_mS (mv_up G4 115 0 (32 + j) (S1.2.1 : Int)) t n S1 := hS4.ul (Or.inr (Or.inl rfl))
            have hF5 : (mv_up G4 115 0 (32 + j) (S1.2.1 : Int)) 100 0 30 = 0 ∧ (∀ l, l < j → (mv_up G4 115 0 (32 + j) (S1.2.1 : Int)) 116 0 (32 + l) = T l) ∧ ∀ l, l < j + 1 → (mv_up G4 115 0 (32 + j) (S1.2.1 : Int)) 114 0 (32 + l) = mv_sp F j (S.2.1 : Int) l ∧ (mv_up G4 115 0 (32 + j) (S1.2.1 : Int)) 115 0 (32 + l) = mv_sp W j (S1.2.1 : Int) l := by
              refine ⟨by rw [mv_up_k (by decide), d4.1.slot 100 30 rfl]; exact hF3.1, fun l hl => ?_, fun l hl => ⟨?_, ?_⟩⟩
              · rw [mv_up_k (by decide), d4.1.cell 116 rfl]; exact (hF3.2.1 l hl).2
              · rw [mv_up_k (by decide), d4.1.cell 114 rfl]; exact hF3.2.2 l hl
              · unfold mv_sp
                by_cases e : l = j
                · rw [if_pos e, e, mv_ups_eq]
                · rw [if_neg e, mv_up_j (by omega), d4.1.cell 115 rfl]; exact (hF3.2.1 l (by omega)).1
            -- what ends a line
            have fin : ∀ (S2 : pr_S) (G6 : mv_G), pr_md G G6 → pr_mS G6 t n S2 → S2.1 ≤ m → S1.1 ≤ S2.1 → S2.2.1 + 1 ≤ S2.1 → (G6 100 0 30 = 0 ∧ (∀ l, l < j → G6 116 0 (32 + l) = T l) ∧ ∀ l, l < j + 1 → G6 114 0 (32 + l) = mv_sp F j (S.2.1 : Int) l ∧ G6 115 0 (32 + l) = mv_sp W j (S1.2.1 : Int) l) → ∀ v : Int, v = (S2.2.1 : Int) → mv_J mm_X12_readLaw (Q (pr_if (pr_I t n S2.1 = 30059) (pr_lw (pr_I t n) kd f (j + 1) (pr_st S2) (mv_sp F j (S.2.1 : Int)) (mv_sp W j (S1.2.1 : Int)) (mv_sp T j (S2.2.1 : Int))) (.inr (1, S2.1)))) (mv_ck (32 + (j : Int)) 48 (mv_cn (ff_X12_isSign [.inr (100, 0), .inl 59] (mv_up G6 116 0 (32 + j) v)) fun r4 G4 => if r4 = 0 then mv_cn (ff_X12_errs [.inr (100, 0), .inl 1] G4) fun r5 G5 => some (.inl (r5, G5)) else mv_cn (ff_X12_reads [.inr (100, 0)] G4) fun r5 G5 => some (.inr (2, [some (.inr (100, 0)), some (.inl (mv_w ((j : Int) + 1))), none], G5)))) := by
              intro S2 G6 hc6 hS6 hk2 hk12 hz2 hF6 v hv
              subst hv
              refine mv_J.ck (by omega) ?_
              have hc7 : pr_md G (mv_up G6 116 0 (32 + j) (S2.2.1 : Int)) := hc6.up (Or.inr (Or.inr rfl)) (by omega)
              have hS7 : pr_mS (mv_up G6 116 0 (32 + j) (S2.2.1 : Int)) t n S2 := hS6.ul (Or.inr (Or.inr rfl))
              have hN7 : pr_mN (mv_up G6 116 0 (32 + j) (S2.2.1 : Int)) (j + 1) (mv_sp F j (S.2.1 : Int)) (mv_sp W j (S1.2.1 : Int)) (mv_sp T j (S2.2.1 : Int)) := by
                refine fun l hl => ⟨?_, ?_, ?_⟩
                · rw [mv_up_k (by decide)]; exact (hF6.2.2 l hl).1
                · rw [mv_up_k (by decide)]; exact (hF6.2.2 l hl).2
                · unfold mv_sp
                  by_cases e : l = j
                  · rw [if_pos e, e, mv_ups_eq]
                  · rw [if_neg e, mv_up_j (by omega)]; exact hF6.2.1 l (by omega)
              have h307 : (mv_up G6 116 0 (32 + j) (S2.2.1 : Int)) 100 0 30 = 0 := by rw [mv_up_k (by decide)]; exact hF6.1
              generalize mv_up G6 116 0 (32 + j) (S2.2.1 : Int) = G7 at hc7 hS7 hN7 h307
              rw [mv_ws (x := (j : Int) + 1) (by omega)]
              refine mv_J.ce (gx_isSign S2.1 59 (by decide) hS7.1) (mv_J.bt (fun c => ?_) (fun c => ?_))
              · rw [pr_f (show ¬ pr_I t n S2.1 = 30059 by omega)]
                exact err 1 S2.1 G7 hc7 hS7.1
              · have c : pr_I t n S2.1 = 30059 := by omega
                have hk3 : S2.1 ≠ m := fun e => by rw [e, hIm] at c; omega
                rw [pr_t c]
                refine mv_J.cn (gx_readsS hn hb (hE.md hc7) S2 hS7) (fun _ G8 h8 => mv_J.cut ?_)
                exact ih (j + 1) (pr_st S2) _ _ _ G8 (show m < S2.1 + 1 + f by omega) (hc7.tr h8.2.c.d) h8.1 (fun l hl => by rw [h8.2.1.cell 114 rfl, h8.2.1.cell 115 rfl, h8.2.1.cell 116 rfl]; exact hN7 l hl) ((h8.2.1.slot 100 30 rfl).trans h307) (show S2.1 + 1 ≤ m by omega) (show S2.2.1 ≤ S2.1 + 1 by omega) (by omega)
            refine mv_J.ce (gx_isWord S1.1 2 (by decide) hS5.1) (mv_J.bt (fun c => ?_) (fun c => ?_))
            · have c : ¬ pr_I t n S1.1 = 20002 := c
              rw [pr_f c]
              exact fin S1 _ hc5 hS5 (by omega) (Nat.le_refl _) b1.2.2.1 hF5 _ hS5.2.1
            · have c : pr_I t n S1.1 = 20002 := c
              have hk3 : S1.1 ≠ m := fun e => by rw [e, hIm] at c; omega
              rw [pr_t c]
              refine mv_J.cn (gx_readsS hn hb (hE.md hc5) S1 hS5) (fun _ G6 h6 => ?_)
              obtain ⟨hS6, d6⟩ := h6
              have hc6 : pr_md G G6 := hc5.tr d6.c.d
              refine mv_J.cn (gx_readAny hn hb (hE.md hc6) hkd hIm hm (pr_st S1) hS6 ((d6.1.slot 100 30 rfl).trans hF5.1) (show S1.1 + 1 ≤ m by omega) (show S1.2.1 ≤ S1.1 + 1 by omega)) (fun r G7 h7 => ?_)
              obtain ⟨h7, d7⟩ := h7
              have hc7 : pr_md G G7 := hc6.tr d7.d
              cases hp2 : pr_cl (pr_I t n) kd 2000 2 0 false (pr_st S1) with
              | inr e =>
                rw [hp2] at h7
                refine mv_J.t h7.1 (mv_J.ret ?_)
                show Q (.inr e) _ _
                rw [hQ]
                exact ⟨⟨rfl, h7.2⟩, hc7⟩
              | inl S2 =>
                rw [hp2] at h7
                obtain ⟨h70, hS7, h37⟩ := h7
                have b2 := pr_cl_b hIm 2000 2 0 false (pr_st S1) S2 1 (show S1.1 + 1 ≤ m by omega) (show S1.2.1 + 1 + 0 ≤ S1.1 + 1 by omega) hp2
                have e2 : (pr_st S1).1 = S1.1 + 1 := rfl
                refine mv_J.f (by omega) ?_
                exact fin S2 G7 hc7 hS7 b2.2.1 (by omega) b2.2.2.1 ⟨h37, fun l hl => by rw [d7.1.cell 116 rfl, d6.1.cell 116 rfl]; exact hF5.2.1 l hl, fun l hl => by rw [d7.1.cell 114 rfl, d6.1.cell 114 rfl, d7.1.cell 115 rfl, d6.1.cell 115 rfl]; exact hF5.2.2 l hl⟩ _ hS7.2.1
  refine mv_Kp.mono (P := Q (pr_lw (pr_I t n) kd 500 0 (0, 0, fun _ => 0) (fun _ => 0) (fun _ => 0) (fun _ => 0))) (mv_Kp.of (mv_JP.of (rg_X12_readLaw_0 G) (mv_J.cut ?_))) (fun r G' h => by rw [hQ] at h; exact h)
  exact key 500 0 (0, 0, fun _ => 0) _ _ _ G (by omega) pr_md.rf h (fun l hl => absurd hl (Nat.not_lt_zero l)) h30 (Nat.zero_le _) (Nat.le_refl _) (Nat.zero_le _)
end ML
