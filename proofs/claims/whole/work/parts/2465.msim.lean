/-! TEXT: the reference reads claims as the class does. -/
section SM
variable {G0 : mv_G} {t : Nat → Int} {n m kd : Nat}
theorem pr_cl_0 {I : Nat → Int} (f o : Nat) (S : pr_S) : pr_cl I kd (f + 1) 0 o false S = pr_if (I S.1 = 20005 ∨ I S.1 = 30040) (pr_if (8 ≤ o) (.inr (3, S.1)) (pr_if (I S.1 = 20005) (pr_bd (pr_cl I kd f 0 (o + 1) false (pr_st S)) fun S1 => .inl (pr_ad S1 20005)) (pr_bd (pr_cl I kd f 2 (o + 1) false (pr_st S)) fun S1 => pr_if (I S1.1 = 30041) (.inl (pr_st S1)) (.inr (1, S1.1))))) (pr_cp I kd S) := rfl
theorem pr_cl_s {I : Nat → Int} (f w o : Nat) (b : Bool) (S : pr_S) : pr_cl I kd (f + 1) (w + 1) o b S = pr_bd (pr_cl I kd f w o false S) fun S1 => pr_if (I S1.1 = pr_wd (w + 1)) (pr_cl I kd f (w + 1) o true (pr_st (pr_sg S1 (if b = true then pr_wd (w + 1) else 0)))) (.inl (pr_sg S1 (if b = true then pr_wd (w + 1) else 0))) := rfl
/-- how it ends with a fault -/
def pr_er (G0 : mv_G) (t : Nat → Int) (n : Nat) (e : Int × Nat) (G' : mv_G) : Prop := pr_mc G0 G' ∧ G' 100 0 33 = e.1 ∧ G' 100 0 34 = ((mv_tbg t n e.2 : Nat) : Int)
def pr_bw (b : Bool) (x : Int) (st : List Int) : List Int := if b = true then x :: st else st
theorem pr_bw_op {b : Bool} {x : Int} {st : List Int} (h : x = 10 ∨ x = 11) : pr_op (pr_bw b x st) = pr_op st ∧ pr_br (pr_bw b x st) = pr_br st ∧ (pr_bw b x st).length = st.length + (if b = true then 1 else 0) := by
  cases b
  · exact ⟨rfl, rfl, rfl⟩
  · rcases h with rfl | rfl <;> exact ⟨rfl, rfl, rfl⟩
theorem pr_sl_bw {b : Bool} {x c : Int} {st : List Int} (S : pr_S) (h : pr_nt x st) : pr_sl x c (pr_bw b x st) S = (st, pr_sg S (if b = true then c else 0)) ∨ c = 0 := by
  by_cases hc : c = 0
  · exact Or.inr hc
  · refine Or.inl ?_
    cases b
    · exact pr_sl_nt S h
    · show pr_sl x c (x :: st) S = _
      have : pr_sl x c (x :: st) S = pr_sl x c st (pr_ad S c) := if_pos rfl
      rw [this, pr_sl_nt _ h]
      have e : pr_sg S (if true = true then c else 0) = pr_ad S c := by rw [if_pos rfl]; exact if_neg hc
      rw [e]
/-- the brackets are all closed, or one is -/
theorem gx_close (P : Int → mv_G → Prop) (hn : n ≤ 400) (hE : pr_mE G0 t n kd) (b1 b2 : Bool) (st0 : List Int) (S1 S2 : pr_S) (G2 : mv_G) (h10 : pr_nt 10 st0) (h11 : pr_nt 11 st0) (hA : pr_A G0 t n (pr_bw b1 10 (pr_bw b2 11 st0)) S1 G2) (hS : S2 = pr_sg (pr_sg S1 (if b1 = true then 20004 else 0)) (if b2 = true then 20003 else 0)) (hz : S1.2.1 + (pr_bw b1 10 (pr_bw b2 11 st0)).length ≤ 400) (hl : (pr_bw b1 10 (pr_bw b2 11 st0)).length ≤ 40) (hna : pr_I t n S2.1 ≠ 20004) (hno : pr_I t n S2.1 ≠ 20003) (a1 : Int)
    (ht : a1 = 0 → ∀ G4, pr_A G0 t n st0 S2 G4 → P 0 G4)
    (hc : a1 ≠ 0 → ∀ G4, pr_A G0 t n st0 S2 G4 → mv_J mm_X12_readAny P (mv_cn (ff_X12_isSign [.inr (100, 0), .inl 41] G4) fun r4 G5 => if r4 = 0 then mv_cn (ff_X12_errs [.inr (100, 0), .inl 1] G5) fun r5 G6 => some (.inl (r5, G6)) else mv_cn (ff_X12_settles [.inr (100, 0), .inl 9] (mv_up (mv_up G5 100 0 32 (mv_w (G5 100 0 32 - 1))) 100 0 30 (mv_w ((mv_up G5 100 0 32 (mv_w (G5 100 0 32 - 1))) 100 0 30 - 1)))) fun r5 G6 => mv_cn (ff_X12_reads [.inr (100, 0)] G6) fun r6 G7 => some (.inr (9, [some (.inr (100, 0)), some (.inl (mv_w (a1 - 1))), some (.inl 0), none], G7)))) :
    mv_JP mm_X12_readAny P 9 [some (.inr (100, 0)), some (.inl a1), some (.inl 0), none] G2 := by
  have e1 : S2.1 = S1.1 := by rw [hS, pr_sg_1, pr_sg_1]
  rw [e1] at hna hno
  have l1 := (pr_bw_op (b := b1) (x := 10) (st := pr_bw b2 11 st0) (Or.inl rfl)).2.2
  have l2 := (pr_bw_op (b := b2) (x := 11) (st := st0) (Or.inr rfl)).2.2
  refine mv_JP.of (rg_X12_readAny_9 a1 0 G2) (mv_J.t rfl ?_)
  refine mv_J.ce (gx_isWord S1.1 4 (by decide) hA.2.1.1) (mv_J.bt (fun _ => ?_) (fun h => absurd h hna))
  refine mv_J.ce (gx_isWord S1.1 3 (by decide) hA.2.1.1) (mv_J.bt (fun _ => ?_) (fun h => absurd h hno))
  refine mv_J.cn (gx_settles 10 20004 (Or.inr (Or.inl ⟨rfl, rfl⟩)) _ S1 G2 hA hz hl) (fun _ G3 h3 => ?_)
  have s1 := (pr_sl_bw (b := b1) (x := 10) (c := 20004) (st := pr_bw b2 11 st0) S1 (by
    cases b2
    · exact h10
    · show (11 : Int) ≠ 10; decide)).resolve_right (by decide)
  rw [s1] at h3
  have z1 : (pr_sg S1 (if b1 = true then 20004 else 0)).2.1 = S1.2.1 + (if b1 = true then 1 else 0) := by
    rw [pr_sg_2]; cases b1 <;> rfl
  refine mv_J.cn (gx_settles 11 20003 (Or.inr (Or.inr ⟨rfl, rfl⟩)) _ _ G3 h3 (show (pr_sg S1 (if b1 = true then 20004 else 0)).2.1 + (pr_bw b2 11 st0).length ≤ 400 by omega) (show (pr_bw b2 11 st0).length ≤ 40 by omega)) (fun _ G4 h4 => ?_)
  have s2 := (pr_sl_bw (b := b2) (x := 11) (c := 20003) (st := st0) (pr_sg S1 (if b1 = true then 20004 else 0)) h11).resolve_right (by decide)
  have h4 : pr_A G0 t n (pr_sl 11 20003 (pr_bw b2 11 st0) (pr_sg S1 (if b1 = true then 20004 else 0))).1 (pr_sl 11 20003 (pr_bw b2 11 st0) (pr_sg S1 (if b1 = true then 20004 else 0))).2 G4 := h4
  rw [s2, ← hS] at h4
  exact mv_J.i (fun h => mv_J.ret (ht h G4 h4)) (fun h => hc h G4 h4)
set_option maxHeartbeats 4000000 in
theorem gx_any (P : Int → mv_G → Prop) (hn : n ≤ 400) (hb : ∀ j, j < n → 0 ≤ t j ∧ t j ≤ 255) (hE : pr_mE G0 t n kd) (hkd : kd ≤ 1) (hIm : pr_I t n m = -2) (hm : m ≤ n) : ∀ f : Nat,
    (∀ (o : Nat) (S : pr_S) (st : List Int) (G1 : mv_G), pr_A G0 t n st S G1 → S.1 ≤ m → S.2.1 + st.length ≤ S.1 → pr_op st = o → o ≤ 8 → st.length ≤ 3 * o + 2 → 3 * (m - S.1) + 1 ≤ f →
      (∀ e, pr_cl (pr_I t n) kd f 0 o false S = .inr e → ∀ G', pr_er G0 t n e G' → P (-1) G') →
      (∀ S1, pr_cl (pr_I t n) kd f 0 o false S = .inl S1 → ∀ G2, pr_A G0 t n (pr_sl 9 20005 st S1).1 (pr_sl 9 20005 st S1).2 G2 → mv_JP mm_X12_readAny P 9 [some (.inr (100, 0)), some (.inl ((pr_br st : Nat) : Int)), some (.inl 0), none] G2) →
      mv_JP mm_X12_readAny P 9 [some (.inr (100, 0)), some (.inl ((pr_br st : Nat) : Int)), some (.inl 1), none] G1) ∧
    (∀ (o : Nat) (b : Bool) (S : pr_S) (st : List Int) (G1 : mv_G), pr_A G0 t n (pr_bw b 10 st) S G1 → pr_nt 9 st → pr_nt 10 st → S.1 ≤ m → S.2.1 + (pr_bw b 10 st).length ≤ S.1 → pr_op st = o → o ≤ 8 → st.length ≤ 3 * o + 1 → 3 * (m - S.1) + 2 ≤ f →
      (∀ e, pr_cl (pr_I t n) kd f 1 o b S = .inr e → ∀ G', pr_er G0 t n e G' → P (-1) G') →
      (∀ S2, pr_cl (pr_I t n) kd f 1 o b S = .inl S2 → pr_I t n S2.1 ≠ 20004 → ∀ b1 S1 G2, S2 = pr_sg S1 (if b1 = true then 20004 else 0) → pr_A G0 t n (pr_bw b1 10 st) S1 G2 → mv_JP mm_X12_readAny P 9 [some (.inr (100, 0)), some (.inl ((pr_br st : Nat) : Int)), some (.inl 0), none] G2) →
      mv_JP mm_X12_readAny P 9 [some (.inr (100, 0)), some (.inl ((pr_br st : Nat) : Int)), some (.inl 1), none] G1) ∧
    (∀ (o : Nat) (b : Bool) (S : pr_S) (st : List Int) (G1 : mv_G), pr_A G0 t n (pr_bw b 11 st) S G1 → pr_nt 9 st → pr_nt 10 st → pr_nt 11 st → S.1 ≤ m → S.2.1 + (pr_bw b 11 st).length ≤ S.1 → pr_op st = o → o ≤ 8 → st.length ≤ 3 * o → 3 * (m - S.1) + 3 ≤ f →
      (∀ e, pr_cl (pr_I t n) kd f 2 o b S = .inr e → ∀ G', pr_er G0 t n e G' → P (-1) G') →
      (∀ S2, pr_cl (pr_I t n) kd f 2 o b S = .inl S2 → pr_I t n S2.1 ≠ 20004 → pr_I t n S2.1 ≠ 20003 → ∀ b1 b2 S1 G2, S2 = pr_sg (pr_sg S1 (if b1 = true then 20004 else 0)) (if b2 = true then 20003 else 0) → pr_A G0 t n (pr_bw b1 10 (pr_bw b2 11 st)) S1 G2 → mv_JP mm_X12_readAny P 9 [some (.inr (100, 0)), some (.inl ((pr_br st : Nat) : Int)), some (.inl 0), none] G2) →
      mv_JP mm_X12_readAny P 9 [some (.inr (100, 0)), some (.inl ((pr_br st : Nat) : Int)), some (.inl 1), none] G1) := by
  intro f
  induction f with
  | zero => exact ⟨fun o S st G1 _ _ _ _ _ _ h => by omega, fun o b S st G1 _ _ _ _ _ _ _ _ h => by omega, fun o b S st G1 _ _ _ _ _ _ _ _ _ h => by omega⟩
  | succ f ih =>
    obtain ⟨ih0, ih1, ih2⟩ := ih
    refine ⟨?_, ?_, ?_⟩
    · intro o S st G1 hA hk hz ho ho8 hl hf hE1 hC
      have hbr := pr_br_le st
      have h30 : G1 100 0 30 = (o : Int) := by rw [hA.2.2.2.2, ho]
      have hEA := hE.mc hA.1
      rw [pr_cl_0] at hE1 hC
      refine mv_JP.of (rg_X12_readAny_9 _ 1 G1) (mv_J.f (by decide) ?_)
      -- a fault at eight
      have full : (pr_I t n S.1 = 20005 ∨ pr_I t n S.1 = 30040) → G1 100 0 30 = 8 → mv_J mm_X12_readAny P (mv_cn (ff_X12_errs [.inr (100, 0), .inl 3] G1) fun r1 G1 => some (.inl (r1, G1))) := fun h h8 => by
        have h8 : 8 ≤ o := by omega
        rw [pr_t h, pr_t h8] at hE1
        refine mv_J.cn (gx_errs S.1 hA.2.1.1 3) (fun r G2 h2 => mv_J.ret ?_)
        obtain ⟨⟨rfl, g2, g3⟩, c2⟩ := h2
        exact hE1 _ rfl G2 ⟨hA.1.tr c2.c, g2, g3⟩
      have hop : pr_mc G0 (mv_up G1 100 0 30 (mv_w (G1 100 0 30 + 1))) := hA.1.up rfl
      refine mv_J.ce (gx_isWord S.1 5 (by decide) hA.2.1.1) (mv_J.bt (fun hn5 => ?_) (fun h5 => ?_))
      · have hn5 : ¬ pr_I t n S.1 = 20005 := hn5
        have e0 : mv_b (pr_I t n S.1 = 20000 + ((mv_pm 5 : Nat) : Int)) = 0 := mv_b0 hn5
        rw [e0]
        refine mv_J.ce (gx_isSign S.1 40 (by decide) hA.2.1.1) (mv_J.bt (fun hn40 => ?_) (fun h40 => ?_))
        · -- a comparison
          have hno : ¬ (pr_I t n S.1 = 20005 ∨ pr_I t n S.1 = 30040) := fun h => h.elim hn5 (fun h => hn40 (by omega))
          rw [pr_f hno] at hE1 hC
          refine mv_J.cn (gx_readCompared hn hb hEA hkd hIm hm S hA.2.1 hk (by omega)) (fun r G2 h2 => ?_)
          obtain ⟨h2, c2⟩ := h2
          cases hp : pr_cp (pr_I t n) kd S with
          | inr e =>
            rw [hp] at h2
            exact mv_J.t h2.1 (mv_J.ret (hE1 e hp G2 ⟨hA.1.tr c2.c, h2.2⟩))
          | inl S1 =>
            rw [hp] at h2
            obtain ⟨h20, hS2⟩ := h2
            have b1 : S1.2.1 + st.length ≤ 400 := by
              have hfull : pr_cl (pr_I t n) kd 1 0 o false S = .inl S1 := by rw [pr_cl_0, pr_f hno]; exact hp
              have := pr_cl_b hIm 1 0 o false S S1 st.length hk (by rw [if_neg (c := false = true ∧ 0 ≠ 0) (fun h => by cases h.1)]; omega) hfull
              omega
            refine mv_J.f (by omega) (mv_J.cn (gx_settles 9 20005 (Or.inl ⟨rfl, rfl⟩) st S1 G2 (hA.mb c2 hS2) b1 (by omega)) (fun _ G3 h3 => mv_J.cut ?_))
            exact hC S1 hp G3 h3
        · -- a bracket
          have hor : pr_I t n S.1 = 20005 ∨ pr_I t n S.1 = 30040 := Or.inr (by omega)
          have hkm : S.1 ≠ m := fun e => by rw [e, hIm] at hor; omega
          refine mv_J.i (fun h8 => full hor h8) (fun h8 => mv_J.t rfl (mv_J.t rfl ?_))
          have ho7 : o < 8 := by omega
          rw [pr_t hor, pr_f (show ¬ 8 ≤ o by omega), pr_f hn5] at hE1 hC
          rw [h30, mv_ws (x := (o : Int) + 1) (by omega), mv_ws (x := ((pr_br st : Nat) : Int) + 1) (by omega)]
          rw [h30, mv_ws (x := (o : Int) + 1) (by omega)] at hop
          have hA' : pr_A G0 t n st S (mv_up G1 100 0 30 ((o : Int) + 1)) → True := fun _ => True.intro
          -- the heap with one more open
          have hw : mv_Kp (ff_X12_waits [.inr (100, 0), .inl 12] (mv_up G1 100 0 30 ((o : Int) + 1))) (fun _ G2 => pr_A G0 t n (12 :: st) S G2) := by
            obtain ⟨a1, a2, a3, a4, a5⟩ := hA
            refine mv_Kp.of (mv_JP.of (rg_X12_waits_0 12 _) ?_)
            rw [mv_up_k (by decide : (100 : Nat) ≠ 119), mv_up_j (show (32 : Nat) ≠ 30 by decide), a3, Int.toNat_natCast, mv_ws (by omega)]
            refine mv_J.ck (by omega) (mv_J.ret ⟨(hop.up rfl).up rfl, ((a2.up rfl).up rfl).up rfl, ?_, ⟨?_, ?_⟩, ?_⟩)
            · rw [mv_ups_eq]; rfl
            · rw [mv_up_k (by decide), mv_ups_eq]
            · refine pr_pk.cg st.length (fun j hj => ?_) st (Nat.le_refl _) a4
              rw [mv_up_k (by decide), mv_up_j (by omega), mv_up_k (by decide)]
            · rw [mv_up_j (by decide), mv_up_k (by decide), mv_ups_eq]
              show (o : Int) + 1 = ((pr_op st + 1 : Nat) : Int)
              omega
          refine mv_J.cn hw (fun _ G2 hA2 => ?_)
          refine mv_J.cn (gx_readsS hn hb (hE.mc hA2.1) S hA2.2.1) (fun _ G3 h3 => mv_J.cut ?_)
          have hA3 : pr_A G0 t n (12 :: st) (pr_st S) G3 := hA2.mb h3.2 h3.1
          have := ih2 (o + 1) false (pr_st S) (12 :: st) G3 hA3 (show (12 : Int) ≠ 9 by decide) (show (12 : Int) ≠ 10 by decide) (show (12 : Int) ≠ 11 by decide) (show S.1 + 1 ≤ m by omega) (show S.2.1 + (st.length + 1) ≤ S.1 + 1 by omega) (show pr_op st + 1 = o + 1 by omega) (by omega) (show st.length + 1 ≤ 3 * (o + 1) by omega) (show 3 * (m - (S.1 + 1)) + 3 ≤ f by omega) (fun e he G' hG' => hE1 e (by rw [he]; rfl) G' hG') (fun S2 hS2 hna hno b1 b2 S1 G4 hSS hA4 => ?_)
          · exact this
          · have bb := pr_cl_b hIm f 2 (o + 1) false (pr_st S) S2 (st.length + 1) (show S.1 + 1 ≤ m by omega) (show S.2.1 + (st.length + 1) + 0 ≤ S.1 + 1 by omega) hS2
            have e1 : (pr_st S).1 = S.1 + 1 := rfl
            have l1 := (pr_bw_op (b := b1) (x := 10) (st := pr_bw b2 11 (12 :: st)) (Or.inl rfl)).2.2
            have l2 := (pr_bw_op (b := b2) (x := 11) (st := 12 :: st) (Or.inr rfl)).2.2
            have l3 : (12 :: st).length = st.length + 1 := rfl
            have z2 : S2.2.1 = S1.2.1 + (if b1 = true then 1 else 0) + (if b2 = true then 1 else 0) := by
              rw [hSS, pr_sg_2, pr_sg_2]
              cases b1 <;> cases b2 <;> rfl
            rw [hS2] at hE1 hC
            refine gx_close P hn hE b1 b2 (12 :: st) S1 S2 G4 (show (12 : Int) ≠ 10 by decide) (show (12 : Int) ≠ 11 by decide) hA4 hSS (by omega) (by
              have : (if b1 = true then 1 else 0) ≤ 1 := by split <;> omega
              have : (if b2 = true then 1 else 0) ≤ 1 := by split <;> omega
              omega) hna hno _ (fun h => ?_) (fun _ G5 hA5 => ?_)
            · exfalso
              have : pr_br (12 :: st) = pr_br st + 1 := rfl
              omega
            · refine mv_J.ce (gx_isSign S2.1 41 (by decide) hA5.2.1.1) (mv_J.bt (fun hn41 => ?_) (fun h41 => ?_))
              · have hn41 : ¬ pr_I t n S2.1 = 30041 := by omega
                refine mv_J.cn (gx_errs S2.1 hA5.2.1.1 1) (fun r G6 h6 => mv_J.ret ?_)
                obtain ⟨⟨rfl, g2, g3⟩, c2⟩ := h6
                exact hE1 (1, S2.1) (pr_f hn41) G6 ⟨hA5.1.tr c2.c, g2, g3⟩
              · have h41 : pr_I t n S2.1 = 30041 := by omega
                obtain ⟨q1, q2, q3, q4, q5⟩ := hA5
                have q3 : G5 100 0 32 = ((st.length + 1 : Nat) : Int) := q3
                have q5 : G5 100 0 30 = ((pr_op st + 1 : Nat) : Int) := q5
                rw [q3, mv_ws (x := ((st.length + 1 : Nat) : Int) - 1) (by omega), mv_up_j (show (30 : Nat) ≠ 32 by decide), q5, mv_ws (x := ((pr_op st + 1 : Nat) : Int) - 1) (by omega)]
                have hA6 : pr_A G0 t n st S2 (mv_up (mv_up G5 100 0 32 (((st.length + 1 : Nat) : Int) - 1)) 100 0 30 (((pr_op st + 1 : Nat) : Int) - 1)) := by
                  refine ⟨(q1.up rfl).up rfl, (q2.up rfl).up rfl, ?_, ?_, ?_⟩
                  · rw [mv_up_j (by decide), mv_ups_eq]; omega
                  · exact pr_pk.cg st.length (fun j _ => by rw [mv_up_k (by decide), mv_up_k (by decide)]) st (Nat.le_refl _) q4.2
                  · rw [mv_ups_eq]; omega
                refine mv_J.cn (gx_settles 9 20005 (Or.inl ⟨rfl, rfl⟩) st S2 _ hA6 (by omega) (by omega)) (fun _ G6 hA7 => ?_)
                refine mv_J.cn (gx_readsS hn hb (hE.mc hA7.1) _ hA7.2.1) (fun _ G7 h7 => mv_J.cut ?_)
                have hA8 := hA7.mb h7.2 h7.1
                have hbr2 : pr_br (12 :: st) = pr_br st + 1 := rfl
                rw [hbr2, mv_ws (by omega), show ((pr_br st + 1 : Nat) : Int) - 1 = ((pr_br st : Nat) : Int) by omega]
                refine hC (pr_st S2) (pr_t h41) G7 ?_
                rw [pr_sl_st]
                exact hA8
      · -- not
        have h5 : pr_I t n S.1 = 20005 := h5
        have hor : pr_I t n S.1 = 20005 ∨ pr_I t n S.1 = 30040 := Or.inl h5
        have hkm : S.1 ≠ m := fun e => by rw [e, hIm] at hor; omega
        have e1b : mv_b (pr_I t n S.1 = 20000 + ((mv_pm 5 : Nat) : Int)) = 1 := mv_b1 h5
        rw [e1b]
        refine mv_J.i (fun h8 => full hor h8) (fun h8 => mv_J.f (by decide) (mv_J.f (by decide) ?_))
        have ho7 : o < 8 := by omega
        rw [pr_t hor, pr_f (show ¬ 8 ≤ o by omega), pr_t h5] at hE1 hC
        rw [h30, mv_ws (x := (o : Int) + 1) (by omega)]
        rw [h30, mv_ws (x := (o : Int) + 1) (by omega)] at hop
        have hw : mv_Kp (ff_X12_waits [.inr (100, 0), .inl 9] (mv_up G1 100 0 30 ((o : Int) + 1))) (fun _ G2 => pr_A G0 t n (9 :: st) S G2) := by
          obtain ⟨a1, a2, a3, a4, a5⟩ := hA
          refine mv_Kp.of (mv_JP.of (rg_X12_waits_0 9 _) ?_)
          rw [mv_up_k (by decide : (100 : Nat) ≠ 119), mv_up_j (show (32 : Nat) ≠ 30 by decide), a3, Int.toNat_natCast, mv_ws (by omega)]
          refine mv_J.ck (by omega) (mv_J.ret ⟨(hop.up rfl).up rfl, ((a2.up rfl).up rfl).up rfl, ?_, ⟨?_, ?_⟩, ?_⟩)
          · rw [mv_ups_eq]; rfl
          · rw [mv_up_k (by decide), mv_ups_eq]
          · refine pr_pk.cg st.length (fun j hj => ?_) st (Nat.le_refl _) a4
            rw [mv_up_k (by decide), mv_up_j (by omega), mv_up_k (by decide)]
          · rw [mv_up_j (by decide), mv_up_k (by decide), mv_ups_eq]
            show (o : Int) + 1 = ((pr_op st + 1 : Nat) : Int)
            omega
        refine mv_J.cn hw (fun _ G2 hA2 => ?_)
        refine mv_J.cn (gx_readsS hn hb (hE.mc hA2.1) S hA2.2.1) (fun _ G3 h3 => mv_J.cut ?_)
        have hA3 : pr_A G0 t n (9 :: st) (pr_st S) G3 := hA2.mb h3.2 h3.1
        have := ih0 (o + 1) (pr_st S) (9 :: st) G3 hA3 (show S.1 + 1 ≤ m by omega) (show S.2.1 + (st.length + 1) ≤ S.1 + 1 by omega) (show pr_op st + 1 = o + 1 by omega) (by omega) (show st.length + 1 ≤ 3 * (o + 1) + 2 by omega) (show 3 * (m - (S.1 + 1)) + 1 ≤ f by omega) (fun e he G' hG' => hE1 e (by rw [he]; rfl) G' hG') (fun S2 hS2 G4 hA4 => ?_)
        · exact this
        · have es : pr_sl 9 20005 (9 :: st) S2 = pr_sl 9 20005 st (pr_ad S2 20005) := if_pos rfl
          rw [es] at hA4
          exact hC (pr_ad S2 20005) (by rw [hS2]; rfl) G4 hA4
    · intro o b S st G1 hA h9 h10 hk hz ho ho8 hl hf hE1 hC
      obtain ⟨w1, w2, w3⟩ := pr_bw_op (b := b) (x := 10) (st := st) (Or.inl rfl)
      have hbr := pr_br_le st
      rw [pr_cl_s] at hE1 hC
      have hw : pr_wd (0 + 1) = 20004 := rfl
      rw [hw] at hE1 hC
      have bl : (if b = true then 1 else 0) ≤ 1 := by split <;> omega
      have := ih0 o S (pr_bw b 10 st) G1 hA hk hz (by omega) ho8 (by omega) (by omega) (fun e he G' hG' => hE1 e (by rw [he]; rfl) G' hG') (fun S1 hS1 G2 hA2 => ?_)
      · rw [w2] at this; exact this
      · rw [pr_sl_nt S1 (by
          cases b
          · exact h9
          · show (10 : Int) ≠ 9; decide)] at hA2
        have hA2 : pr_A G0 t n (pr_bw b 10 st) S1 G2 := hA2
        have bb := pr_cl_b hIm f 0 o false S S1 (pr_bw b 10 st).length hk (by rw [if_neg (c := false = true ∧ 0 ≠ 0) (fun h => by cases h.1)]; omega) hS1
        rw [hS1] at hE1 hC
        rw [w2]
        have z2 : (pr_sg S1 (if b = true then 20004 else 0)).2.1 = S1.2.1 + (if b = true then 1 else 0) := by
          rw [pr_sg_2]; cases b <;> rfl
        have y2 : (pr_sg S1 (if b = true then 20004 else 0)).1 = S1.1 := pr_sg_1
        by_cases c : pr_I t n S1.1 = 20004
        · have hkm : S1.1 ≠ m := fun e => by rw [e, hIm] at c; omega
          refine mv_JP.of (rg_X12_readAny_9 _ 0 G2) (mv_J.t rfl ?_)
          refine mv_J.ce (gx_isWord S1.1 4 (by decide) hA2.2.1.1) (mv_J.bt (fun h => absurd c h) (fun _ => ?_))
          refine mv_J.cn (gx_settles 10 20004 (Or.inr (Or.inl ⟨rfl, rfl⟩)) _ S1 G2 hA2 (by omega) (by omega)) (fun _ G3 h3 => ?_)
          have s1 := (pr_sl_bw (b := b) (x := 10) (c := 20004) (st := st) S1 h10).resolve_right (by decide)
          rw [s1] at h3
          have h3 : pr_A G0 t n st (pr_sg S1 (if b = true then 20004 else 0)) G3 := h3
          refine mv_J.cn (gx_waits h3 (by omega) 10) (fun _ G4 h4 => ?_)
          have hA4 : pr_A G0 t n (pr_bw true 10 st) (pr_sg S1 (if b = true then 20004 else 0)) G4 := h4
          refine mv_J.cn (gx_readsS hn hb (hE.mc hA4.1) _ hA4.2.1) (fun _ G5 h5 => mv_J.cut ?_)
          have hA5 := hA4.mb h5.2 h5.1
          refine ih1 o true (pr_st (pr_sg S1 (if b = true then 20004 else 0))) st G5 hA5 h9 h10 (show (pr_sg S1 (if b = true then 20004 else 0)).1 + 1 ≤ m by omega) (show (pr_sg S1 (if b = true then 20004 else 0)).2.1 + (st.length + 1) ≤ (pr_sg S1 (if b = true then 20004 else 0)).1 + 1 by omega) ho ho8 hl (show 3 * (m - ((pr_sg S1 (if b = true then 20004 else 0)).1 + 1)) + 2 ≤ f by omega) (fun e he G' hG' => hE1 e ((pr_t c).trans he) G' hG') (fun S2 hS2 hna b1 S3 G6 hSS hA6 => hC S2 ((pr_t c).trans hS2) hna b1 S3 G6 hSS hA6)
        · exact hC _ (pr_f c) (by rw [y2]; exact c) b S1 G2 rfl hA2
    · intro o b S st G1 hA h9 h10 h11 hk hz ho ho8 hl hf hE1 hC
      obtain ⟨w1, w2, w3⟩ := pr_bw_op (b := b) (x := 11) (st := st) (Or.inr rfl)
      have hbr := pr_br_le st
      rw [pr_cl_s] at hE1 hC
      have hw : pr_wd (1 + 1) = 20003 := rfl
      rw [hw] at hE1 hC
      have bl : (if b = true then 1 else 0) ≤ 1 := by split <;> omega
      have nt : ∀ x : Int, x ≠ 11 → pr_nt x st → pr_nt x (pr_bw b 11 st) := fun x hx h => by
        cases b
        · exact h
        · show (11 : Int) ≠ x; exact fun e => hx e.symm
      have := ih1 o false S (pr_bw b 11 st) G1 hA (nt 9 (by decide) h9) (nt 10 (by decide) h10) hk hz (by omega) ho8 (by omega) (by omega) (fun e he G' hG' => hE1 e (by rw [he]; rfl) G' hG') (fun S1 hS1 hna b1 S3 G2 hSS hA2 => ?_)
      · rw [w2] at this; exact this
      · have bb := pr_cl_b hIm f 1 o false S S1 (pr_bw b 11 st).length hk (by rw [if_neg (c := false = true ∧ 1 ≠ 0) (fun h => by cases h.1)]; omega) hS1
        rw [hS1] at hE1 hC
        rw [w2]
        have l1 := (pr_bw_op (b := b1) (x := 10) (st := pr_bw b 11 st) (Or.inl rfl)).2.2
        have bl1 : (if b1 = true then 1 else 0) ≤ 1 := by split <;> omega
        have z1 : S1.2.1 = S3.2.1 + (if b1 = true then 1 else 0) := by
          rw [hSS, pr_sg_2]; cases b1 <;> rfl
        have y1 : S1.1 = S3.1 := by rw [hSS]; exact pr_sg_1
        have z2 : (pr_sg S1 (if b = true then 20003 else 0)).2.1 = S1.2.1 + (if b = true then 1 else 0) := by
          rw [pr_sg_2]; cases b <;> rfl
        have y2 : (pr_sg S1 (if b = true then 20003 else 0)).1 = S1.1 := pr_sg_1
        by_cases c : pr_I t n S1.1 = 20003
        · have hkm : S1.1 ≠ m := fun e => by rw [e, hIm] at c; omega
          refine mv_JP.of (rg_X12_readAny_9 _ 0 G2) (mv_J.t rfl ?_)
          refine mv_J.ce (gx_isWord S3.1 4 (by decide) hA2.2.1.1) (mv_J.bt (fun _ => ?_) (fun h => absurd (show pr_I t n S1.1 = 20004 by rw [y1]; exact h) hna))
          refine mv_J.ce (gx_isWord S3.1 3 (by decide) hA2.2.1.1) (mv_J.bt (fun h => absurd (show pr_I t n S3.1 = 20003 by rw [← y1]; exact c) h) (fun _ => ?_))
          refine mv_J.cn (gx_settles 10 20004 (Or.inr (Or.inl ⟨rfl, rfl⟩)) _ S3 G2 hA2 (by omega) (by omega)) (fun _ G3 h3 => ?_)
          have s1 := (pr_sl_bw (b := b1) (x := 10) (c := 20004) (st := pr_bw b 11 st) S3 (nt 10 (by decide) h10)).resolve_right (by decide)
          rw [s1, ← hSS] at h3
          have h3 : pr_A G0 t n (pr_bw b 11 st) S1 G3 := h3
          refine mv_J.cn (gx_settles 11 20003 (Or.inr (Or.inr ⟨rfl, rfl⟩)) _ S1 G3 h3 (by omega) (by omega)) (fun _ G4 h4 => ?_)
          have s2 := (pr_sl_bw (b := b) (x := 11) (c := 20003) (st := st) S1 h11).resolve_right (by decide)
          rw [s2] at h4
          have h4 : pr_A G0 t n st (pr_sg S1 (if b = true then 20003 else 0)) G4 := h4
          refine mv_J.cn (gx_waits h4 (by omega) 11) (fun _ G5 h5 => ?_)
          have hA5 : pr_A G0 t n (pr_bw true 11 st) (pr_sg S1 (if b = true then 20003 else 0)) G5 := h5
          refine mv_J.cn (gx_readsS hn hb (hE.mc hA5.1) _ hA5.2.1) (fun _ G6 h6 => mv_J.cut ?_)
          have hA6 := hA5.mb h6.2 h6.1
          refine ih2 o true (pr_st (pr_sg S1 (if b = true then 20003 else 0))) st G6 hA6 h9 h10 h11 (show (pr_sg S1 (if b = true then 20003 else 0)).1 + 1 ≤ m by omega) (show (pr_sg S1 (if b = true then 20003 else 0)).2.1 + (st.length + 1) ≤ (pr_sg S1 (if b = true then 20003 else 0)).1 + 1 by omega) ho ho8 hl (show 3 * (m - ((pr_sg S1 (if b = true then 20003 else 0)).1 + 1)) + 3 ≤ f by omega) (fun e he G' hG' => hE1 e ((pr_t c).trans he) G' hG') (fun S2 hS2 hna2 hno2 b3 b4 S5 G7 hSS2 hA7 => hC S2 ((pr_t c).trans hS2) hna2 hno2 b3 b4 S5 G7 hSS2 hA7)
        · exact hC _ (pr_f c) (by rw [y2]; exact hna) (by rw [y2]; exact c) b1 b S3 G2 (by rw [hSS]) hA2
end SM
