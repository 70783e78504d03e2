/-! What the law of sitting says of an inch, both sides, and the best inch. -/
theorem mv_up_l {G : mv_G} {k m : Nat} {v : Int} {f : Nat → Int} {l : List Nat} (h : ∀ j ∈ l, G k 0 j = f j) (e : v = f m) : ∀ j ∈ m :: l, (mv_up G k 0 m v) k 0 j = f j := by
  intro j hj
  rw [mv_up_at]
  by_cases h1 : j = m
  · rw [if_pos h1, h1]; exact e
  · rw [if_neg h1]
    rcases List.mem_cons.mp hj with h2 | h2
    · exact absurd h2 h1
    · exact h j h2
theorem mv_qs_l : ∀ j, j < 12 → mv_qs j = true → j ∈ [9, 8, 7, 6, 5, 10, 4, 3, 2, 1, 0] := by decide
theorem mv_qs_m : ∀ j, j < 12 → mv_qs j = true → j ∈ [10, 9, 8, 7, 6, 5, 4, 3, 2, 1, 0] := by decide
section BE
variable {G : mv_G} {a : mv_a} {n : Nat} {r : mv_a} {w k b g : Int}
/-! the reference -/
theorem gx_leftOf (h : mv_mR G n r) (hn : n ≤ 60) (x : Int) : ff_X12_leftOf [.inr (100, 0), .inl x] G = some (((mv_gp r n x : Nat) : Int), G) := by
  refine mv_Kp.eq (mv_Kp.of (mv_JP.of (rg_X12_leftOf_0 x G) (mv_J.cut ?_)))
  have key : ∀ q i : Nat, i + q = n → mv_JP mm_X12_leftOf (fun s G' => s = ((mv_lo (r 0) x q i : Nat) : Int) ∧ G' = G) 2 [some (.inr (100, 0)), some (.inl x), some (.inl (i : Int))] G := by
    intro q
    induction q with
    | zero =>
      intro i hq
      refine mv_JP.of (rg_X12_leftOf_2 x i G) ?_
      rw [h.1]
      exact mv_J.f (by omega) (mv_J.ret ⟨rfl, rfl⟩)
    | succ q ih =>
      intro i hq
      refine mv_JP.of (rg_X12_leftOf_2 x i G) ?_
      have e : G 123 0 i = r 0 i := h.2 0 (by decide) i (by omega)
      rw [h.1, Int.toNat_natCast, e, mv_ws (by omega)]
      unfold mv_lo
      refine mv_J.t (by omega) (mv_J.ck (by omega) (mv_J.i (fun h1 => mv_J.cut ?_) (fun h1 => mv_J.ret ⟨by rw [if_neg h1], rfl⟩)))
      rw [if_pos h1]
      exact ih (i + 1) (by omega)
  exact key n 0 (by omega)
theorem gx_isFriend (h : mv_mR G n r) (hA : mv_mA G w k b g) (hn : n ≤ 60) (i : Nat) (hi : i < n) : ff_X12_isFriend [.inr (100, 0), .inl i] G = some (mv_b (0 < g ∧ r 3 i = g), G) := by
  refine mv_Kp.eq (mv_Kp.of (mv_JP.of (rg_X12_isFriend_0 i G) ?_))
  have e : G 126 0 i = r 3 i := h.2 3 (by decide) i hi
  rw [hA.2.2.2, Int.toNat_natCast, e]
  exact mv_J.i (fun h1 => mv_J.ck (by omega) (mv_J.i (fun h2 => mv_J.r0 (Or.inr rfl) ⟨(mv_b1 ⟨h1, h2⟩).symm, rfl⟩) (fun h2 => mv_J.r0 (Or.inl rfl) ⟨(mv_b0 (fun h3 => h2 h3.2)).symm, rfl⟩))) (fun h1 => mv_J.r0 (Or.inl rfl) ⟨(mv_b0 (fun h3 => h1 h3.1)).symm, rfl⟩)
theorem gx_canSit (hB : mv_mB G a) (hi : mv_iB a) (h : mv_mR G n r) (hA : mv_mA G w k b g) (hr : mv_rok (a 0 0) n r) (ha : mv_aok w k b g) (x : Int) : ff_X12_canSit [.inr (100, 0), .inl x] G = some (mv_b (mv_pl a n r w k b g x), G) := by
  have hle := mv_gp_le (r := r) (n := n) (x := x)
  have hn := hr.1
  have b1 := hi.1
  obtain ⟨a1, a2, a3, a4⟩ := ha
  have hfar : mv_pl a n r w k b g x → x + w + b ≤ a 0 0 := fun hp => by
    have h1 := hp.2.2
    unfold mv_hg at h1
    split at h1
    · next h2 =>
      obtain ⟨r1, r2, r3, r4⟩ := hr.2 _ h2
      have := mv_ap_b (g1 := g) (g2 := r 3 (mv_gp r n x)) a2 r2
      omega
    · omega
  refine mv_Kp.eq (mv_Kp.of (mv_JP.of (rg_X12_canSit_0 x G) (mv_J.i (fun h1 => mv_J.r0 (Or.inl rfl) ⟨(mv_b0 (fun h2 => by have := h2.1.1; omega)).symm, rfl⟩) (fun h1 => mv_J.ce (gx_length hB hi) ?_))))
  rw [hA.1, hA.2.2.1, mv_ws (x := a 0 0 - w) (by omega), mv_ws (x := a 0 0 - w - b) (by omega)]
  refine mv_J.i (fun h2 => mv_J.r0 (Or.inl rfl) ⟨(mv_b0 (fun h3 => by have := hfar h3; omega)).symm, rfl⟩) (fun h2 => mv_J.ce (gx_isOverRest hB hi x w (by omega) (by omega) (by omega)) (mv_J.bt (fun h3 => ?_) (fun h3 => mv_J.r0 (Or.inl rfl) ⟨(mv_b0 (fun h4 => h3 h4.1)).symm, rfl⟩)))
  have hcl : mv_clr a x w := Classical.byContradiction h3
  refine mv_J.ce (gx_leftOf h hn x) ?_
  unfold mv_pl mv_lw mv_hg
  rw [h.1, hA.1, hA.2.1, hA.2.2.1, hA.2.2.2, mv_ws (x := x + w) (by omega), mv_ws (x := x + w + b) (by omega)]
  generalize mv_gp r n x = gp at hle
  have behind : ∀ (P : Prop), (P → x ≤ (if gp < n then r 0 gp - mv_ap k g (r 2 gp) (r 3 gp) else a 0 0) - w - b → False) → True := fun _ _ => trivial
  have tail : ∀ (c : Prop), c → mv_J mm_X12_canSit (fun a_1 b_1 => a_1 = mv_b (mv_clr a x w ∧ c ∧ x ≤ (if gp < n then r 0 gp - mv_ap k g (r 2 gp) (r 3 gp) else a 0 0) - w - b) ∧ b_1 = G) (if (gp : Int) = (n : Int) then mv_rzc 0 1 1 (some (.inl (1, G))) else mv_ck gp 64 (mv_ck gp 64 (mv_ck gp 64 (mv_cn (ff_X12_apartOf [.inr (100, 0), .inl k, .inl g, .inl (G 125 0 (gp : Int).toNat), .inl (G 126 0 (gp : Int).toNat)] G) fun r4 G4 => if mv_w (G 123 0 (gp : Int).toNat - (x + w + b)) < r4 then mv_rzc 0 1 0 (some (.inl (0, G4))) else mv_rzc 0 1 1 (some (.inl (1, G4))))))) := by
    intro c hc
    refine mv_J.i (fun h4 => mv_J.r0 (Or.inr rfl) ⟨(mv_b1 ⟨hcl, hc, by rw [if_neg (by omega)]; omega⟩).symm, rfl⟩) (fun h4 => mv_J.ck (by omega) (mv_J.ck (by omega) (mv_J.ck (by omega) ?_)))
    obtain ⟨r1, r2, r3, r4⟩ := hr.2 gp (by omega)
    have ab := mv_ap_b (g1 := g) (g2 := r 3 gp) a2 r2
    have e0 : G 123 0 gp = r 0 gp := h.2 0 (by decide) gp (by omega)
    have e2 : G 125 0 gp = r 2 gp := h.2 2 (by decide) gp (by omega)
    have e3 : G 126 0 gp = r 3 gp := h.2 3 (by decide) gp (by omega)
    rw [Int.toNat_natCast, e0, e2, e3, mv_ws (by omega)]
    exact mv_J.ce (gx_apartOf G _ _ _ _) (mv_J.i (fun h5 => mv_J.r0 (Or.inl rfl) ⟨(mv_b0 (fun h6 => by have := h6.2.2; rw [if_pos (by omega)] at this; omega)).symm, rfl⟩) (fun h5 => mv_J.r0 (Or.inr rfl) ⟨(mv_b1 ⟨hcl, hc, by rw [if_pos (by omega)]; omega⟩).symm, rfl⟩))
  refine mv_J.i (fun h4 => ?_) (fun h4 => ?_)
  · have e0 : (gp : Int) - 1 = ((gp - 1 : Nat) : Int) := by omega
    rw [mv_ws (x := (gp : Int) - 1) (by omega), e0, Int.toNat_natCast]
    refine mv_J.ck (by omega) (mv_J.ck (by omega) (mv_J.ck (by omega) ?_))
    obtain ⟨r1, r2, r3, r4⟩ := hr.2 (gp - 1) (by omega)
    have ab := mv_ap_b (g1 := g) (g2 := r 3 (gp - 1)) a2 r2
    have e1 : G 124 0 (gp - 1) = r 1 (gp - 1) := h.2 1 (by decide) (gp - 1) (by omega)
    have e2 : G 125 0 (gp - 1) = r 2 (gp - 1) := h.2 2 (by decide) (gp - 1) (by omega)
    have e3 : G 126 0 (gp - 1) = r 3 (gp - 1) := h.2 3 (by decide) (gp - 1) (by omega)
    rw [e1, e2, e3, mv_ws (x := x - r 1 (gp - 1)) (by omega)]
    refine mv_J.ce (gx_apartOf G _ _ _ _) (mv_J.i (fun h5 => mv_J.r0 (Or.inl rfl) ⟨(mv_b0 (fun h6 => by have := h6.2.1; rw [if_pos (by omega)] at this; omega)).symm, rfl⟩) (fun h5 => ?_))
    rw [h.1, hA.2.1, hA.2.2.2]
    exact tail _ (by rw [if_pos (by omega)]; omega)
  · exact tail _ (by rw [if_neg (by omega)]; omega)
theorem gx_warmAt (hB : mv_mB G a) (hi : mv_iB a) (hA : mv_mA G w k b g) (ha : mv_aok w k b g) (x : Nat) (hx : (x : Int) + w ≤ a 0 0) : ff_X12_warmAt [.inr (100, 0), .inl x] G = some (mv_wn a w.toNat x, G) := by
  have b1 := hi.1
  have a1 := ha.1
  refine mv_Kp.eq (mv_Kp.of (mv_JP.of (rg_X12_warmAt_0 x G) (mv_J.cut ?_)))
  have key : ∀ (q i : Nat) (c : Int), (i : Int) + q = x + w → 0 ≤ c ∧ c ≤ (i : Int) - x → mv_JP mm_X12_warmAt (fun r G' => r = c + mv_wn a q i ∧ G' = G) 4 [some (.inr (100, 0)), some (.inl (x : Int)), some (.inl c), some (.inl (i : Int))] G := by
    intro q
    induction q with
    | zero =>
      intro i c hq hc
      refine mv_JP.of (rg_X12_warmAt_4 x c i G) ?_
      rw [hA.1, mv_ws (x := (x : Int) + w) (by omega)]
      refine mv_J.f (by omega) (mv_J.ret ⟨?_, rfl⟩)
      unfold mv_wn
      omega
    | succ q ih =>
      intro i c hq hc
      have v := hi.2.2.1 i (by omega)
      have ev := hB.2.2.1 i (by omega)
      refine mv_JP.of (rg_X12_warmAt_4 x c i G) ?_
      rw [hA.1, mv_ws (x := (x : Int) + w) (by omega), mv_ws (x := 12 + (i : Int)) (by omega), show (12 + (i : Int)).toNat = 12 + i by omega, ev, hB.1.2.2.1, mv_ws (x := (i : Int) + 1) (by omega), mv_ws (x := c + 1) (by omega), mv_ws (x := a 2 i + 1 - 1) (by omega), mv_ws (x := a 0 2 - (a 2 i + 1 - 1)) (by omega)]
      have e : ∀ c2 : Int, 0 ≤ c2 ∧ c2 ≤ (i : Int) + 1 - x → c2 = c + (if a 2 i ≠ -1 ∧ a 0 2 - a 2 i ≤ 9 then 1 else 0) → mv_JP mm_X12_warmAt (fun r G' => r = c + mv_wn a (q + 1) i ∧ G' = G) 4 [some (.inr (100, 0)), some (.inl (x : Int)), some (.inl c2), some (.inl ((i : Int) + 1))] G := fun c2 h1 h2 => by
        have := ih (i + 1) c2 (by omega) (by omega)
        refine mv_JP.mono this (fun r G' h3 => ⟨?_, h3.2⟩)
        rw [h3.1, h2]
        exact Int.add_assoc _ _ _
      exact mv_J.t (by omega) (mv_J.ck (by omega) (mv_J.i (fun h1 => mv_J.ck (by omega) (mv_J.ck (by omega) (mv_J.i (fun h2 => mv_J.cut (e c (by omega) (by rw [if_neg (fun h3 => by have := h3.2; omega)]; omega))) (fun h2 => mv_J.cut (e (c + 1) (by omega) (by rw [if_pos (by omega)])))))) (fun h1 => mv_J.cut (e c (by omega) (by rw [if_neg (fun h2 => h2.1 (by omega))]; omega)))))
  have := key w.toNat x 0 (by omega) (by omega)
  rw [Int.zero_add] at this
  exact this
theorem gx_asksHim (hB : mv_mB G a) (hA : mv_mA G w k b g) : mv_Kp (ff_X12_asksHim [.inr (100, 0)] G) (fun _ G' => mv_ch [121] [] G G' ∧ ∀ f : Nat → Int, f 0 = w → f 1 = k → f 2 = b → f 3 = g → f 4 = a 0 2 → ∀ j ∈ [4, 3, 2, 1, 0], G' 121 0 j = f j) := by
  refine mv_Kp.of (mv_JP.of (rg_X12_asksHim_0 G) (mv_J.ck (by omega) (mv_J.ck (by omega) (mv_J.ck (by omega) (mv_J.ck (by omega) (mv_J.ck (by omega) (mv_J.ck (by omega) (mv_J.ret ?_))))))))
  refine ⟨((((mv_ch.rf.uc rfl).uc rfl).uc rfl).uc rfl).uc rfl, fun f f0 f1 f2 f3 f4 => ?_⟩
  refine mv_up_l (mv_up_l (mv_up_l (mv_up_l (mv_up_l (l := []) (fun j hj => by cases hj) ?_) ?_) ?_) ?_) ?_
  · rw [hA.1, f0]
  · rw [mv_up_k (by decide), hA.2.1, f1]
  · rw [mv_up_k (by decide), mv_up_k (by decide), hA.2.2.1, f2]
  · rw [mv_up_k (by decide), mv_up_k (by decide), mv_up_k (by decide), hA.2.2.2, f3]
  · rw [mv_up_k (by decide), mv_up_k (by decide), mv_up_k (by decide), mv_up_k (by decide), hB.1.2.2.1, f4]
theorem mv_fr1_bb {i : Nat} (c : Prop) (hc : c ↔ 0 < g ∧ r 3 i = g) : mv_b c = mv_fr1 g r i := by
  unfold mv_fr1
  by_cases h : c
  · rw [mv_b1 h, if_pos (hc.mp h)]
  · rw [mv_b0 h, if_neg (fun h2 => h (hc.mpr h2))]
set_option maxHeartbeats 1000000 in
theorem gx_tellsOf (hB : mv_mB G a) (hi : mv_iB a) (h : mv_mR G n r) (hA : mv_mA G w k b g) (hr : mv_rok (a 0 0) n r) (ha : mv_aok w k b g) (hL : mv_mL G 0 a 17) (hLi : mv_iL mv_qs a 17) (x : Nat) (hx : (x : Int) + w ≤ a 0 0) : mv_Kp (ff_X12_tellsOf [.inr (100, 0), .inl x] G) (fun s G' => s = mv_vs a n r w k b g x ∧ mv_ch [121, 122] [] G G') := by
  have hle := mv_gp_le (r := r) (n := n) (x := x)
  have hn := hr.1
  have b1 := hi.1
  obtain ⟨a1, a2, a3, a4⟩ := id ha
  have hti := mv_tm_in (k := k) (b := b) (g := g) (x := x) hi hr ha (by omega)
  have hwn := mv_wn_b (a := a) w.toNat x
  obtain ⟨f, hf⟩ : ∃ f, f = mv_tm a n r w k b g x := ⟨_, rfl⟩
  have g1 := mv_gst_b hr (by omega) hle
  have g2 := mv_gen_b (gp := mv_gp r n x) hr (by omega)
  have f10 : f 10 = n := by rw [hf]; rfl
  have f9 : f 9 = mv_frs g n r (mv_gp r n x) := by rw [hf]; rfl
  have f8 : f 8 = mv_wn a w.toNat x := by rw [hf]; show mv_wn a w.toNat ((x : Int).toNat) = _; rw [Int.toNat_natCast]
  have f7 : f 7 = mv_gen (a 0 0) n r (mv_gp r n x) - x - w - b := by rw [hf]; rfl
  have f6 : f 6 = x - mv_gst r (mv_gp r n x) := by rw [hf]; rfl
  have f5 : f 5 = x := by rw [hf]; rfl
  unfold mv_vs
  rw [← hf]
  rw [← hf] at hti
  have c142 : ∀ G1, mv_ch [121] [] G G1 → (∀ j ∈ [9, 8, 7, 6, 5, 4, 3, 2, 1, 0], G1 121 0 j = f j) → mv_JP mm_X12_tellsOf (fun s G' => s = mv_lv a 17 f 0 ∧ mv_ch [121, 122] [] G G') 142 [some (.inr (100, 0)), none, none, none] G1 := by
    intro G1 hc hj
    refine mv_JP.of (rg_X12_tellsOf_142 G1) (mv_J.ck (by omega) ?_)
    have hj2 := mv_up_l (v := G1 100 0 46) (m := 10) hj (by rw [hc.cell 100 rfl, h.1, f10])
    have hc2 : mv_ch [121] [] G (mv_up G1 121 0 10 (G1 100 0 46)) := hc.uc rfl
    generalize mv_up G1 121 0 10 (G1 100 0 46) = G2 at hj2 hc2
    have hL2 := hL.ch hc2 (by decide)
    have ht : ∀ j, j < 12 → mv_qs j = true → G2 121 0 j = f j := fun j h1 h2 => hj2 j (mv_qs_m j h1 h2)
    refine mv_J.cn (gx_lineOf (w := 0) (tmv := f) (by decide) hL2 hLi ht hti) (fun s G3 h3 => ?_)
    obtain ⟨hs, hc3⟩ := h3
    unfold mv_lv
    cases hli : mv_li a 17 f (a 17 0).toNat 0 with
    | none =>
      rw [hli] at hs
      dsimp only at hs
      subst hs
      exact mv_J.t rfl (mv_J.ret ⟨rfl, (hc2.mono rfl rfl).tr (hc3.mono rfl rfl)⟩)
    | some l =>
      rw [hli] at hs
      dsimp only at hs
      subst hs
      have hlt := mv_li_lt _ _ _ hli
      obtain ⟨⟨l1, l2, l3, l4⟩, hl⟩ := id hLi
      obtain ⟨q1, q2, q3, q4, q5, q6⟩ := hl l (by omega)
      have hc4 : mv_ch [121, 122] [] G G3 := (hc2.mono rfl rfl).tr (hc3.mono rfl rfl)
      have hL3 := hL.ch hc4 (by decide)
      obtain ⟨d1, d2, d3⟩ := hL3.2.2 l (by omega)
      have e16 : 16 * 0 + l = l := by rw [Nat.mul_zero, Nat.zero_add]
      rw [e16] at d1 d2 ⊢
      rw [Int.toNat_natCast, d1, d2]
      refine mv_J.f ?_ (mv_J.ck ?_ (mv_J.ck ?_ ?_))
      · omega
      · omega
      · omega
      exact (mv_J.cn (gx_runs2 (q := mv_qs) (w := 0) (tmv := f) (by decide) hL3 hLi (fun j h1 h2 => by rw [hc3.cell 121 rfl]; exact ht j h1 h2) hti _ _ (by omega) (by omega) (by omega) q5) (fun s G4 h4 => mv_J.ret ⟨h4.1, hc4.tr (h4.2.mono rfl rfl)⟩))
  have c82 : ∀ G1, mv_ch [121] [] G G1 → (∀ j ∈ [7, 6, 5, 4, 3, 2, 1, 0], G1 121 0 j = f j) → mv_JP mm_X12_tellsOf (fun s G' => s = mv_lv a 17 f 0 ∧ mv_ch [121, 122] [] G G') 82 [some (.inr (100, 0)), some (.inl (x : Int)), some (.inl ((mv_gp r n x : Nat) : Int)), none] G1 := by
    intro G1 hc hj
    have hB1 := hB.ch hc (by decide) rfl rfl
    have hA1 := hA.ch hc rfl
    refine mv_JP.of (rg_X12_tellsOf_82 x _ G1) (mv_J.ce (gx_warmAt hB1 hi hA1 ha x hx) (mv_J.ck (by omega) ?_))
    have hj2 := mv_up_l (v := mv_wn a w.toNat x) (m := 8) hj f8.symm
    have hc2 : mv_ch [121] [] G (mv_up G1 121 0 8 (mv_wn a w.toNat x)) := hc.uc rfl
    generalize mv_up G1 121 0 8 (mv_wn a w.toNat x) = G2 at hj2 hc2
    have hR2 := h.ch hc2 (by decide) rfl
    have hA2 := hA.ch hc2 rfl
    have fin : ∀ v : Int, v = f 9 → mv_J mm_X12_tellsOf (fun s G' => s = mv_lv a 17 f 0 ∧ mv_ch [121, 122] [] G G') (mv_ck 9 12 (some (.inr (142, [some (.inr (100, 0)), none, none, none], mv_up G2 121 0 9 v)))) := fun v hv => mv_J.ck (by omega) (mv_J.cut (c142 _ (hc2.uc rfl) (mv_up_l hj2 hv)))
    rw [f9] at fin
    unfold mv_frs at fin
    have hm : ∀ c : Prop, (c ↔ 0 < g ∧ r 3 (mv_gp r n x - 1) = g) → mv_b c = mv_fr1 g r (mv_gp r n x - 1) := fun c hc => mv_fr1_bb c hc
    have hm2 : ∀ c : Prop, (c ↔ 0 < g ∧ r 3 (mv_gp r n x) = g) → mv_b c = mv_fr1 g r (mv_gp r n x) := fun c hc => mv_fr1_bb c hc
    rw [hR2.1]
    refine mv_J.i (fun h1 => ?_) (fun h1 => ?_)
    · rw [if_pos (by omega)] at fin
      have e0 : ((mv_gp r n x : Nat) : Int) - 1 = ((mv_gp r n x - 1 : Nat) : Int) := by omega
      rw [mv_ws (x := ((mv_gp r n x : Nat) : Int) - 1) (by omega), e0]
      refine mv_J.ce (gx_isFriend hR2 hA2 hn _ (by omega)) (mv_J.bt (fun h2 => ?_) (fun h2 => ?_))
      · have z : mv_fr1 g r (mv_gp r n x - 1) = 0 := if_neg h2
        rw [z] at fin
        rw [hR2.1]
        refine mv_J.i (fun h3 => ?_) (fun h3 => ?_)
        · rw [if_pos (by omega)] at fin
          refine mv_J.ce (gx_isFriend hR2 hA2 hn _ (by omega)) (mv_J.bt (fun h4 => fin _ ?_) (fun h4 => fin _ ?_))
          · rw [show mv_fr1 g r (mv_gp r n x) = 0 from if_neg h4]; decide
          · rw [show mv_fr1 g r (mv_gp r n x) = 1 from if_pos h4]; decide
        · rw [if_neg (by omega)] at fin
          exact fin _ (by decide)
      · have z : mv_fr1 g r (mv_gp r n x - 1) = 1 := if_pos h2
        rw [z] at fin
        rw [hR2.1]
        refine mv_J.i (fun h3 => ?_) (fun h3 => ?_)
        · rw [if_pos (by omega)] at fin
          refine mv_J.ce (gx_isFriend hR2 hA2 hn _ (by omega)) (mv_J.bt (fun h4 => fin _ ?_) (fun h4 => fin _ ?_))
          · rw [show mv_fr1 g r (mv_gp r n x) = 0 from if_neg h4]; decide
          · rw [show mv_fr1 g r (mv_gp r n x) = 1 from if_pos h4]; decide
        · rw [if_neg (by omega)] at fin
          exact fin _ (by decide)
    · rw [if_neg (by omega)] at fin
      refine mv_J.i (fun h3 => ?_) (fun h3 => ?_)
      · rw [if_pos (by omega)] at fin
        refine mv_J.ce (gx_isFriend hR2 hA2 hn _ (by omega)) (mv_J.bt (fun h4 => fin _ ?_) (fun h4 => fin _ ?_))
        · rw [show mv_fr1 g r (mv_gp r n x) = 0 from if_neg h4]; decide
        · rw [show mv_fr1 g r (mv_gp r n x) = 1 from if_pos h4]; decide
      · rw [if_neg (by omega)] at fin
        exact fin _ (by decide)
  have c42 : ∀ G1, mv_ch [121] [] G G1 → (∀ j ∈ [6, 5, 4, 3, 2, 1, 0], G1 121 0 j = f j) → mv_JP mm_X12_tellsOf (fun s G' => s = mv_lv a 17 f 0 ∧ mv_ch [121, 122] [] G G') 42 [some (.inr (100, 0)), some (.inl (x : Int)), some (.inl ((mv_gp r n x : Nat) : Int)), none] G1 := by
    intro G1 hc hj
    have hB1 := hB.ch hc (by decide) rfl rfl
    have hA1 := hA.ch hc rfl
    have hR1 := h.ch hc (by decide) rfl
    refine mv_JP.of (rg_X12_tellsOf_42 x _ G1) ?_
    rw [hR1.1, hA1.1, hA1.2.2.1, Int.toNat_natCast]
    unfold mv_gen at f7 g2
    refine mv_J.i (fun h1 => mv_J.ck (by omega) (mv_J.ck (by omega) (mv_J.cut (c82 _ (hc.uc rfl) (mv_up_l hj ?_))))) (fun h1 => mv_J.ce (gx_length hB1 hi) ?_)
    · rw [if_pos (by omega)] at f7 g2
      have e : G1 123 0 (mv_gp r n x) = r 0 (mv_gp r n x) := hR1.2 0 (by decide) _ (by omega)
      rw [e, mv_ws (x := r 0 (mv_gp r n x) - x) (by omega), mv_ws (x := r 0 (mv_gp r n x) - x - w) (by omega), mv_ws (by omega), f7]
    · rw [if_neg (by omega)] at f7 g2
      rw [hA1.1, hA1.2.2.1]
      refine mv_J.ck (by omega) (mv_J.cut (c82 _ (hc.uc rfl) (mv_up_l hj ?_)))
      rw [mv_ws (x := a 0 0 - x) (by omega), mv_ws (x := a 0 0 - x - w) (by omega), mv_ws (by omega), f7]
  refine mv_Kp.of (mv_JP.of (rg_X12_tellsOf_0 x G) (mv_J.ce (gx_leftOf h hn x) (mv_J.cn (gx_asksHim hB hA) (fun s G1 h1 => mv_J.ck (by omega) ?_))))
  obtain ⟨hc, hj0⟩ := h1
  have hj := hj0 f (by rw [hf]; rfl) (by rw [hf]; rfl) (by rw [hf]; rfl) (by rw [hf]; rfl) (by rw [hf]; rfl)
  have hR1 := h.ch hc (by decide) rfl
  unfold mv_gst at f6 g1
  refine mv_J.i (fun h2 => ?_) (fun h2 => mv_J.ck (by omega) (mv_J.cut (c42 _ ((hc.uc rfl).uc rfl) (mv_up_l (mv_up_l hj f5.symm) ?_))))
  · rw [if_pos (by omega)] at f6 g1
    have e0 : ((mv_gp r n x : Nat) : Int) - 1 = ((mv_gp r n x - 1 : Nat) : Int) := by omega
    have e : G1 124 0 (mv_gp r n x - 1) = r 1 (mv_gp r n x - 1) := hR1.2 1 (by decide) _ (by omega)
    rw [mv_ws (x := ((mv_gp r n x : Nat) : Int) - 1) (by omega), e0, Int.toNat_natCast]
    refine mv_J.ck (by omega) (mv_J.ck (by omega) (mv_J.cut (c42 _ ((hc.uc rfl).uc rfl) (mv_up_l (mv_up_l hj f5.symm) ?_))))
    rw [mv_up_k (by decide), e, mv_ws (by omega), f6]
  · rw [if_neg (by omega)] at f6
    rw [mv_ws (by omega), f6]
end BE
