/-! The best inch, both sides. -/
/-- the best of the first so many inches, and its value -/
noncomputable def mv_bf (P : Nat → Prop) (V : Nat → Int) : Nat → Int × Int
  | 0 => (-1, 0)
  | x + 1 => @ite _ (P x ∧ ((mv_bf P V x).1 = -1 ∨ (mv_bf P V x).2 < V x)) (Classical.propDecidable _) ((x : Int), V x) (mv_bf P V x)
theorem mv_bf_t {P : Nat → Prop} {V : Nat → Int} {x : Nat} (h : P x ∧ ((mv_bf P V x).1 = -1 ∨ (mv_bf P V x).2 < V x)) : mv_bf P V (x + 1) = ((x : Int), V x) := if_pos h
theorem mv_bf_f {P : Nat → Prop} {V : Nat → Int} {x : Nat} (h : ¬ (P x ∧ ((mv_bf P V x).1 = -1 ∨ (mv_bf P V x).2 < V x))) : mv_bf P V (x + 1) = mv_bf P V x := if_neg h
theorem mv_bf_skip {P : Nat → Prop} {V : Nat → Int} {m : Nat} : ∀ q, (∀ x, m ≤ x → x < m + q → ¬ P x) → mv_bf P V (m + q) = mv_bf P V m
  | 0, _ => rfl
  | q + 1, h => by
    rw [← Nat.add_assoc, mv_bf_f (fun h2 => h (m + q) (by omega) (by omega) h2.1)]
    exact mv_bf_skip q (fun x h1 h2 => h x h1 (by omega))
theorem mv_bf_b {P : Nat → Prop} {V : Nat → Int} : ∀ x, -1 ≤ (mv_bf P V x).1 ∧ (mv_bf P V x).1 < x
  | 0 => by show -1 ≤ (-1 : Int) ∧ (-1 : Int) < ((0 : Nat) : Int); omega
  | x + 1 => by
    have h := mv_bf_b (P := P) (V := V) x
    by_cases c : P x ∧ ((mv_bf P V x).1 = -1 ∨ (mv_bf P V x).2 < V x)
    · rw [mv_bf_t c]
      dsimp only
      omega
    · rw [mv_bf_f c]
      omega
/-- where one sits by the law -/
noncomputable def mv_bi (a : mv_a) (n : Nat) (r : mv_a) (w k b g : Int) : Int := (mv_bf (fun x => mv_pl a n r w k b g x) (fun x => mv_vs a n r w k b g x) (a 0 0).toNat).1
section BE
variable {G : mv_G} {a : mv_a} {n : Nat} {r : mv_a} {w k b g : Int}
theorem gx_bestInch (hB : mv_mB G a) (hi : mv_iB a) (h : mv_mR G n r) (hA : mv_mA G w k b g) (hr : mv_rok (a 0 0) n r) (ha : mv_aok w k b g) (hL : mv_mL G 0 a 17) (hLi : mv_iL mv_qs a 17) : mv_Kp (ff_X12_bestInch [.inr (100, 0)] G) (fun s G' => s = mv_bi a n r w k b g ∧ mv_ch [121, 122] [] G G') := by
  have b1 := hi.1
  have key : ∀ (q x : Nat) (G1 : mv_G), x + q = (a 0 0).toNat → mv_ch [121, 122] [] G G1 → mv_JP mm_X12_bestInch (fun s G' => s = mv_bi a n r w k b g ∧ mv_ch [121, 122] [] G G') 6 [some (.inr (100, 0)), some (.inl (mv_bf (fun x => mv_pl a n r w k b g x) (fun x => mv_vs a n r w k b g x) x).1), some (.inl (mv_bf (fun x => mv_pl a n r w k b g x) (fun x => mv_vs a n r w k b g x) x).2), some (.inl (x : Int)), none] G1 := by
    intro q
    induction q with
    | zero =>
      intro x G1 hq hc
      refine mv_JP.of (rg_X12_bestInch_6 _ _ x G1) (mv_J.ce (gx_length (hB.ch hc (by decide) rfl rfl) hi) (mv_J.f (by omega) (mv_J.ret ⟨?_, hc⟩)))
      unfold mv_bi
      rw [show (a 0 0).toNat = x by omega]
    | succ q ih =>
      intro x G1 hq hc
      have hB1 := hB.ch hc (by decide) rfl rfl
      have hR1 := h.ch hc (by decide) rfl
      have hA1 := hA.ch hc rfl
      refine mv_JP.of (rg_X12_bestInch_6 _ _ x G1) (mv_J.ce (gx_length hB1 hi) (mv_J.t (by omega) (mv_J.ce (gx_canSit hB1 hi hR1 hA1 hr ha x) ?_)))
      rw [mv_ws (x := (x : Int) + 1) (by omega)]
      have nx : ∀ (G2 : mv_G), mv_ch [121, 122] [] G G2 → _ := fun G2 hc2 => ih (x + 1) G2 (by omega) hc2
      refine mv_J.bt (fun h1 => mv_J.cut ?_) (fun h1 => ?_)
      · have := nx G1 hc
        rw [mv_bf_f (fun h2 => h1 h2.1)] at this
        exact this
      · refine mv_J.cn (gx_tellsOf hB1 hi hR1 hA1 hr ha (hL.ch hc (by decide)) hLi x h1.1.2.1) (fun s G2 h2 => ?_)
        obtain ⟨rfl, hc2⟩ := h2
        have h3 := nx G2 (hc.tr hc2)
        refine mv_J.i (fun h4 => mv_J.cut ?_) (fun h4 => mv_J.i (fun h5 => mv_J.cut ?_) (fun h5 => mv_J.cut ?_))
        · rw [mv_bf_t ⟨h1, Or.inl h4⟩] at h3
          exact h3
        · rw [mv_bf_t ⟨h1, Or.inr h5⟩] at h3
          exact h3
        · rw [mv_bf_f (fun h6 => by rcases h6.2 with h7 | h7; exact h4 h7; exact h5 h7)] at h3
          exact h3
  exact mv_Kp.of (mv_JP.of (rg_X12_bestInch_0 G) (mv_J.cut (key (a 0 0).toNat 0 G (by omega) mv_ch.rf)))
/-! the class -/
theorem fx_tellAsker (hB : mv_cB G a) (h : mv_cR G n r) (hA : mv_cA G w k b g) : mv_Kp (ff_X10_tellAsker [.inr (72, 0)] G) (fun _ G' => mv_ch [73] [] G G' ∧ ∀ f : Nat → Int, f 0 = w → f 1 = k → f 2 = b → f 3 = g → f 4 = a 0 2 → f 10 = n → ∀ j ∈ [10, 4, 3, 2, 1, 0], G' 73 0 j = f j) := by
  refine mv_Kp.of (mv_JP.of (rg_X10_tellAsker_0 G) (mv_J.ck (by omega) (mv_J.ck (by omega) (mv_J.ck (by omega) (mv_J.ck (by omega) (mv_J.ck (by omega) (mv_J.ck (by omega) (mv_J.ret ?_))))))))
  refine ⟨(((((mv_ch.rf.uc rfl).uc rfl).uc rfl).uc rfl).uc rfl).uc rfl, fun f f0 f1 f2 f3 f4 f10 => ?_⟩
  refine mv_up_l (mv_up_l (mv_up_l (mv_up_l (mv_up_l (mv_up_l (l := []) (fun j hj => by cases hj) ?_) ?_) ?_) ?_) ?_) ?_
  · rw [hA.1, f0]
  · rw [mv_up_k (by decide), hA.2.1, f1]
  · rw [mv_up_k (by decide), mv_up_k (by decide), hA.2.2.1, f2]
  · rw [mv_up_k (by decide), mv_up_k (by decide), mv_up_k (by decide), hA.2.2.2, f3]
  · rw [mv_up_k (by decide), mv_up_k (by decide), mv_up_k (by decide), mv_up_k (by decide), hB.1.2.2.1, f4]
  · rw [mv_up_k (by decide), mv_up_k (by decide), mv_up_k (by decide), mv_up_k (by decide), mv_up_k (by decide), h.1, f10]
/-- the terms that are told once -/
def mv_t6 (G : mv_G) (a : mv_a) (n : Nat) (w k b g : Int) : Prop := ∀ f : Nat → Int, f 0 = w → f 1 = k → f 2 = b → f 3 = g → f 4 = a 0 2 → f 10 = n → ∀ j ∈ [10, 4, 3, 2, 1, 0], G 73 0 j = f j
theorem mv_t6.keep {G2 : mv_G} (h : mv_t6 G a n w k b g) (e : ∀ j ∈ [10, 4, 3, 2, 1, 0], G2 73 0 j = G 73 0 j) : mv_t6 G2 a n w k b g := fun f f0 f1 f2 f3 f4 f10 j hj => (e j hj).trans (h f f0 f1 f2 f3 f4 f10 j hj)
set_option maxHeartbeats 1000000 in
theorem fx_value10 (hB : mv_cB G a) (hi : mv_iB a) (h : mv_cR G n r) (hA : mv_cA G w k b g) (hr : mv_rok (a 0 0) n r) (ha : mv_aok w k b g) (hL : mv_cL G 8 a 17) (hLi : mv_iL mv_qs a 17) (h6 : mv_t6 G a n w k b g) (x : Nat) (hx : (x : Int) + w ≤ a 0 0) : mv_Kp (ff_X10_value [.inr (72, 0), .inl ((mv_gp r n x : Nat) : Int), .inl x] G) (fun s G' => s = mv_vs a n r w k b g x ∧ mv_ch [73, 13] [] G G' ∧ mv_t6 G' a n w k b g) := by
  have hle := mv_gp_le (r := r) (n := n) (x := x)
  have hn := hr.1
  have b1 := hi.1
  obtain ⟨a1, a2, a3, a4⟩ := id ha
  have hti := mv_tm_in (k := k) (b := b) (g := g) (x := x) hi hr ha (by omega)
  have hwn := mv_wn_b (a := a) w.toNat x
  have g1 := mv_gst_b hr (by omega) hle
  have g2 := mv_gen_b (gp := mv_gp r n x) hr (by omega)
  obtain ⟨f, hf⟩ : ∃ f, f = mv_tm a n r w k b g x := ⟨_, rfl⟩
  have f9 : f 9 = mv_frs g n r (mv_gp r n x) := by rw [hf]; rfl
  have f8 : f 8 = mv_wn a w.toNat x := by rw [hf]; show mv_wn a w.toNat ((x : Int).toNat) = _; rw [Int.toNat_natCast]
  have f7 : f 7 = mv_gen (a 0 0) n r (mv_gp r n x) - x - w - b := by rw [hf]; rfl
  have f6 : f 6 = x - mv_gst r (mv_gp r n x) := by rw [hf]; rfl
  have f5 : f 5 = x := by rw [hf]; rfl
  have hj0 := h6 f (by rw [hf]; rfl) (by rw [hf]; rfl) (by rw [hf]; rfl) (by rw [hf]; rfl) (by rw [hf]; rfl) (by rw [hf]; rfl)
  unfold mv_vs
  rw [← hf]
  rw [← hf] at hti
  refine mv_Kp.of (mv_JP.of (rg_X10_value_0 _ x G) (mv_J.ck (by omega) ?_))
  have hj5 := mv_up_l (v := (x : Int)) (m := 5) hj0 f5.symm
  have c5 : mv_ch [73] [] G (mv_up G 73 0 5 x) := mv_ch.rf.uc rfl
  generalize mv_up G 73 0 5 (x : Int) = G5 at hj5 c5
  refine mv_J.ce (fx_gapStart (h.ch c5 (by decide) rfl) hn _ hle) (mv_J.ck (by omega) ?_)
  have hj6 := mv_up_l (v := mv_w ((x : Int) - mv_gst r (mv_gp r n x))) (m := 6) hj5 (by rw [mv_ws (by omega), f6])
  have c6 : mv_ch [73] [] G (mv_up G5 73 0 6 (mv_w ((x : Int) - mv_gst r (mv_gp r n x)))) := c5.uc rfl
  generalize mv_up G5 73 0 6 (mv_w ((x : Int) - mv_gst r (mv_gp r n x))) = G6 at hj6 c6
  have e1 : G6 1 0 0 = a 0 0 := (hB.ch c6 (by decide)).1.1
  rw [e1, hA.1, hA.2.2.1, mv_ws (x := (x : Int) + w) (by omega), mv_ws (x := (x : Int) + w + b) (by omega)]
  refine mv_J.ce (fx_gapEnd (h.ch c6 (by decide) rfl) hn _ hle _) (mv_J.ck (by omega) ?_)
  have hj7 := mv_up_l (v := mv_w (mv_gen (a 0 0) n r (mv_gp r n x) - ((x : Int) + w + b))) (m := 7) hj6 (by rw [mv_ws (by omega), f7]; omega)
  have c7 : mv_ch [73] [] G (mv_up G6 73 0 7 (mv_w (mv_gen (a 0 0) n r (mv_gp r n x) - ((x : Int) + w + b)))) := c6.uc rfl
  generalize mv_up G6 73 0 7 (mv_w (mv_gen (a 0 0) n r (mv_gp r n x) - ((x : Int) + w + b))) = G7 at hj7 c7
  refine mv_J.ce (fx_warmInches (hB.ch c7 (by decide)) hi (hA.ch c7 rfl) ha x hx) (mv_J.ck (by omega) ?_)
  have hj8 := mv_up_l (v := mv_wn a w.toNat x) (m := 8) hj7 f8.symm
  have c8 : mv_ch [73] [] G (mv_up G7 73 0 8 (mv_wn a w.toNat x)) := c7.uc rfl
  generalize mv_up G7 73 0 8 (mv_wn a w.toNat x) = G8 at hj8 c8
  have hR8 := h.ch c8 (by decide) rfl
  have hA8 := hA.ch c8 rfl
  have hL8 := hL.ch c8 (by decide)
  have fin : ∀ v : Int, v = f 9 → mv_J mm_X10_value (fun s G' => s = mv_lv a 17 f 0 ∧ mv_ch [73, 13] [] G G' ∧ mv_t6 G' a n w k b g) (mv_ck 9 12 (mv_cn (ff_X5_value [.inr (8, 0), .inr (73, 0), .inl 0] (mv_up G8 73 0 9 v)) fun r5 G5 => some (.inl (r5, G5)))) := fun v hv => by
    have hj9 := mv_up_l (v := v) (m := 9) hj8 hv
    have c9 : mv_ch [73] [] G8 (mv_up G8 73 0 9 v) := mv_ch.rf.uc rfl
    have hL9 := hL8.ch c9 (by decide)
    refine mv_J.ck (by omega) (mv_J.cn (fx_value_8 hL9 hLi (fun j h1 h2 => hj9 j (mv_qs_l j h1 h2)) hti 0) (fun s G9 h9 => mv_J.ret ⟨h9.1, ((c8.tr c9).mono rfl rfl).tr (h9.2.mono rfl rfl), ?_⟩))
    refine h6.keep (fun j hj => ?_)
    rw [h9.2.cell 73 rfl, hj9 j (by revert j; decide), hj0 j hj]
  rw [f9] at fin
  unfold mv_frs at fin
  have up1 : ∀ c : Prop, (0 < mv_gp r n x → (c ↔ 0 < g ∧ r 3 (mv_gp r n x - 1) = g)) → (mv_gp r n x = 0 → ¬ c) → (if 0 < mv_gp r n x then mv_fr1 g r (mv_gp r n x - 1) else 0) = mv_b c := fun c h1 h2 => by
    by_cases h3 : 0 < mv_gp r n x
    · rw [if_pos h3]
      exact (mv_fr1_bb c (h1 h3)).symm
    · rw [if_neg h3, mv_b0 (h2 (by omega))]
  have up2 : ∀ c : Prop, (c ↔ mv_gp r n x < n ∧ 0 < g ∧ r 3 (mv_gp r n x) = g) → (if mv_gp r n x < n then mv_fr1 g r (mv_gp r n x) else 0) = mv_b c := fun c h1 => by
    by_cases h3 : mv_gp r n x < n
    · rw [if_pos h3]
      exact (mv_fr1_bb c ⟨fun h4 => (h1.mp h4).2, fun h4 => h1.mpr ⟨h3, h4⟩⟩).symm
    · rw [if_neg h3, mv_b0 (fun h4 => h3 (h1.mp h4).1)]
  rw [mv_ws (x := ((mv_gp r n x : Nat) : Int) - 1) (by omega)]
  rw [up1 (0 ≤ ((mv_gp r n x : Nat) : Int) - 1 ∧ ((mv_gp r n x : Nat) : Int) - 1 < n ∧ 0 < g ∧ r 3 ((((mv_gp r n x : Nat) : Int) - 1).toNat) = g) (fun h1 => by
    rw [show (((mv_gp r n x : Nat) : Int) - 1).toNat = mv_gp r n x - 1 by omega]
    exact ⟨fun h2 => h2.2.2, fun h2 => ⟨by omega, by omega, h2⟩⟩) (fun h1 h2 => by omega),
    up2 (0 ≤ ((mv_gp r n x : Nat) : Int) ∧ ((mv_gp r n x : Nat) : Int) < n ∧ 0 < g ∧ r 3 (((mv_gp r n x : Nat) : Int).toNat) = g) (by
    rw [Int.toNat_natCast]
    exact ⟨fun h2 => ⟨by omega, h2.2.2⟩, fun h2 => ⟨by omega, by omega, h2.2⟩⟩)] at fin
  refine mv_J.ce (fx_isFriend hR8 hA8 hn _) (mv_J.bt (fun h1 => ?_) (fun h1 => ?_))
  · rw [mv_b0 h1] at fin
    refine mv_J.ce (fx_isFriend hR8 hA8 hn _) (mv_J.bt (fun h2 => fin _ ?_) (fun h2 => fin _ ?_))
    · rw [mv_b0 h2]; decide
    · rw [mv_b1 h2]; decide
  · rw [mv_b1 h1] at fin
    refine mv_J.ce (fx_isFriend hR8 hA8 hn _) (mv_J.bt (fun h2 => fin _ ?_) (fun h2 => fin _ ?_))
    · rw [mv_b0 h2]; decide
    · rw [mv_b1 h2]; decide
theorem fx_valueAt (hB : mv_cB G a) (hi : mv_iB a) (h : mv_cR G n r) (hA : mv_cA G w k b g) (hr : mv_rok (a 0 0) n r) (ha : mv_aok w k b g) (hL : mv_cL G 8 a 17) (hLi : mv_iL mv_qs a 17) (x : Nat) (hx : (x : Int) + w ≤ a 0 0) : mv_Kp (ff_X10_valueAt [.inr (72, 0), .inl x] G) (fun s G' => s = mv_vs a n r w k b g x ∧ mv_ch [73, 13] [] G G') := by
  refine mv_Kp.of (mv_JP.of (rg_X10_valueAt_0 x G) (mv_J.cn (fx_tellAsker hB h hA) (fun s G1 h1 => ?_)))
  have hR1 := h.ch h1.1 (by decide) rfl
  exact mv_J.ce (fx_gapOf hR1 hr x) (mv_J.cn (fx_value10 (hB.ch h1.1 (by decide)) hi hR1 (hA.ch h1.1 rfl) hr ha (hL.ch h1.1 (by decide)) hLi h1.2 x hx) (fun s G2 h2 => mv_J.ret ⟨h2.1, (h1.1.mono rfl rfl).tr h2.2.1⟩))
/-- inches that are decided when a gap is reached -/
def mv_xg (L : Int) (n : Nat) (r : mv_a) (gp : Nat) : Nat := if gp = 0 then 0 else if gp ≤ n then (r 0 (gp - 1) + 1).toNat else L.toNat
theorem mv_xg_gp {L : Int} (hr : mv_rok L n r) {gp x : Nat} (hg : gp ≤ n) (h1 : mv_xg L n r gp ≤ x) (h2 : x < mv_xg L n r (gp + 1)) : mv_gp r n x = gp := by
  refine mv_lo_eq n 0 (Nat.zero_le _) (by omega) (fun j _ hj => ?_) (fun hgn => ?_)
  · unfold mv_xg at h1
    rw [if_neg (by omega), if_pos hg] at h1
    have q := hr.2 (gp - 1) (by omega)
    by_cases e : j = gp - 1
    · subst e; omega
    · have q2 := hr.2 j (by omega)
      have := q2.2.2.2 (gp - 1) (by omega) (by omega)
      omega
  · unfold mv_xg at h2
    rw [if_neg (by omega), if_pos (by omega), Nat.add_sub_cancel] at h2
    have q := hr.2 gp (by omega)
    omega
set_option maxHeartbeats 1000000 in
theorem fx_best (hB : mv_cB G a) (hi : mv_iB a) (h : mv_cR G n r) (hA : mv_cA G w k b g) (hr : mv_rok (a 0 0) n r) (ha : mv_aok w k b g) (hL : mv_cL G 8 a 17) (hLi : mv_iL mv_qs a 17) : mv_Kp (ff_X10_best [.inr (72, 0)] G) (fun s G' => s = mv_bi a n r w k b g ∧ mv_ch [73, 13] [] G G') := by
  have b1 := hi.1
  have hn := hr.1
  obtain ⟨a1, a2, a3, a4⟩ := id ha
  obtain ⟨bf, hbf⟩ : ∃ bf, bf = mv_bf (fun x => mv_pl a n r w k b g x) (fun x => mv_vs a n r w k b g x) := ⟨_, rfl⟩
  obtain ⟨P, hP⟩ : ∃ P : Int → mv_G → Prop, P = (fun s G' => s = mv_bi a n r w k b g ∧ mv_ch [73, 13] [] G G') := ⟨_, rfl⟩
  have skip : ∀ m m' : Nat, m ≤ m' → (∀ x, m ≤ x → x < m' → ¬ mv_pl a n r w k b g (x : Nat)) → bf m' = bf m := fun m m' h1 h2 => by
    have := mv_bf_skip (P := fun x => mv_pl a n r w k b g x) (V := fun x => mv_vs a n r w k b g x) (m := m) (m' - m) (fun x h3 h4 => h2 x h3 (by omega))
    rw [show m + (m' - m) = m' by omega] at this
    rw [hbf]
    exact this
  have xgm : ∀ gp, gp ≤ n → mv_xg (a 0 0) n r gp ≤ mv_xg (a 0 0) n r (gp + 1) ∧ (mv_xg (a 0 0) n r (gp + 1) : Int) ≤ a 0 0 ∧ (mv_xg (a 0 0) n r gp : Int) ≤ mv_lw k g r gp ∧ (mv_hg (a 0 0) n r w k b g gp : Int) < mv_xg (a 0 0) n r (gp + 1) := fun gp hg => by
    unfold mv_xg mv_lw mv_hg
    rw [if_neg (by omega : ¬ gp + 1 = 0), Nat.add_sub_cancel]
    by_cases e0 : gp = 0
    · subst e0
      rw [if_pos rfl, if_neg (Nat.lt_irrefl 0)]
      by_cases e1 : 0 < n
      · obtain ⟨q1, q2, q3, q4⟩ := hr.2 0 e1
        have ab := mv_ap_b (g1 := g) (g2 := r 3 0) a2 q2
        rw [if_pos (by omega), if_pos e1]
        omega
      · rw [if_neg (by omega), if_neg e1]
        omega
    · obtain ⟨p1, p2, p3, p4⟩ := hr.2 (gp - 1) (by omega)
      have ab := mv_ap_b (g1 := g) (g2 := r 3 (gp - 1)) a2 p2
      rw [if_neg e0, if_pos hg, if_pos (by omega : 0 < gp)]
      by_cases e1 : gp < n
      · obtain ⟨q1, q2, q3, q4⟩ := hr.2 gp e1
        have ab2 := mv_ap_b (g1 := g) (g2 := r 3 gp) a2 q2
        have := p4 gp (by omega) e1
        rw [if_pos (by omega), if_pos e1]
        omega
      · rw [if_neg (by omega), if_neg e1]
        omega
  have key : ∀ (q gp : Nat) (G1 : mv_G), gp + q = n + 1 → mv_ch [73, 13] [] G G1 → mv_t6 G1 a n w k b g → mv_JP mm_X10_best P 10 [some (.inr (72, 0)), some (.inl (bf (mv_xg (a 0 0) n r gp)).1), some (.inl (bf (mv_xg (a 0 0) n r gp)).2), some (.inl (gp : Int)), none, none, none] G1 := by
    intro q
    induction q with
    | zero =>
      intro gp G1 hq hc h6
      refine mv_JP.of (rg_X10_best_10 _ _ gp G1) ?_
      rw [(h.ch hc (by decide) rfl).1]
      refine mv_J.t (by omega) (mv_J.ret ?_)
      rw [hP]
      refine ⟨?_, hc⟩
      unfold mv_bi mv_xg
      rw [if_neg (by omega), if_neg (by omega), hbf]
    | succ q ih =>
      intro gp G1 hq hc h6
      have hB1 := hB.ch hc (by decide)
      have hR1 := h.ch hc (by decide) rfl
      have hA1 := hA.ch hc rfl
      obtain ⟨x1, x2, x3, x4⟩ := xgm gp (by omega)
      refine mv_JP.of (rg_X10_best_10 _ _ gp G1) ?_
      rw [hR1.1, hB1.1.1]
      refine mv_J.f (by omega) (mv_J.ce (fx_highest hR1 hA1 hr hi ha gp (by omega)) (mv_J.ce (fx_lowest hR1 hA1 hr hi ha gp (by omega)) (mv_J.cut ?_)))
      have lb : 0 ≤ mv_lw k g r gp ∧ mv_lw k g r gp ≤ 100 := by
        unfold mv_lw
        split
        · obtain ⟨p1, p2, p3, p4⟩ := hr.2 (gp - 1) (by omega)
          have ab := mv_ap_b (g1 := g) (g2 := r 3 (gp - 1)) a2 p2
          omega
        · omega
      -- the inches of the gap, from y on; m of them are decided
      have inner : ∀ (t y m : Nat) (G2 : mv_G), (mv_hg (a 0 0) n r w k b g gp + 1 - y).toNat = t → mv_lw k g r gp ≤ (y : Int) → y ≤ 200 → m = max (mv_xg (a 0 0) n r gp) (min y (mv_xg (a 0 0) n r (gp + 1))) → mv_ch [73, 13] [] G G2 → mv_t6 G2 a n w k b g → mv_JP mm_X10_best P 48 [some (.inr (72, 0)), some (.inl (bf m).1), some (.inl (bf m).2), some (.inl (gp : Int)), some (.inl (mv_hg (a 0 0) n r w k b g gp)), some (.inl (y : Int)), none] G2 := by
        intro t
        induction t with
        | zero =>
          intro y m G2 ht hy hy2 hm hc2 h62
          refine mv_JP.of (rg_X10_best_48 _ _ gp _ y G2) (mv_J.t (by omega) (mv_J.cut ?_))
          have := ih (gp + 1) G2 (by omega) hc2 h62
          rw [skip m (mv_xg (a 0 0) n r (gp + 1)) (by omega) (fun x h1 h2 h3 => by
            have e := mv_xg_gp hr (gp := gp) (x := x) (by omega) (by omega) h2
            have h4 := h3.2.2
            rw [e] at h4
            omega)] at this
          rw [mv_ws (by omega)]
          exact this
        | succ t iht =>
          intro y m G2 ht hy hy2 hm hc2 h62
          have hB2 := hB.ch hc2 (by decide)
          have hR2 := h.ch hc2 (by decide) rfl
          have hA2 := hA.ch hc2 rfl
          have em : m = y := by omega
          subst em
          have e := mv_xg_gp hr (gp := gp) (x := m) (by omega) (by omega) (by omega)
          refine mv_JP.of (rg_X10_best_48 _ _ gp _ m G2) (mv_J.f (by omega) ?_)
          rw [hA2.1, mv_ws (x := (m : Int) + 1) (by omega)]
          have nx : ∀ G3, mv_ch [73, 13] [] G G3 → mv_t6 G3 a n w k b g → _ := fun G3 hc3 h63 => iht (m + 1) (m + 1) G3 (by omega) (by omega) (by omega) (by omega) hc3 h63
          have pl : mv_pl a n r w k b g (m : Nat) ↔ mv_clr a m w := ⟨fun h1 => h1.1, fun h1 => ⟨h1, by rw [e]; omega, by rw [e]; omega⟩⟩
          refine mv_J.ce (fx_isClear hB2 hi m w (by omega)) (mv_J.bt (fun h1 => mv_J.cut ?_) (fun h1 => ?_))
          · have := nx G2 hc2 h62
            rw [skip m (m + 1) (by omega) (fun x h2 h3 h4 => by rw [show x = m by omega] at h4; exact h1 (pl.mp h4))] at this
            exact this
          · have hv := fx_value10 hB2 hi hR2 hA2 hr ha (hL.ch hc2 (by decide)) hLi h62 m h1.2.1
            rw [e] at hv
            refine mv_J.cn hv (fun s G3 h2 => ?_)
            obtain ⟨rfl, hc3, h63⟩ := h2
            have h3 := nx G3 (hc2.tr hc3) h63
            rw [hbf] at h3 ⊢
            refine mv_J.i (fun h4 => mv_J.cut ?_) (fun h4 => mv_J.i (fun h5 => mv_J.cut ?_) (fun h5 => mv_J.cut ?_))
            · rw [mv_bf_t ⟨pl.mpr h1, Or.inl h4⟩] at h3
              exact h3
            · rw [mv_bf_t ⟨pl.mpr h1, Or.inr h5⟩] at h3
              exact h3
            · rw [mv_bf_f (fun h6 => by rcases h6.2 with h7 | h7; exact h4 h7; exact h5 h7)] at h3
              exact h3
      have := inner (mv_hg (a 0 0) n r w k b g gp + 1 - mv_lw k g r gp).toNat (mv_lw k g r gp).toNat (max (mv_xg (a 0 0) n r gp) (min (mv_lw k g r gp).toNat (mv_xg (a 0 0) n r (gp + 1)))) G1 (by omega) (by omega) (by omega) rfl hc h6
      rw [skip (mv_xg (a 0 0) n r gp) (max (mv_xg (a 0 0) n r gp) (min (mv_lw k g r gp).toNat (mv_xg (a 0 0) n r (gp + 1)))) (by omega) (fun x h1 h2 h3 => by
        have e := mv_xg_gp hr (gp := gp) (x := x) (by omega) h1 (by omega)
        have h4 := h3.2.1
        rw [e] at h4
        omega), show (((mv_lw k g r gp).toNat : Nat) : Int) = mv_lw k g r gp by omega] at this
      exact this
  refine mv_Kp.of (mv_JP.of (rg_X10_best_0 G) (mv_J.cn (fx_tellAsker hB h hA) (fun s G1 h1 => mv_J.cut ?_)))
  have := key (n + 1) 0 G1 (by omega) (h1.1.mono rfl rfl) h1.2
  rw [hP, hbf] at this
  exact this
end BE
