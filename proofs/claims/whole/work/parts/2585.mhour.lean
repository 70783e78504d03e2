/-! An hour, the reference. -/
def st_mc (G : mv_G) (a : mv_a) (G2 : mv_G) (u : (Int × Int) × mv_a) : Prop := mv_mY G2 u.2 ∧ st_bp G a G2 u.2 ∧ st_mS G2 = u.1 ∧ st_fm G G2
section MH
variable {G G2 : mv_G} {a b : mv_a}
theorem gy_sits {x : Int} {p : Nat} (h : G 101 0 (2 + p) = x + 1) (s : -1 ≤ x ∧ x < 60) (hp : p < 10) : ff_X12_sits [.inr (100, 0), .inl p] G = some (mv_b (x ≠ -1), G) := by
  refine mv_Kp.eq (mv_Kp.of (mv_JP.of (rg_X12_sits_0 p G) ?_))
  rw [mv_ws (by omega)]
  refine mv_J.ck (by omega) ?_
  rw [show ((2 : Int) + (p : Int)).toNat = 2 + p by omega, h]
  exact mv_J.i (fun h2 => mv_J.r0 (Or.inr rfl) ⟨(mv_b1 (by omega)).symm, rfl⟩) (fun h2 => mv_J.r0 (Or.inl rfl) ⟨(mv_b0 (by omega)).symm, rfl⟩)
theorem gy_inchOf {x : Int} {p : Nat} (h : G 101 0 (2 + p) = x + 1) (s : -1 ≤ x ∧ x < 60) (hp : p < 10) : ff_X12_inchOf [.inr (100, 0), .inl p] G = some (x, G) := by
  refine mv_Kp.eq (mv_Kp.of (mv_JP.of (rg_X12_inchOf_0 p G) ?_))
  rw [mv_ws (x := 2 + (p : Int)) (by omega)]
  refine mv_J.ck (by omega) (mv_J.ret ⟨?_, rfl⟩)
  rw [show ((2 : Int) + (p : Int)).toNat = 2 + p by omega, h, mv_ws (by omega)]
  omega
theorem gx_doesLine (hY : mv_mY G b) (hi : mv_iX b) (h5 : G 100 0 5 = 0 ∨ G 100 0 5 = 1) (hb : G 100 0 5 = 0 → mv_bkM G b) (i : Nat) (hl : (i : Int) < b 0 4) (hh : b 15 i = b 0 2) : mv_Kp (ff_X12_doesLine [.inr (100, 0), .inl i] G) (fun v G' => v = mv_b (st_cn b i) ∧ st_mc G b G' (st_if (st_cn b i) (st_do b (st_mS G) i) (st_mS G, b))) := by
  have b1 := hi.1.1
  have dd := hi.2.2.2.1
  obtain ⟨v1, ⟨v2, v3⟩, v4⟩ := hi.2.2.2.2 i hl
  obtain ⟨d1, d2, d3⟩ := hY.2.2.2.2 i hl
  obtain ⟨p, hp⟩ : ∃ p : Nat, b 14 i = p := ⟨(b 14 i).toNat, by omega⟩
  have hpP : p < mv_P b := by unfold mv_P; omega
  rw [hp] at d2
  have skip : ¬ st_cn b i → mv_J mm_X12_doesLine (fun v G' => v = mv_b (st_cn b i) ∧ st_mc G b G' (st_if (st_cn b i) (st_do b (st_mS G) i) (st_mS G, b))) (mv_rzc 0 1 0 (some (.inl (0, G)))) := fun h => mv_J.r0 (Or.inl rfl) ⟨(mv_b0 h).symm, by rw [st_if_n h]; exact ⟨hY, st_bp.rf rfl rfl rfl ⟨rfl, rfl, rfl, rfl⟩, rfl, mv_ch.rf⟩⟩
  have go : ∀ G2 : mv_G, st_cn b i → st_mc G b G2 (st_do b (st_mS G) i) → mv_J mm_X12_doesLine (fun v G' => v = mv_b (st_cn b i) ∧ st_mc G b G' (st_if (st_cn b i) (st_do b (st_mS G) i) (st_mS G, b))) (mv_rzc 0 1 1 (some (.inl (1, G2)))) := fun G2 h g => mv_J.r0 (Or.inr rfl) ⟨(mv_b1 h).symm, by rw [st_if_y h]; exact g⟩
  have sn : ∀ (x : Int) (G2 : mv_G) (c : mv_a), st_ma G b G2 c → c 0 2 = b 0 2 → st_do b (st_mS G) i = (st_sd x (b 0 2) (st_mS G), c) → st_cn b i → mv_J mm_X12_doesLine (fun v G' => v = mv_b (st_cn b i) ∧ st_mc G b G' (st_if (st_cn b i) (st_do b (st_mS G) i) (st_mS G, b))) (mv_cn (ff_X12_standsNow [.inr (100, 0), .inl x] G2) fun _ G3 => mv_rzc 0 1 1 (some (.inl (1, G3)))) := fun x G2 c hm h2 ed hc => by
    obtain ⟨m1, m2, m3, m4⟩ := hm
    refine mv_J.cn (gx_standsNow x (b 0 2) (by rw [m1.1.1.2.2.1, h2])) (fun _ G3 h3 => go G3 hc ?_)
    rw [ed]
    exact ⟨m1.cg h3.2 (by decide) (by decide), m2.tr (m4.slot 100 5 rfl) (st_bp.rf (h3.2.cell 110 rfl) (by rw [h3.2.cell 101 rfl]) rfl ⟨rfl, rfl, rfl, rfl⟩), by rw [h3.1, m3], m4.tr (h3.2.mono rfl rfl)⟩
  refine mv_Kp.of (mv_JP.of (rg_X12_doesLine_0 _ G) ?_)
  rw [mv_ws (x := 3 * (i : Int)) (by omega), mv_ws (x := 3 * (i : Int) + 1) (by omega), show Int.toNat (3 * (i : Int)) = 3 * i by omega, show Int.toNat (3 * (i : Int) + 1) = 3 * i + 1 by omega, mv_ckp (n := 144) (by omega), mv_ckp (n := 144) (by omega), d1, d2]
  refine mv_J.i (fun e1 => ?_) (fun e1 => ?_)
  · refine mv_J.ce (gx_sits hY.1 hi.1 p (by omega)) (mv_J.bt (fun hn => skip (fun hc => hn ?_)) (fun hy => mv_J.t e1 ?_))
    · have := hc.2.1 e1
      rw [hp, Int.toNat_natCast] at this
      exact this
    · have hc : st_cn b i := ⟨hh, fun _ => by rw [hp, Int.toNat_natCast]; exact hy, fun h => absurd e1 h⟩
      have ed : st_do b (st_mS G) i = (st_mS G, st_ga b p) := by
        unfold st_do
        rw [if_neg (by omega), if_pos e1, hp, Int.toNat_natCast]
      refine mv_J.cn (gx_goes hY hi h5 hb p hpP) (fun _ G2 h2 => go G2 hc ?_)
      rw [ed]
      exact h2
  · refine mv_J.ce (gx_sits hY.1 hi.1 p (by omega)) (mv_J.bt (fun hn => mv_J.f e1 ?_) (fun hy => skip (fun hc => ?_)))
    · have h0 : b 3 p = -1 := Classical.byContradiction hn
      have hc : st_cn b i := ⟨hh, fun h => absurd h e1, fun _ => by rw [hp, Int.toNat_natCast]; exact h0⟩
      refine mv_J.i (fun e0 => ?_) (fun e0 => ?_)
      · have ed : st_do b (st_mS G) i = (st_sd (mv_cm b p) (b 0 2) (st_mS G), st_ca b p) := by
          unfold st_do
          rw [if_pos e0, hp, Int.toNat_natCast]
        refine mv_J.cn (gx_comes hY hi h5 hb p hpP h0) (fun v G2 h2 => ?_)
        rw [h2.1]
        exact sn _ G2 _ h2.2 (st_ca_ah hi.1).2.1 ed hc
      · have ed : st_do b (st_mS G) i = (st_sd (st_ba b p).1 (b 0 2) (st_mS G), (st_ba b p).2) := by
          unfold st_do
          rw [if_neg e0, if_neg e1, hp, Int.toNat_natCast]
        refine mv_J.cn (gx_begs hY hi h5 hb p hpP h0) (fun v G2 h2 => ?_)
        rw [h2.1]
        exact sn _ G2 _ h2.2 (st_ba_ah hi.1).2.1 ed hc
    · have := hc.2.2 e1
      rw [hp, Int.toNat_natCast] at this
      exact hy this
set_option maxRecDepth 100000 in
theorem gx_goesBy (hY : mv_mY G a) (hi : mv_iX a) (hh : a 0 2 ≤ 999) (h5 : G 100 0 5 = 0 ∨ G 100 0 5 = 1) (hb : G 100 0 5 = 0 → mv_bkM G a) : mv_Kp (ff_X12_goesBy [.inr (100, 0)] G) (fun v G' => v = (st_hr (st_mS G) a).1 ∧ st_mc G a G' (st_hr (st_mS G) a).2) := by
  have dd := hi.2.2.2.1
  have b1 := hi.1.1
  obtain ⟨L, hL⟩ : ∃ L : Nat, a 0 4 = L := ⟨(a 0 4).toNat, by omega⟩
  -- the seats are warmed
  have warm : ∀ (s : Int × (Int × Int) × mv_a) (G0 : mv_G), s = st_lx (0, st_mS G, a) L → st_mc G a G0 s.2 → mv_JP mm_X12_goesBy (fun v G' => v = (st_hr (st_mS G) a).1 ∧ st_mc G a G' (st_hr (st_mS G) a).2) 51 [some (.inr (100, 0)), some (.inl s.1), some (.inl 0), none] G0 := by
    intro s G0 hs h0
    obtain ⟨p1, p2, p3, p4⟩ := st_lx_p hi (c := st_mS G) L (by omega)
    have er : st_hr (st_mS G) a = (s.1, s.2.1, st_hn s.2.2) := by
      unfold st_hr
      rw [hL, Int.toNat_natCast, hs]
    rw [← hs] at p1 p2 p3 p4
    rw [er]
    obtain ⟨⟨sc, b⟩, hsb⟩ : ∃ u, s.2 = u := ⟨_, rfl⟩
    rw [hsb] at p1 p2 h0
    rw [hsb]
    dsimp only at p1 p2 ⊢
    obtain ⟨y0, q0, m0, f0⟩ := h0
    have y0 : mv_mY G0 b := y0
    have q0 : st_bp G a G0 b := q0
    have m0 : st_mS G0 = sc := m0
    have hbh : b 0 2 = a 0 2 := p2.2.1
    obtain ⟨hP, hPe⟩ := mv_P_le p1.1
    have bb := p1.1.1
    have j4 := p1.1.2.2.2.1
    have j5 := p1.1.2.2.2.2.1
    have j6 := p1.1.2.2.2.2.2.1
    obtain ⟨⟨⟨c1, c2, c3, -⟩, c4, c5, c6, c7, c8, c9, c10, c11⟩, l1, l2, dy1, dy2⟩ := y0
    have lp : ∀ (k p : Nat) (G1 : mv_G), p + k = mv_P b → (∀ k2, k2 ≠ 101 → G1 k2 = G0 k2) → (∀ j, j < 12 → G1 101 0 j = G0 101 0 j) → (∀ i, i < 60 → G1 101 0 (12 + i) = st_wf b (b 0 2) p i + 1) → mv_ch [101] [] G0 G1 → mv_JP mm_X12_goesBy (fun v G' => v = s.1 ∧ st_mc G a G' (sc, st_hn b)) 51 [some (.inr (100, 0)), some (.inl s.1), some (.inl (p : Int)), none] G1 := by
      intro k
      induction k with
      | zero =>
        intro p G1 hk hk2 hj hw hc
        refine mv_JP.of (rg_X12_goesBy_51 _ _ G1) (mv_J.f (by rw [hk2 100 (by decide), c2]; omega) (mv_J.ck (by decide) (mv_J.ck (by decide) ?_)))
        rw [hj 0 (by decide), c3, mv_ws (x := b 0 2 + 1) (by omega)]
        have e : p = mv_P b := by omega
        subst e
        have ek : ∀ k, k ≠ 101 → (mv_up G1 101 0 0 (b 0 2 + 1)) k = G0 k := fun k h => by rw [mv_up_k h, hk2 k h]
        have ej : ∀ j, j ≠ 0 → (mv_up G1 101 0 0 (b 0 2 + 1)) 101 0 j = G1 101 0 j := fun j h => mv_up_j h
        have e0 : (mv_up G1 101 0 0 (b 0 2 + 1)) 101 0 0 = b 0 2 + 1 := mv_ups_eq
        have ec : mv_ch [101] [] G0 (mv_up G1 101 0 0 (b 0 2 + 1)) := hc.uc rfl
        generalize mv_up G1 101 0 0 (b 0 2 + 1) = G3 at ek ej e0 ec
        have eh : ∀ o, o ≠ 0 → o ≠ 2 → st_hn b o = b o := fun o h1 h2 => (st_s1_o h1).trans (st_set_o h2)
        have eh0 : ∀ j, j ≠ 2 → st_hn b 0 j = b 0 j := fun j h => st_s1_j h
        unfold mv_mL at l1 l2
        have hyn : mv_mY G3 (st_hn b) := by
          refine ⟨⟨⟨?_, ?_, ?_, True.intro⟩, ?_, fun i hi => ?_, fun q hq => ?_, ?_, ?_, ?_, ?_, ?_⟩, ?_, ?_, ?_, ?_⟩
          · rw [ek 100 (by decide), eh0 0 (by decide)]; exact c1
          · rw [ek 100 (by decide), eh0 1 (by decide)]; exact c2
          · rw [e0]; rfl
          · rw [ek 104 (by decide), eh 1 (by decide) (by decide)]; exact c4
          · rw [ej _ (by omega), hw i hi]; rfl
          · rw [ej _ (by omega), hj _ (by omega), eh 3 (by decide) (by decide)]; exact c6 q hq
          · rw [ek 105 (by decide), eh 4 (by decide) (by decide)]; exact c7
          · rw [ek 106 (by decide), eh 5 (by decide) (by decide)]; exact c8
          · rw [ek 107 (by decide), eh 6 (by decide) (by decide)]; exact c9
          · rw [ek 108 (by decide), eh 7 (by decide) (by decide)]; exact c10
          · rw [ek 109 (by decide), eh 8 (by decide) (by decide)]; exact c11
          · unfold mv_mL
            rw [ek 113 (by decide), ek 114 (by decide), ek 115 (by decide), ek 116 (by decide), ek 117 (by decide), ek 118 (by decide), eh 17 (by decide) (by decide), eh (17 + 1) (by decide) (by decide), eh (17 + 2) (by decide) (by decide), eh (17 + 3) (by decide) (by decide), eh (17 + 4) (by decide) (by decide)]
            exact l1
          · unfold mv_mL
            rw [ek 113 (by decide), ek 114 (by decide), ek 115 (by decide), ek 116 (by decide), ek 117 (by decide), ek 118 (by decide), eh 22 (by decide) (by decide), eh (22 + 1) (by decide) (by decide), eh (22 + 2) (by decide) (by decide), eh (22 + 3) (by decide) (by decide), eh (22 + 4) (by decide) (by decide)]
            exact l2
          · rw [ek 100 (by decide), eh0 4 (by decide)]; exact dy1
          · rw [ek 120 (by decide), eh0 4 (by decide), eh 13 (by decide) (by decide), eh 14 (by decide) (by decide), eh 15 (by decide) (by decide)]; exact dy2
        refine mv_J.ret ⟨rfl, hyn, q0.tr (f0.slot 100 5 rfl) (st_bp.rf (ek 110 (by decide)) ?_ (eh0 3 (by decide)) ⟨eh 9 (by decide) (by decide), eh 10 (by decide) (by decide), eh 11 (by decide) (by decide), eh 12 (by decide) (by decide)⟩), ?_, f0.tr (ec.mono rfl rfl)⟩
        · rw [ej 1 (by decide), hj 1 (by decide)]
        · rw [← m0]; unfold st_mS; rw [ek 100 (by decide)]
      | succ k ih =>
        intro p G1 hk hk2 hj hw hc
        have t := j4 p (by omega)
        have t5 := j5 p (by omega)
        obtain ⟨wp, hwp⟩ : ∃ wp : Nat, b 4 p = wp := ⟨(b 4 p).toNat, by omega⟩
        refine mv_JP.of (rg_X12_goesBy_51 _ _ G1) (mv_J.t (by rw [hk2 100 (by decide), c2]; omega) ?_)
        -- one's seat
        have lp2 : ∀ (k2 t2 : Nat) (G2 : mv_G), t2 + k2 = wp → (t2 ≠ 0 → b 3 p ≠ -1) → (∀ k2, k2 ≠ 101 → G2 k2 = G0 k2) → (∀ j, j < 12 → G2 101 0 j = G0 101 0 j) → (∀ i : Nat, i < 60 → G2 101 0 (12 + i) = if b 3 p ≤ (i : Int) ∧ (i : Int) < b 3 p + t2 then b 0 2 + 1 else st_wf b (b 0 2) p i + 1) → mv_ch [101] [] G0 G2 → mv_JP mm_X12_goesBy (fun v G' => v = s.1 ∧ st_mc G a G' (sc, st_hn b)) 61 [some (.inr (100, 0)), some (.inl s.1), some (.inl (p : Int)), some (.inl (t2 : Int))] G2 := by
          intro k2
          induction k2 with
          | zero =>
            intro t2 G2 hk3 hne g1 g2 g3 g4
            have e : b 3 p ≠ -1 := hne (by omega)
            refine mv_JP.of (rg_X12_goesBy_61 _ _ _ G2) (mv_J.ck (by omega) ?_)
            rw [g1 105 (by decide), Int.toNat_natCast, c7 p (by omega), show mv_w ((p : Int) + 1) = ((p + 1 : Nat) : Int) from mv_ws (by omega)]
            refine mv_J.f (by omega) (mv_J.cut (ih (p + 1) G2 (by omega) g1 g2 (fun i hi => ?_) g4))
            rw [g3 i hi, st_wf_t e]
            by_cases c : b 3 p ≤ (i : Int) ∧ (i : Int) < b 3 p + t2
            · rw [if_pos c, if_pos (by omega)]
            · rw [if_neg c, if_neg (by omega)]
          | succ k2 ih2 =>
            intro t2 G2 hk3 hne g1 g2 g3 g4
            have sq : G2 101 0 (2 + p) = b 3 p + 1 := by rw [g2 _ (by omega)]; exact c6 p (by omega)
            refine mv_JP.of (rg_X12_goesBy_61 _ _ _ G2) (mv_J.ck (by omega) ?_)
            rw [g1 105 (by decide), Int.toNat_natCast, c7 p (by omega), show mv_w ((p : Int) + 1) = ((p + 1 : Nat) : Int) from mv_ws (by omega), show mv_w ((t2 : Int) + 1) = ((t2 + 1 : Nat) : Int) from mv_ws (by omega)]
            refine mv_J.t (by omega) (mv_J.ce (gy_sits sq t (by omega)) (mv_J.bt (fun hn => ?_) (fun hy => ?_)))
            · have e : b 3 p = -1 := Classical.byContradiction hn
              have z : t2 = 0 := Classical.byContradiction fun h => hne h e
              refine mv_J.cut (ih (p + 1) G2 (by omega) g1 g2 (fun i hi => ?_) g4)
              rw [g3 i hi, st_wf_s e, if_neg (by omega)]
            · obtain ⟨s6, -⟩ := j6 p (by omega) hy
              refine mv_J.ce (gy_inchOf sq t (by omega)) (mv_J.ck (by decide) ?_)
              rw [mv_ws (x := 12 + b 3 p) (by omega), mv_ws (x := 12 + b 3 p + t2) (by omega), mv_ckp (n := 72) (by omega), g2 0 (by decide), c3, mv_ws (x := b 0 2 + 1) (by omega), show Int.toNat (12 + b 3 p + (t2 : Int)) = 12 + ((b 3 p).toNat + t2) by omega]
              refine mv_J.cut (ih2 (t2 + 1) _ (by omega) (fun _ => hy) (fun k3 h3 => by rw [mv_up_k h3, g1 k3 h3]) (fun j hj2 => by rw [mv_up_j (by omega), g2 j hj2]) (fun i hi => ?_) (g4.uc rfl))
              rw [mv_up_at]
              by_cases c : i = (b 3 p).toNat + t2
              · rw [if_pos (by omega), if_pos (by omega)]
              · rw [if_neg (by omega), g3 i hi]
                by_cases c2 : b 3 p ≤ (i : Int) ∧ (i : Int) < b 3 p + t2
                · rw [if_pos c2, if_pos (by omega)]
                · rw [if_neg c2, if_neg (by omega)]
        exact mv_J.cut (lp2 wp 0 G1 (by omega) (fun h => absurd rfl h) hk2 hj (fun i hi => by rw [hw i hi, if_neg (by omega)]) hc)
    exact lp (mv_P b) 0 G0 (by omega) (fun _ _ => rfl) (fun _ _ => rfl) (fun i hi => by rw [st_wf_0]; exact c5 i hi) mv_ch.rf
  have lp : ∀ (k i : Nat) (G1 : mv_G) (s : Int × (Int × Int) × mv_a), i + k = L → s = st_lx (0, st_mS G, a) i → st_mc G a G1 s.2 → mv_JP mm_X12_goesBy (fun v G' => v = (st_hr (st_mS G) a).1 ∧ st_mc G a G' (st_hr (st_mS G) a).2) 4 [some (.inr (100, 0)), some (.inl s.1), some (.inl (i : Int)), none] G1 := by
    intro k
    induction k with
    | zero =>
      intro i G1 s hk hs h1
      obtain ⟨p1, p2, p3, p4⟩ := st_lx_p hi (c := st_mS G) i (by omega)
      rw [← hs] at p1 p2 p3 p4
      refine mv_JP.of (rg_X12_goesBy_4 _ _ G1) (mv_J.f ?_ (mv_J.cut (warm s G1 (by rw [hs, show i = L by omega]) h1)))
      rw [h1.1.2.2.2.1, p2.1.1 4 (by decide) (by decide)]; omega
    | succ k ih =>
      intro i G1 s hk hs h1
      obtain ⟨p1, p2, p3, p4⟩ := st_lx_p hi (c := st_mS G) i (by omega)
      have hn : st_lx (0, st_mS G, a) (i + 1) = st_l1 s i := by rw [hs]; rfl
      rw [← hs] at p1 p2 p3 p4
      obtain ⟨n, c, b⟩ := s
      dsimp only at p1 p2 p3 p4 h1
      obtain ⟨y1, q1, m1, f1⟩ := h1
      have y1 : mv_mY G1 b := y1
      have q1 : st_bp G a G1 b := q1
      have m1 : st_mS G1 = c := m1
      have e4 : b 0 4 = a 0 4 := p2.1.1 4 (by decide) (by decide)
      have e5 : G1 100 0 5 = G 100 0 5 := f1.slot 100 5 rfl
      have hl : (i : Int) < b 0 4 := by omega
      obtain ⟨d1, d2, d3⟩ := y1.2.2.2.2 i hl
      refine mv_JP.of (rg_X12_goesBy_4 _ _ G1) (mv_J.t (by rw [y1.2.2.2.1, e4]; omega) ?_)
      rw [mv_ws (x := 3 * (i : Int)) (by omega), mv_ws (x := 3 * (i : Int) + 2) (by omega), show Int.toNat (3 * (i : Int) + 2) = 3 * i + 2 by omega, mv_ckp (n := 144) (by omega), d3, y1.1.1.2.2.1, show mv_w ((i : Int) + 1) = ((i + 1 : Nat) : Int) from mv_ws (by omega), show mv_w (n + 1) = n + 1 from mv_ws (by omega)]
      have skip : ¬ st_cn b i → ∀ G2, st_mc G a G2 (c, b) → mv_JP mm_X12_goesBy (fun v G' => v = (st_hr (st_mS G) a).1 ∧ st_mc G a G' (st_hr (st_mS G) a).2) 4 [some (.inr (100, 0)), some (.inl n), some (.inl ((i + 1 : Nat) : Int)), none] G2 := fun h G2 g => ih (i + 1) G2 (n, c, b) (by omega) (by rw [hn]; unfold st_l1; rw [st_if_n h]) g
      refine mv_J.ck (by decide) (mv_J.i (fun eh => ?_) (fun eh => mv_J.cut (skip (fun h => eh h.1) G1 ⟨y1, q1, m1, f1⟩)))
      refine mv_J.cn (gx_doesLine y1 p1 (by rw [e5]; exact h5) (fun e => q1.1 (e5.symm.trans e) (hb (e5.symm.trans e))) i hl eh) (fun v G2 h2 => ?_)
      rw [h2.1]
      obtain ⟨-, h2⟩ := h2
      refine mv_J.bt (fun hc => ?_) (fun hc => ?_)
      · rw [st_if_n hc] at h2
        exact mv_J.cut (skip hc G2 ⟨h2.1, q1.tr e5 h2.2.1, by rw [h2.2.2.1]; exact m1, f1.tr h2.2.2.2⟩)
      · rw [st_if_y hc, m1] at h2
        exact mv_J.cut (ih (i + 1) G2 (n + 1, st_do b c i) (by omega) (by rw [hn]; unfold st_l1; rw [st_if_y hc]) ⟨h2.1, q1.tr e5 h2.2.1, h2.2.2.1, f1.tr h2.2.2.2⟩)
  exact mv_Kp.of (mv_JP.of (rg_X12_goesBy_0 G) (mv_J.cut (lp L 0 G (0, st_mS G, a) (by omega) rfl ⟨hY, st_bp.rf rfl rfl rfl ⟨rfl, rfl, rfl, rfl⟩, rfl, mv_ch.rf⟩)))
end MH
