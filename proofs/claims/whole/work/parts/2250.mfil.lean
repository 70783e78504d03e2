/-! FILL, the reference: all stretches, and those between the listed. -/
def mv_sTs (G : mv_G) (w k : Nat) (a : mv_a) (n f0 : Nat) : Prop := ∀ f l : Nat, f ≤ l → (l : Int) ≤ a 0 0 → (l - f < n ∨ l - f = n ∧ f < f0) → mv_sT G w k (fun x => mv_clr a x w) f l
/-- all of them -/
def mv_sA (G : mv_G) (w k : Nat) (a : mv_a) : Prop := ∀ f l : Nat, f ≤ l → (l : Int) ≤ a 0 0 → mv_sT G w k (fun x => mv_clr a x w) f l
section MA
variable {G : mv_G} {a : mv_a} {w k : Nat}
set_option maxHeartbeats 1000000 in
theorem gx_findsStretches (hB : mv_mB G a) (hi : mv_iB a) (hw : 1 ≤ w ∧ w ≤ 20) (hk : k ≤ 15) : mv_Kp (ff_X12_findsStretches [.inr (100, 0), .inl w, .inl k] G) (fun _ G' => mv_sA G' w k a ∧ mv_ch [132, 133, 134] [] G G') := by
  have b1 := hi.1
  obtain ⟨P, hP⟩ : ∃ P : Int → mv_G → Prop, P = (fun _ G' => mv_sA G' w k a ∧ mv_ch [132, 133, 134] [] G G') := ⟨_, rfl⟩
  rw [← hP]
  have key : ∀ (q n : Nat) (G1 : mv_G), (n : Int) + q = a 0 0 + 1 → mv_ch [132, 133, 134] [] G G1 → mv_sTs G1 w k a n 0 → mv_JP mm_X12_findsStretches P 2 [some (.inr (100, 0)), some (.inl (w : Int)), some (.inl (k : Int)), some (.inl (n : Int)), none] G1 := by
    intro q
    induction q with
    | zero =>
      intro n G1 hq hc ht
      have hB1 := hB.ch hc (by decide) rfl rfl
      refine mv_JP.of (rg_X12_findsStretches_2 _ _ _ G1) (mv_J.ce (gx_length hB1 hi) (mv_J.t (by omega) (mv_J.ret ?_)))
      rw [hP]
      exact ⟨fun f l h1 h2 => ht f l h1 h2 (Or.inl (by omega)), hc⟩
    | succ q ih =>
      intro n G1 hq hc ht
      have hB1 := hB.ch hc (by decide) rfl rfl
      refine mv_JP.of (rg_X12_findsStretches_2 _ _ _ G1) (mv_J.ce (gx_length hB1 hi) (mv_J.f (by omega) (mv_J.cut ?_)))
      have inner : ∀ (m f : Nat) (G2 : mv_G), (f : Int) + n + m = a 0 0 + 1 → mv_ch [132, 133, 134] [] G G2 → mv_sTs G2 w k a n f → mv_JP mm_X12_findsStretches P 13 [some (.inr (100, 0)), some (.inl (w : Int)), some (.inl (k : Int)), some (.inl (n : Int)), some (.inl (f : Int))] G2 := by
        intro m
        induction m with
        | zero =>
          intro f G2 hm hc2 ht2
          have hB2 := hB.ch hc2 (by decide) rfl rfl
          refine mv_JP.of (rg_X12_findsStretches_13 _ _ _ _ G2) (mv_J.ce (gx_length hB2 hi) ?_)
          rw [mv_ws (x := (f : Int) + n) (by omega), mv_ws (x := (n : Int) + 1) (by omega)]
          refine mv_J.t (by omega) (mv_J.cut ?_)
          refine ih (n + 1) G2 (by omega) hc2 (fun f2 l2 h1 h2 h3 => ht2 f2 l2 h1 h2 ?_)
          omega
        | succ m ihm =>
          intro f G2 hm hc2 ht2
          have hB2 := hB.ch hc2 (by decide) rfl rfl
          refine mv_JP.of (rg_X12_findsStretches_13 _ _ _ _ G2) (mv_J.ce (gx_length hB2 hi) ?_)
          rw [mv_ws (x := (f : Int) + n) (by omega), mv_ws (x := (f : Int) + 1) (by omega), show (f : Int) + n = ((f + n : Nat) : Int) by omega]
          refine mv_J.f (by omega) (mv_J.cn (gx_findsStretch hB2 hi hw hk f (f + n) (by omega) (by omega) (fun f2 l2 h1 h2 h3 => ht2 f2 l2 h1 h2 (Or.inl (by omega)))) (fun v G3 h3 => mv_J.cut ?_))
          obtain ⟨e1, e2, e3⟩ := h3
          refine ihm (f + 1) G3 (by omega) (hc2.tr e3) (fun f2 l2 h1 h2 h3 => ?_)
          by_cases c : f2 = f ∧ l2 = f + n
          · rw [c.1, c.2]; exact e1
          · obtain ⟨o1, o2, o3⟩ := e2 (62 * f2 + l2) (by omega)
            obtain ⟨t1, t2, t3⟩ := ht2 f2 l2 h1 h2 (by omega)
            exact ⟨o1.trans t1, o2.trans t2, o3.trans t3⟩
      exact inner ((a 0 0).toNat + 1 - n) 0 G1 (by omega) hc ht
  exact mv_Kp.of (mv_JP.of (rg_X12_findsStretches_0 w k G) (mv_J.cut (key ((a 0 0).toNat + 1) 0 G (by omega) mv_ch.rf (fun f l h1 h2 h3 => by omega))))
theorem mv_sA.ch {S : List Nat} {T : List (Nat × Nat)} {G2 : mv_G} (h : mv_sA G w k a) (hc : mv_ch S T G G2) (h1 : ([132, 133, 134].any fun k => S.contains k || T.any fun q => q.1 == k) = false) : mv_sA G2 w k a := by
  have e := List.any_eq_false.mp h1
  intro f l h2 h3
  unfold mv_sT
  rw [hc.cell 132 (Bool.eq_false_iff.mpr (e 132 (by simp))), hc.cell 133 (Bool.eq_false_iff.mpr (e 133 (by simp))), hc.cell 134 (Bool.eq_false_iff.mpr (e 134 (by simp)))]
  exact h f l h2 h3
/-- the three numbers of a stretch -/
theorem gx_three (hB : mv_mB G a) (hi : mv_iB a) (hw : 1 ≤ w ∧ w ≤ 20) (hS : mv_sA G w k a) (f l : Int) (hf : 0 ≤ f ∧ f ≤ 100) (hl : l ≤ a 0 0) : ff_X12_ofStretch [.inr (100, 0), .inr (132, 0), .inl f, .inl l] G = some (mv_Fe w k (fun x => mv_clr a x w) f.toNat l, G) ∧ ff_X12_ofStretch [.inr (100, 0), .inr (133, 0), .inl f, .inl l] G = some (mv_Mo w k (fun x => mv_clr a x w) f.toNat l, G) ∧ ff_X12_ofStretch [.inr (100, 0), .inr (134, 0), .inl f, .inl l] G = some (mv_Me w k (fun x => mv_clr a x w) f.toNat l, G) := by
  obtain ⟨g, rfl⟩ : ∃ g : Nat, f = g := ⟨f.toNat, by omega⟩
  rw [Int.toNat_natCast]
  have nn : (g : Int) ≤ l → ((l.toNat : Nat) : Int) = l := fun h => by omega
  refine ⟨gx_ofStretch_132 hB hi g l _ (by omega) hl (fun h => ?_) (fun h => mv_stv_0 mv_Hf_ok hw.1 (by omega)), gx_ofStretch_133 hB hi g l _ (by omega) hl (fun h => ?_) (fun h => mv_stv_0 mv_Hm_ok hw.1 (by omega)), gx_ofStretch_134 hB hi g l _ (by omega) hl (fun h => ?_) (fun h => mv_stv_0 mv_Ha_ok hw.1 (by omega))⟩
  · have := (hS g l.toNat (by omega) (by omega)).1
    rw [nn h] at this
    exact this
  · have := (hS g l.toNat (by omega) (by omega)).2.1
    rw [nn h] at this
    exact this
  · have := (hS g l.toNat (by omega) (by omega)).2.2
    rw [nn h] at this
    exact this
set_option maxHeartbeats 1000000 in
theorem gx_fills {n : Nat} {r : mv_a} (hB : mv_mB G a) (hi : mv_iB a) (h : mv_mR G n r) (hr : mv_rok (a 0 0) n r) (hw : 1 ≤ w ∧ w ≤ 20) (hk : k ≤ 15) (hS : mv_sA G w k a) : mv_Kp (ff_X12_fills [.inr (100, 0), .inl k] G) (fun _ G' => (G' 100 0 61 = mv_tal 0 w k a n r (n + 1) 0 ∧ G' 100 0 62 = mv_tal 1 w k a n r (n + 1) 0 ∧ G' 100 0 63 = mv_tal 2 w k a n r (n + 1) 0) ∧ mv_ch [] [(100, 61), (100, 62), (100, 63)] G G') := by
  have b1 := hi.1
  have hn := hr.1
  obtain ⟨P, hP⟩ : ∃ P : Int → mv_G → Prop, P = (fun _ G' => (G' 100 0 61 = mv_tal 0 w k a n r (n + 1) 0 ∧ G' 100 0 62 = mv_tal 1 w k a n r (n + 1) 0 ∧ G' 100 0 63 = mv_tal 2 w k a n r (n + 1) 0) ∧ mv_ch [] [(100, 61), (100, 62), (100, 63)] G G') := ⟨_, rfl⟩
  rw [← hP]
  have key : ∀ (q g : Nat) (G1 : mv_G), g + q = n + 1 → mv_ch [] [(100, 61), (100, 62), (100, 63)] G G1 → G1 100 0 61 = mv_tal 0 w k a n r g 0 → G1 100 0 62 = mv_tal 1 w k a n r g 0 → G1 100 0 63 = mv_tal 2 w k a n r g 0 → mv_JP mm_X12_fills P 17 [some (.inr (100, 0)), some (.inl (k : Int)), some (.inl (g : Int)), none, none] G1 := by
    intro q
    induction q with
    | zero =>
      intro g G1 hq hc e1 e2 e3
      refine mv_JP.of (rg_X12_fills_17 _ _ G1) ?_
      rw [hc.slot 100 46 rfl, h.1]
      refine mv_J.t (by omega) (mv_J.ret ?_)
      rw [hP, show n + 1 = g by omega]
      exact ⟨⟨e1, e2, e3⟩, hc⟩
    | succ q ih =>
      intro g G1 hq hc e1 e2 e3
      have hB1 := hB.ch hc (by decide) rfl rfl
      have hR1 := h.ch hc (by decide) rfl
      have es : ∀ what, mv_tal what w k a n r (g + 1) 0 = mv_tal what w k a n r g 0 + mv_Tw what w k (fun x => mv_clr a x w) (mv_gf k r g).toNat (mv_gt (a 0 0) n k r g) := fun what => by
        have := mv_sm_s (g := fun gp => mv_Tw what w k (fun x => mv_clr a x w) (mv_gf k r gp).toNat (mv_gt (a 0 0) n k r gp)) g 0
        rw [Nat.zero_add] at this
        exact this
      have bs : ∀ what, 0 ≤ mv_tal what w k a n r g 0 ∧ mv_tal what w k a n r g 0 ≤ g * 60000 := fun what => mv_sm_b (g := fun gp => mv_Tw what w k (fun x => mv_clr a x w) (mv_gf k r gp).toNat (mv_gt (a 0 0) n k r gp)) (B := 60000) g 0 (fun x _ _ => mv_Tw_b hw.1 (by have := mv_gt_b (k := k) (gp := x) hr (by omega); omega))
      have bf := mv_gf_b (k := k) (gp := g) hr (by omega) (by omega)
      rw [if_pos (by omega)] at bf
      have bt := mv_gt_b (k := k) (gp := g) hr (by omega)
      have bT := fun what => mv_Tw_b (what := what) (k := k) (C := fun x => mv_clr a x w) (s := (mv_gf k r g).toNat) (l := mv_gt (a 0 0) n k r g) hw.1 (by omega)
      have tail : ∀ f t : Int, f = mv_gf k r g → t = mv_gt (a 0 0) n k r g → mv_J mm_X12_fills P (mv_cn (ff_X12_ofStretch [.inr (100, 0), .inr (132, 0), .inl f, .inl t] G1) fun r1 G2 => mv_cn (ff_X12_ofStretch [.inr (100, 0), .inr (133, 0), .inl f, .inl t] (mv_up G2 100 0 61 (mv_w (G1 100 0 61 + r1)))) fun r2 G3 => mv_cn (ff_X12_ofStretch [.inr (100, 0), .inr (134, 0), .inl f, .inl t] (mv_up G3 100 0 62 (mv_w ((mv_up G2 100 0 61 (mv_w (G1 100 0 61 + r1))) 100 0 62 + r2)))) fun r3 G4 => some (.inr (17, [some (.inr (100, 0)), some (.inl (k : Int)), some (.inl (mv_w ((g : Int) + 1))), none, none], mv_up G4 100 0 63 (mv_w ((mv_up G3 100 0 62 (mv_w ((mv_up G2 100 0 61 (mv_w (G1 100 0 61 + r1))) 100 0 62 + r2))) 100 0 63 + r3))))) := by
        intro f t hf ht
        subst hf
        subst ht
        obtain ⟨s0, s1, s2⟩ := gx_three (w := w) (k := k) hB1 hi hw (hS.ch hc rfl) (mv_gf k r g) (mv_gt (a 0 0) n k r g) (by omega) (by omega)
        have t0 : mv_Tw 0 w k (fun x => mv_clr a x w) (mv_gf k r g).toNat (mv_gt (a 0 0) n k r g) = mv_Fe w k (fun x => mv_clr a x w) (mv_gf k r g).toNat (mv_gt (a 0 0) n k r g) := rfl
        have t1 : mv_Tw 1 w k (fun x => mv_clr a x w) (mv_gf k r g).toNat (mv_gt (a 0 0) n k r g) = mv_Mo w k (fun x => mv_clr a x w) (mv_gf k r g).toNat (mv_gt (a 0 0) n k r g) := rfl
        have t2 : mv_Tw 2 w k (fun x => mv_clr a x w) (mv_gf k r g).toNat (mv_gt (a 0 0) n k r g) = mv_Me w k (fun x => mv_clr a x w) (mv_gf k r g).toNat (mv_gt (a 0 0) n k r g) := rfl
        rw [← t0] at s0
        have b00 := bs 0
        have b01 := bs 1
        have b02 := bs 2
        have c00 := bT 0
        have c01 := bT 1
        have c02 := bT 2
        have v0 := es 0
        have v1 := es 1
        have v2 := es 2
        refine mv_J.ce s0 ?_
        rw [e1, mv_ws (by omega), ← v0]
        have hc2 := hc.up (k := 100) (i := 0) (j := 61) (v := mv_tal 0 w k a n r (g + 1) 0) rfl
        have e1' : (mv_up G1 100 0 61 (mv_tal 0 w k a n r (g + 1) 0)) 100 0 61 = mv_tal 0 w k a n r (g + 1) 0 := mv_ups_eq
        have e2' : (mv_up G1 100 0 61 (mv_tal 0 w k a n r (g + 1) 0)) 100 0 62 = mv_tal 1 w k a n r g 0 := by rw [mv_up_j (by decide)]; exact e2
        have e3' : (mv_up G1 100 0 61 (mv_tal 0 w k a n r (g + 1) 0)) 100 0 63 = mv_tal 2 w k a n r g 0 := by rw [mv_up_j (by decide)]; exact e3
        generalize mv_up G1 100 0 61 (mv_tal 0 w k a n r (g + 1) 0) = G2 at hc2 e1' e2' e3'
        obtain ⟨-, s1, -⟩ := gx_three (w := w) (k := k) (hB.ch hc2 (by decide) rfl rfl) hi hw (hS.ch hc2 rfl) (mv_gf k r g) (mv_gt (a 0 0) n k r g) (by omega) (by omega)
        rw [← t1] at s1
        refine mv_J.ce s1 ?_
        rw [e2', mv_ws (by omega), ← v1]
        have hc3 := hc2.up (k := 100) (i := 0) (j := 62) (v := mv_tal 1 w k a n r (g + 1) 0) rfl
        have e1'' : (mv_up G2 100 0 62 (mv_tal 1 w k a n r (g + 1) 0)) 100 0 61 = mv_tal 0 w k a n r (g + 1) 0 := by rw [mv_up_j (by decide)]; exact e1'
        have e2'' : (mv_up G2 100 0 62 (mv_tal 1 w k a n r (g + 1) 0)) 100 0 62 = mv_tal 1 w k a n r (g + 1) 0 := mv_ups_eq
        have e3'' : (mv_up G2 100 0 62 (mv_tal 1 w k a n r (g + 1) 0)) 100 0 63 = mv_tal 2 w k a n r g 0 := by rw [mv_up_j (by decide)]; exact e3'
        generalize mv_up G2 100 0 62 (mv_tal 1 w k a n r (g + 1) 0) = G3 at hc3 e1'' e2'' e3''
        obtain ⟨-, -, s2⟩ := gx_three (w := w) (k := k) (hB.ch hc3 (by decide) rfl rfl) hi hw (hS.ch hc3 rfl) (mv_gf k r g) (mv_gt (a 0 0) n k r g) (by omega) (by omega)
        rw [← t2] at s2
        refine mv_J.ce s2 (mv_J.cut ?_)
        rw [e3'', mv_ws (x := mv_tal 2 w k a n r g 0 + _) (by omega), ← v2, mv_ws (x := (g : Int) + 1) (by omega)]
        have := ih (g + 1) (mv_up G3 100 0 63 (mv_tal 2 w k a n r (g + 1) 0)) (by omega) (hc3.up rfl) (by rw [mv_up_j (by decide)]; exact e1'') (by rw [mv_up_j (by decide)]; exact e2'') mv_ups_eq
        exact this
      refine mv_JP.of (rg_X12_fills_17 _ _ G1) ?_
      rw [hR1.1]
      have at0 : ∀ i, i < n → G1 123 0 i = r 0 i := fun i hi => hR1.2 0 (by decide) i hi
      have at1 : ∀ i, i < n → G1 124 0 i = r 1 i := fun i hi => hR1.2 1 (by decide) i hi
      have at2 : ∀ i, i < n → G1 125 0 i = r 2 i := fun i hi => hR1.2 2 (by decide) i hi
      have qn : g < n → mv_w (r 0 g - (if (k : Int) < r 2 g then r 2 g else (k : Int))) = mv_gt (a 0 0) n k r g := fun h => by
        have q1 := hr.2 g h
        have q2 := mv_mx_b (x := r 2 g) (y := k) q1.2.1 (by omega)
        have e : (if (k : Int) < r 2 g then r 2 g else (k : Int)) = mv_mx (r 2 g) k := mv_mx_c _ _
        rw [e, mv_ws (by omega)]
        exact (if_pos h).symm
      have qm : 0 < g → mv_w (r 1 (g - 1) + (if (k : Int) < r 2 (g - 1) then r 2 (g - 1) else (k : Int))) = mv_gf k r g := fun h => by
        have q1 := hr.2 (g - 1) (by omega)
        have q2 := mv_mx_b (x := r 2 (g - 1)) (y := k) q1.2.1 (by omega)
        have e : (if (k : Int) < r 2 (g - 1) then r 2 (g - 1) else (k : Int)) = mv_mx (r 2 (g - 1)) k := mv_mx_c _ _
        rw [e, mv_ws (by omega)]
        exact (if_pos h).symm
      refine mv_J.f (by omega) (mv_J.i (fun h1 => mv_J.i (fun h2 => mv_J.ce (gx_length hB1 hi) ?_) (fun h2 => mv_J.ck (by omega) (mv_J.ck (by omega) ?_))) (fun h1 => ?_))
      · refine tail 0 _ ?_ ?_
        · unfold mv_gf; rw [if_neg (by omega)]
        · unfold mv_gt; rw [if_neg (by omega)]
      · rw [Int.toNat_natCast, at2 g (by omega), at0 g (by omega)]
        refine mv_J.ce (gx_greater _ _ _) ?_
        rw [qn (by omega)]
        exact tail 0 _ (by unfold mv_gf; rw [if_neg (by omega)]) rfl
      · rw [mv_ws (x := (g : Int) - 1) (by omega), show ((g : Int) - 1).toNat = g - 1 by omega, at2 (g - 1) (by omega), at1 (g - 1) (by omega)]
        refine mv_J.ck (by omega) (mv_J.ck (by omega) (mv_J.ce (gx_greater _ _ _) ?_))
        rw [qm (by omega), hR1.1]
        refine mv_J.i (fun h2 => mv_J.ce (gx_length hB1 hi) ?_) (fun h2 => ?_)
        · refine tail _ _ rfl ?_
          unfold mv_gt; rw [if_neg (by omega)]
        · rw [Int.toNat_natCast, at2 g (by omega), at0 g (by omega)]
          refine mv_J.ck (by omega) (mv_J.ck (by omega) (mv_J.ce (gx_greater _ _ _) ?_))
          rw [qn (by omega)]
          exact tail _ _ rfl rfl
  refine mv_Kp.of (mv_JP.of (rg_X12_fills_0 k G) (mv_J.cut ?_))
  have := key (n + 1) 0 (mv_up (mv_up (mv_up G 100 0 61 0) 100 0 62 0) 100 0 63 0) (by omega) (((mv_ch.rf.up rfl).up rfl).up rfl) (by rw [mv_up_j (by decide), mv_up_j (by decide), mv_ups_eq]; rfl) (by rw [mv_up_j (by decide), mv_ups_eq]; rfl) mv_ups_eq
  exact this
end MA
