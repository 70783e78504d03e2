/-! person and set. -/
section PE
variable {G G2 : mv_G} {a b : mv_a}
/-- the bench's numbers, where one person's are told anew -/
theorem mv_iB.p {p : Nat} (h : mv_iB a) (e0 : b 0 0 = a 0 0 ∧ b 0 2 = a 0 2 ∧ b 0 3 = a 0 3) (hP : a 0 1 ≤ b 0 1 ∧ b 0 1 ≤ 10) (hp : ∀ q : Nat, (q : Int) < b 0 1 → q ≠ p → (q : Int) < a 0 1) (e1 : b 1 = a 1) (e2 : b 2 = a 2) (e : ∀ q, q ≠ p → b 3 q = a 3 q ∧ b 4 q = a 4 q ∧ b 5 q = a 5 q ∧ b 6 q = a 6 q ∧ b 7 q = a 7 q ∧ b 8 q = a 8 q)
    (ht : (1 ≤ b 4 p ∧ b 4 p ≤ 20) ∧ (0 ≤ b 5 p ∧ b 5 p ≤ 15) ∧ (0 ≤ b 6 p ∧ b 6 p ≤ 10) ∧ (0 ≤ b 7 p ∧ b 7 p ≤ 9) ∧ 0 ≤ b 8 p ∧ b 8 p ≤ 1) (hs : b 3 p = -1 ∨ ((p : Int) < a 0 1 ∧ b 3 p = a 3 p ∧ b 4 p = a 4 p ∧ b 6 p = a 6 p)) : mv_iB b := by
  obtain ⟨i1, i2, i3, i4, i5, i6, i7⟩ := h
  have eq : ∀ q : Nat, (q : Int) < b 0 1 → b 3 q ≠ -1 → (q : Int) < a 0 1 ∧ b 3 q = a 3 q ∧ b 4 q = a 4 q ∧ b 6 q = a 6 q := fun q h1 h2 => by
    by_cases c : q = p
    · subst c
      exact hs.resolve_left h2
    · obtain ⟨q1, q2, q3, q4, q5, q6⟩ := e q c
      exact ⟨hp q h1 c, q1, q2, q4⟩
  refine ⟨by omega, by rw [e1]; exact i2, by rw [e2]; exact i3, fun q hq => ?_, fun q hq => ?_, fun q hq hqs => ?_, fun q r hq hr hne hqs hrs => ?_⟩
  · by_cases c : q = p
    · subst c
      rcases hs with hs | hs
      · omega
      · have := i4 q hq; omega
    · rw [(e q c).1]; exact i4 q hq
  · by_cases c : q = p
    · subst c; exact ht
    · obtain ⟨q1, q2, q3, q4, q5, q6⟩ := e q c
      rw [q2, q3, q4, q5, q6]
      exact i5 q (hp q hq c)
  · obtain ⟨g1, g2, g3, g4⟩ := eq q hq hqs
    rw [g2] at hqs
    rw [g2, g3, g4, e0.1, e1]
    exact i6 q g1 hqs
  · obtain ⟨g1, g2, g3, g4⟩ := eq q hq hqs
    obtain ⟨k1, k2, k3, k4⟩ := eq r hr hrs
    rw [g2] at hqs
    rw [k2] at hrs
    rw [g2, g3, g4, k2, k3, k4]
    exact i7 q r g1 k1 hne hqs hrs
/-- a new person -/
def st_pe (a : mv_a) (w k b g m : Int) : mv_a := st_s1 (st_s1 (st_set (st_set (st_set (st_set (st_set (st_set a 4 (mv_sp (a 4) (a 0 1).toNat w)) 5 (mv_sp (a 5) (a 0 1).toNat k)) 6 (mv_sp (a 6) (a 0 1).toNat b)) 7 (mv_sp (a 7) (a 0 1).toNat g)) 8 (mv_sp (a 8) (a 0 1).toNat m)) 3 (mv_sp (a 3) (a 0 1).toNat (-1))) 1 (a 0 1 + 1)) 5 0
theorem st_pe_l {w k b g m : Int} : st_pe a w k b g m 0 0 = a 0 0 ∧ st_pe a w k b g m 0 1 = a 0 1 + 1 ∧ st_pe a w k b g m 0 2 = a 0 2 ∧ st_pe a w k b g m 0 3 = a 0 3 ∧ st_pe a w k b g m 0 4 = a 0 4 ∧ st_pe a w k b g m 0 5 = 0 ∧ st_pe a w k b g m 1 = a 1 ∧ st_pe a w k b g m 2 = a 2 ∧ st_pe a w k b g m 3 = mv_sp (a 3) (a 0 1).toNat (-1) ∧ st_pe a w k b g m 4 = mv_sp (a 4) (a 0 1).toNat w ∧ st_pe a w k b g m 5 = mv_sp (a 5) (a 0 1).toNat k ∧ st_pe a w k b g m 6 = mv_sp (a 6) (a 0 1).toNat b ∧ st_pe a w k b g m 7 = mv_sp (a 7) (a 0 1).toNat g ∧ st_pe a w k b g m 8 = mv_sp (a 8) (a 0 1).toNat m := ⟨rfl, rfl, rfl, rfl, rfl, rfl, rfl, rfl, rfl, rfl, rfl, rfl, rfl, rfl⟩
theorem st_pe_o {w k b g m : Int} {o : Nat} (h : 9 ≤ o) : st_pe a w k b g m o = a o := by
  unfold st_pe
  rw [st_s1_o (by omega), st_s1_o (by omega), st_set_o (by omega), st_set_o (by omega), st_set_o (by omega), st_set_o (by omega), st_set_o (by omega), st_set_o (by omega)]
theorem st_pe_T {w k b g m : Int} : ag_T a (st_pe a w k b g m) ∧ ag_I a (st_pe a w k b g m) := ⟨⟨rfl, rfl, rfl, st_pe_o (by decide)⟩, rfl, fun o h => st_pe_o (by omega)⟩
def st_pq (a : mv_a) (w k b g m : Int) : Prop := mv_alw 0 w ∧ mv_alw 1 k ∧ mv_alw 2 b ∧ mv_alw 3 g ∧ mv_alw 4 m ∧ a 0 1 < 10
theorem mv_alw_l {v : Int} : (mv_alw 0 v ↔ 1 ≤ v ∧ v ≤ 20) ∧ (mv_alw 1 v ↔ 0 ≤ v ∧ v ≤ 15) ∧ (mv_alw 2 v ↔ 0 ≤ v ∧ v ≤ 10) ∧ (mv_alw 3 v ↔ 0 ≤ v ∧ v ≤ 9) ∧ (mv_alw 4 v ↔ 0 ≤ v ∧ v ≤ 1) :=
  ⟨⟨fun h => h.2, fun h => ⟨by decide, h⟩⟩, ⟨fun h => h.2, fun h => ⟨by decide, h⟩⟩, ⟨fun h => h.2, fun h => ⟨by decide, h⟩⟩, ⟨fun h => h.2, fun h => ⟨by decide, h⟩⟩, ⟨fun h => h.2, fun h => ⟨by decide, h⟩⟩⟩
theorem bx_person (w k b g m : Int) : st_bx (ff_X11_person [.inr (0, 0), .inl w, .inl k, .inl b, .inl g, .inl m]) (ff_X12_person [.inr (100, 0), .inl w, .inl k, .inl b, .inl g, .inl m]) := by
  obtain ⟨al0, -⟩ := mv_alw_l (v := w)
  obtain ⟨-, al1, -⟩ := mv_alw_l (v := k)
  obtain ⟨-, -, al2, -⟩ := mv_alw_l (v := b)
  obtain ⟨-, -, -, al3, -⟩ := mv_alw_l (v := g)
  obtain ⟨-, -, -, -, al4⟩ := mv_alw_l (v := m)
  obtain ⟨nx, hnx⟩ : ∃ nx : mv_a → mv_a, nx = fun a => @ite _ (st_pq a w k b g m) (Classical.propDecidable _) (st_pe a w k b g m) a := ⟨_, rfl⟩
  obtain ⟨an, han⟩ : ∃ an : mv_a → Int, an = fun a => @ite _ (st_pq a w k b g m) (Classical.propDecidable _) (a 0 1) (-1) := ⟨_, rfl⟩
  have y : ∀ a, st_pq a w k b g m → nx a = st_pe a w k b g m ∧ an a = a 0 1 := fun a h => by rw [hnx, han]; exact ⟨if_pos h, if_pos h⟩
  have nn : ∀ a, ¬ st_pq a w k b g m → nx a = a ∧ an a = -1 := fun a h => by rw [hnx, han]; exact ⟨if_neg h, if_neg h⟩
  refine st_bx_of an nx (fun G a hc hi => ?_) (fun G a hm hi => ?_) (fun a hi => ?_)
  · have b1 := hi.1.1.1
    obtain ⟨P, hP⟩ : ∃ P : Nat, a 0 1 = P := ⟨(a 0 1).toNat, by omega⟩
    have no : ¬ st_pq a w k b g m → mv_J mm_X11_person (fun v G' => v = an a ∧ st_cW G' (nx a) ∧ mv_fC G G') (some (.inl (-1, G))) := fun h => mv_J.ret ⟨(nn a h).2.symm, by rw [(nn a h).1]; exact hc, mv_fC.rf⟩
    refine mv_Kp.of (mv_JP.of (rg_X11_person_0 w k b g m G) ?_)
    refine mv_J.ce (fx_allowed _ _ _) (mv_J.bt (fun h => no (fun h2 => h h2.1)) (fun h0 => mv_J.ce (fx_allowed _ _ _) (mv_J.bt (fun h => no (fun h2 => h h2.2.1)) (fun h1 => mv_J.ce (fx_allowed _ _ _) (mv_J.bt (fun h => no (fun h2 => h h2.2.2.1)) (fun h2 => mv_J.ce (fx_allowed _ _ _) (mv_J.bt (fun h => no (fun h2 => h h2.2.2.2.1)) (fun h3 => mv_J.ce (fx_allowed _ _ _) (mv_J.bt (fun h => no (fun h2 => h h2.2.2.2.2.1)) (fun h4 => ?_))))))))))
    rw [hc.1.1.1.2.1]
    refine mv_J.i (fun h5 => ?_) (fun h5 => no (fun h2 => h5 h2.2.2.2.2.2))
    have hq : st_pq a w k b g m := ⟨h0, h1, h2, h3, h4, h5⟩
    rw [hP, Int.toNat_natCast, mv_ws (by omega)]
    refine mv_J.ck (by omega) (mv_J.ck (by omega) (mv_J.ck (by omega) (mv_J.ck (by omega) (mv_J.ck (by omega) (mv_J.ck (by omega) (mv_J.ck (by omega) (mv_J.ck (by omega) (mv_J.ck (by omega) (mv_J.ck (by omega) (mv_J.ck (by omega) (mv_J.ce fx_forget (mv_J.ret ⟨by rw [(y a hq).2, hP], ?_, ?_⟩))))))))))))
    · rw [(y a hq).1]
      obtain ⟨l0, l1, l2, l3, l4, l5, l6, l7, l8, l9, l10, l11, l12, l13⟩ := st_pe_l (a := a) (w := w) (k := k) (b := b) (g := g) (m := m)
      rw [hP, Int.toNat_natCast] at l8 l9 l10 l11 l12 l13
      obtain ⟨⟨b1, b2, b3, b4, b5, b6, b7, b8, b9, b10⟩, -⟩ := hc.1
      have c2 : mv_ch [5, 6] [(1, 1), (47, 0)] G (mv_up (mv_up (mv_up (mv_up (mv_up (mv_up (mv_up (mv_up G 1 0 1 ((P : Int) + 1)) 5 1 P w) 5 2 P k) 5 3 P b) 5 4 P g) 5 5 P m) 6 0 P (-1)) 47 0 0 0) := (((((((mv_ch.rf.up rfl).uc rfl).uc rfl).uc rfl).uc rfl).uc rfl).uc rfl).up rfl
      have ek : ∀ k2, k2 ≠ 1 → k2 ≠ 5 → k2 ≠ 6 → k2 ≠ 47 → (mv_up (mv_up (mv_up (mv_up (mv_up (mv_up (mv_up (mv_up G 1 0 1 ((P : Int) + 1)) 5 1 P w) 5 2 P k) 5 3 P b) 5 4 P g) 5 5 P m) 6 0 P (-1)) 47 0 0 0) k2 = G k2 := fun k2 h1 h2 h3 h4 => c2.cell k2 (by simp; omega)
      have sp : ∀ (f : Nat → Int) (v : Int), mv_sp f P v = fun j => if j = P then v else f j := fun _ _ => rfl
      have e5 : ∀ i j, (mv_up (mv_up (mv_up (mv_up (mv_up (mv_up (mv_up (mv_up G 1 0 1 ((P : Int) + 1)) 5 1 P w) 5 2 P k) 5 3 P b) 5 4 P g) 5 5 P m) 6 0 P (-1)) 47 0 0 0) 5 i j = (mv_up (mv_up (mv_up (mv_up (mv_up G 5 1 P w) 5 2 P k) 5 3 P b) 5 4 P g) 5 5 P m) 5 i j := fun i j => by
        rw [mv_up_k (by decide), mv_up_k (by decide)]
        show (if _ then m else if _ then g else if _ then b else if _ then k else if _ then w else mv_up G 1 0 1 _ 5 i j) = if _ then m else if _ then g else if _ then b else if _ then k else if _ then w else G 5 i j
        rw [mv_up_k (show (5 : Nat) ≠ 1 by decide)]
      have e6 : ∀ j, (mv_up (mv_up (mv_up (mv_up (mv_up (mv_up (mv_up (mv_up G 1 0 1 ((P : Int) + 1)) 5 1 P w) 5 2 P k) 5 3 P b) 5 4 P g) 5 5 P m) 6 0 P (-1)) 47 0 0 0) 6 0 j = if j = P then -1 else G 6 0 j := fun j => by
        rw [mv_up_k (by decide), mv_up_at, mv_up_k (by decide), mv_up_k (by decide), mv_up_k (by decide), mv_up_k (by decide), mv_up_k (by decide), mv_up_k (by decide)]
      have e1 : (mv_up (mv_up (mv_up (mv_up (mv_up (mv_up (mv_up (mv_up G 1 0 1 ((P : Int) + 1)) 5 1 P w) 5 2 P k) 5 3 P b) 5 4 P g) 5 5 P m) 6 0 P (-1)) 47 0 0 0) 1 0 1 = (P : Int) + 1 := by
        rw [mv_up_k (by decide), mv_up_k (by decide), mv_up_k (by decide), mv_up_k (by decide), mv_up_k (by decide), mv_up_k (by decide), mv_up_k (by decide), mv_ups_eq]
      have e47 : (mv_up (mv_up (mv_up (mv_up (mv_up (mv_up (mv_up (mv_up G 1 0 1 ((P : Int) + 1)) 5 1 P w) 5 2 P k) 5 3 P b) 5 4 P g) 5 5 P m) 6 0 P (-1)) 47 0 0 0) 47 0 0 = 0 := mv_ups_eq
      have told : ∀ (G5 : mv_G), (∀ i j, G5 5 i j = (mv_up (mv_up (mv_up (mv_up (mv_up G 5 1 P w) 5 2 P k) 5 3 P b) 5 4 P g) 5 5 P m) 5 i j) → G5 5 1 = mv_sp (a 4) P w ∧ G5 5 2 = mv_sp (a 5) P k ∧ G5 5 3 = mv_sp (a 6) P b ∧ G5 5 4 = mv_sp (a 7) P g ∧ G5 5 5 = mv_sp (a 8) P m := fun G5 h => by
        refine ⟨funext fun j => ?_, funext fun j => ?_, funext fun j => ?_, funext fun j => ?_, funext fun j => ?_⟩
        · rw [h, mv_up_i (by decide), mv_up_i (by decide), mv_up_i (by decide), mv_up_i (by decide), mv_up_at, b5]; rfl
        · rw [h, mv_up_i (by decide), mv_up_i (by decide), mv_up_i (by decide), mv_up_at, mv_up_i (by decide), b6]; rfl
        · rw [h, mv_up_i (by decide), mv_up_i (by decide), mv_up_at, mv_up_i (by decide), mv_up_i (by decide), b7]; rfl
        · rw [h, mv_up_i (by decide), mv_up_at, mv_up_i (by decide), mv_up_i (by decide), mv_up_i (by decide), b8]; rfl
        · rw [h, mv_up_at, mv_up_i (by decide), mv_up_i (by decide), mv_up_i (by decide), mv_up_i (by decide), b9]; rfl
      generalize mv_up (mv_up (mv_up (mv_up (mv_up (mv_up (mv_up (mv_up G 1 0 1 ((P : Int) + 1)) 5 1 P w) 5 2 P k) 5 3 P b) 5 4 P g) 5 5 P m) 6 0 P (-1)) 47 0 0 0 = G1 at c2 ek e5 e6 e1 e47
      obtain ⟨t1, t2, t3, t4, t5⟩ := told G1 e5
      refine hc.bn (hc.1.rs ⟨⟨?_, ?_, ?_, True.intro⟩, ?_, ?_, ?_, ?_, ?_, ?_, ?_, ?_, ?_⟩ (fun k2 h1 h2 => ek k2 (by omega) (by omega) (by omega) (by omega)) (c2.slot 1 3 rfl) ⟨l3, l4⟩ (fun o h1 h2 h3 => st_pe_o h1)) (hc.2.1.z (c2.slot 47 1 rfl) e47 l5) (fun k2 hk => ek k2 (by omega) (by omega) (by omega) (by omega)) (by rw [ek 0 (by decide) (by decide) (by decide) (by decide)]) (fun j hj => by rw [ek 52 (by decide) (by decide) (by decide) (by decide)]) st_pe_T.1 st_pe_T.2
      · rw [c2.slot 1 0 rfl, l0]; exact b1.1
      · rw [e1, l1, hP]
      · rw [c2.slot 1 2 rfl, l2]; exact b1.2.2.1
      · rw [ek 2 (by decide) (by decide) (by decide) (by decide), l6]; exact b2
      · rw [ek 4 (by decide) (by decide) (by decide) (by decide), l7]; exact b3
      · rw [l8]
        refine funext fun j => ?_
        rw [e6, b4]; rfl
      · rw [t1, l9]
      · rw [t2, l10]
      · rw [t3, l11]
      · rw [t4, l12]
      · rw [t5, l13]
      · rw [l0, l6, ek 3 (by decide) (by decide) (by decide) (by decide)]; exact b10
    · exact mv_ch.fC (S := [5, 6]) (T := [(1, 1), (47, 0)]) ((((((((mv_ch.rf.up rfl).uc rfl).uc rfl).uc rfl).uc rfl).uc rfl).uc rfl).up rfl) rfl
  · have b1 := hi.1.1.1
    obtain ⟨P, hP⟩ : ∃ P : Nat, a 0 1 = P := ⟨(a 0 1).toNat, by omega⟩
    have c0 : mv_ch [] [(100, 0)] G (mv_up G 100 0 0 0) := mv_ch.rf.up rfl
    have hm0 := hm.ch hi.1 c0 (by decide) (by decide)
    have f0 : mv_fM G (mv_up G 100 0 0 0) := c0.fM rfl
    refine mv_Kp.of (mv_JP.of (rg_X12_person_0 w k b g m G) ?_)
    generalize mv_up G 100 0 0 0 = G0 at hm0 f0
    have no : ¬ st_pq a w k b g m → mv_J mm_X12_person (fun v G' => v = an a ∧ st_mW G' (nx a) ∧ mv_fM G G') (some (.inl (-1, G0))) := fun h => mv_J.ret ⟨(nn a h).2.symm, by rw [(nn a h).1]; exact hm0, f0⟩
    refine mv_J.ce (gx_isIn _ _ _ _) (mv_J.bt (fun h => no (fun h2 => h (al0.mp h2.1))) (fun h0 => mv_J.ce (gx_isIn _ _ _ _) (mv_J.bt (fun h => no (fun h2 => h (al1.mp h2.2.1))) (fun h1 => mv_J.ce (gx_isIn _ _ _ _) (mv_J.bt (fun h => no (fun h2 => h (al2.mp h2.2.2.1))) (fun h2 => mv_J.ce (gx_isIn _ _ _ _) (mv_J.bt (fun h => no (fun h2 => h (al3.mp h2.2.2.2.1))) (fun h3 => mv_J.ce (gx_isIn _ _ _ _) (mv_J.bt (fun h => no (fun h2 => h (al4.mp h2.2.2.2.2.1))) (fun h4 => ?_))))))))))
    have eP : G0 100 0 8 = (P : Int) := hm0.1.1.1.2.1.trans hP
    rw [eP]
    refine mv_J.i (fun h5 => no (fun h2 => by have := h2.2.2.2.2.2; omega)) (fun h5 => ?_)
    have hq : st_pq a w k b g m := ⟨al0.mpr h0, al1.mpr h1, al2.mpr h2, al3.mpr h3, al4.mpr h4, by omega⟩
    have e8 : (mv_up (mv_up (mv_up (mv_up (mv_up (mv_up G0 105 0 P w) 106 0 P k) 107 0 P b) 108 0 P g) 109 0 P m) 101 0 (2 + P) 0) 100 0 8 = (P : Int) := by
      rw [mv_up_k (by decide), mv_up_k (by decide), mv_up_k (by decide), mv_up_k (by decide), mv_up_k (by decide), mv_up_k (by decide)]; exact eP
    rw [mv_ws (x := 2 + (P : Int)) (by omega), show Int.toNat (2 + (P : Int)) = 2 + P by omega, Int.toNat_natCast, e8, mv_ws (x := (P : Int) + 1) (by omega)]
    refine mv_J.ck (by omega) (mv_J.ck (by omega) (mv_J.ck (by omega) (mv_J.ck (by omega) (mv_J.ck (by omega) (mv_J.ck (by omega) (mv_J.ret ⟨by rw [(y a hq).2, hP], ?_, f0.tr ?_⟩))))))
    · rw [(y a hq).1]
      obtain ⟨l0, l1, l2, l3, l4, l5, l6, l7, l8, l9, l10, l11, l12, l13⟩ := st_pe_l (a := a) (w := w) (k := k) (b := b) (g := g) (m := m)
      rw [hP, Int.toNat_natCast] at l8 l9 l10 l11 l12 l13
      obtain ⟨⟨b1, b2, b3, b4, b5, b6, b7, b8, b9⟩, -⟩ := hm0.1
      have c2 : mv_ch [101, 105, 106, 107, 108, 109] [(100, 8), (100, 3)] G0 (mv_up (mv_up (mv_up (mv_up (mv_up (mv_up (mv_up (mv_up G0 105 0 P w) 106 0 P k) 107 0 P b) 108 0 P g) 109 0 P m) 101 0 (2 + P) 0) 100 0 8 ((P : Int) + 1)) 100 0 3 0) := (((((((mv_ch.rf.uc rfl).uc rfl).uc rfl).uc rfl).uc rfl).uc rfl).up rfl).up rfl
      have s3 : (mv_up (mv_up (mv_up (mv_up (mv_up (mv_up (mv_up (mv_up G0 105 0 P w) 106 0 P k) 107 0 P b) 108 0 P g) 109 0 P m) 101 0 (2 + P) 0) 100 0 8 ((P : Int) + 1)) 100 0 3 0) 100 0 3 = 0 := mv_ups_eq
      have s8 : (mv_up (mv_up (mv_up (mv_up (mv_up (mv_up (mv_up (mv_up G0 105 0 P w) 106 0 P k) 107 0 P b) 108 0 P g) 109 0 P m) 101 0 (2 + P) 0) 100 0 8 ((P : Int) + 1)) 100 0 3 0) 100 0 8 = (P : Int) + 1 := by rw [mv_up_j (by decide), mv_ups_eq]
      have s101 : ∀ j, (mv_up (mv_up (mv_up (mv_up (mv_up (mv_up (mv_up (mv_up G0 105 0 P w) 106 0 P k) 107 0 P b) 108 0 P g) 109 0 P m) 101 0 (2 + P) 0) 100 0 8 ((P : Int) + 1)) 100 0 3 0) 101 0 j = if j = 2 + P then 0 else G0 101 0 j := fun j => by rw [mv_up_k (by decide), mv_up_k (by decide), mv_up_at, mv_up_k (by decide), mv_up_k (by decide), mv_up_k (by decide), mv_up_k (by decide), mv_up_k (by decide)]
      have s105 : ∀ j, (mv_up (mv_up (mv_up (mv_up (mv_up (mv_up (mv_up (mv_up G0 105 0 P w) 106 0 P k) 107 0 P b) 108 0 P g) 109 0 P m) 101 0 (2 + P) 0) 100 0 8 ((P : Int) + 1)) 100 0 3 0) 105 0 j = if j = P then w else G0 105 0 j := fun j => by rw [mv_up_k (by decide), mv_up_k (by decide), mv_up_k (by decide), mv_up_k (by decide), mv_up_k (by decide), mv_up_k (by decide), mv_up_k (by decide), mv_up_at]
      have s106 : ∀ j, (mv_up (mv_up (mv_up (mv_up (mv_up (mv_up (mv_up (mv_up G0 105 0 P w) 106 0 P k) 107 0 P b) 108 0 P g) 109 0 P m) 101 0 (2 + P) 0) 100 0 8 ((P : Int) + 1)) 100 0 3 0) 106 0 j = if j = P then k else G0 106 0 j := fun j => by rw [mv_up_k (by decide), mv_up_k (by decide), mv_up_k (by decide), mv_up_k (by decide), mv_up_k (by decide), mv_up_k (by decide), mv_up_at, mv_up_k (by decide)]
      have s107 : ∀ j, (mv_up (mv_up (mv_up (mv_up (mv_up (mv_up (mv_up (mv_up G0 105 0 P w) 106 0 P k) 107 0 P b) 108 0 P g) 109 0 P m) 101 0 (2 + P) 0) 100 0 8 ((P : Int) + 1)) 100 0 3 0) 107 0 j = if j = P then b else G0 107 0 j := fun j => by rw [mv_up_k (by decide), mv_up_k (by decide), mv_up_k (by decide), mv_up_k (by decide), mv_up_k (by decide), mv_up_at, mv_up_k (by decide), mv_up_k (by decide)]
      have s108 : ∀ j, (mv_up (mv_up (mv_up (mv_up (mv_up (mv_up (mv_up (mv_up G0 105 0 P w) 106 0 P k) 107 0 P b) 108 0 P g) 109 0 P m) 101 0 (2 + P) 0) 100 0 8 ((P : Int) + 1)) 100 0 3 0) 108 0 j = if j = P then g else G0 108 0 j := fun j => by rw [mv_up_k (by decide), mv_up_k (by decide), mv_up_k (by decide), mv_up_k (by decide), mv_up_at, mv_up_k (by decide), mv_up_k (by decide), mv_up_k (by decide)]
      have s109 : ∀ j, (mv_up (mv_up (mv_up (mv_up (mv_up (mv_up (mv_up (mv_up G0 105 0 P w) 106 0 P k) 107 0 P b) 108 0 P g) 109 0 P m) 101 0 (2 + P) 0) 100 0 8 ((P : Int) + 1)) 100 0 3 0) 109 0 j = if j = P then m else G0 109 0 j := fun j => by rw [mv_up_k (by decide), mv_up_k (by decide), mv_up_k (by decide), mv_up_at, mv_up_k (by decide), mv_up_k (by decide), mv_up_k (by decide), mv_up_k (by decide)]
      generalize mv_up (mv_up (mv_up (mv_up (mv_up (mv_up (mv_up (mv_up G0 105 0 P w) 106 0 P k) 107 0 P b) 108 0 P g) 109 0 P m) 101 0 (2 + P) 0) 100 0 8 ((P : Int) + 1)) 100 0 3 0 = G1 at c2 s3 s8 s101 s105 s106 s107 s108 s109
      have sp : ∀ (f : Nat → Int) (v : Int) (i : Nat) (z : Int), z = f i → (if i = P then v else z) = mv_sp f P v i := fun f v i z h => by rw [h]; rfl
      refine hm0.bn (hm0.1.rs ⟨⟨?_, ?_, ?_, True.intro⟩, ?_, fun i hi => ?_, fun i hi => ?_, fun i hi => ?_, fun i hi => ?_, fun i hi => ?_, fun i hi => ?_, fun i hi => ?_⟩ (fun k2 h1 h2 h3 => c2.cell k2 (by simp; omega)) (by rw [s101, if_neg (by omega)]) (c2.slot 100 37 rfl) ⟨l3, l4⟩ (fun o h1 h2 h3 => st_pe_o h1)) (mv_unM.z s3 l5) (fun k2 hk => c2.cell k2 (by rcases hk with rfl | rfl | rfl <;> rfl)) (fun j hj => c2.slot 100 j (by rcases hj with rfl | rfl | rfl | rfl | rfl <;> rfl)) st_pe_T.1 st_pe_T.2
      · rw [c2.slot 100 6 rfl, l0]; exact b1.1
      · rw [s8, l1, hP]
      · rw [s101, if_neg (by omega), l2]; exact b1.2.2.1
      · rw [c2.cell 104 rfl, l6]; exact b2
      · rw [s101, if_neg (by omega), l7]; exact b3 i hi
      · rw [s101, l8]
        show _ = (if i = P then -1 else a 3 i) + 1
        by_cases e : i = P
        · rw [if_pos (by omega), if_pos e]; rfl
        · rw [if_neg (by omega), if_neg e]; exact b4 i hi
      · rw [s105, l9]; exact sp _ _ _ _ (b5 i hi)
      · rw [s106, l10]; exact sp _ _ _ _ (b6 i hi)
      · rw [s107, l11]; exact sp _ _ _ _ (b7 i hi)
      · rw [s108, l12]; exact sp _ _ _ _ (b8 i hi)
      · rw [s109, l13]; exact sp _ _ _ _ (b9 i hi)
    · exact mv_ch.fM (S := [101, 105, 106, 107, 108, 109]) (T := [(100, 8), (100, 3)]) ((((((((mv_ch.rf.uc rfl).uc rfl).uc rfl).uc rfl).uc rfl).uc rfl).up rfl).up rfl) rfl
  · by_cases c : st_pq a w k b g m
    · rw [(y a c).1]
      obtain ⟨l0, l1, l2, l3, l4, l5, l6, l7, l8, l9, l10, l11, l12, l13⟩ := st_pe_l (a := a) (w := w) (k := k) (b := b) (g := g) (m := m)
      have b1 := hi.1.1.1
      have g0 := al0.mp c.1
      have g1 := al1.mp c.2.1
      have g2 := al2.mp c.2.2.1
      have g3 := al3.mp c.2.2.2.1
      have g4 := al4.mp c.2.2.2.2.1
      have g5 := c.2.2.2.2.2
      have sp1 : ∀ (f : Nat → Int) (v : Int), mv_sp f (a 0 1).toNat v (a 0 1).toNat = v := fun f v => if_pos rfl
      have sp2 : ∀ (f : Nat → Int) (v : Int) (q : Nat), q ≠ (a 0 1).toNat → mv_sp f (a 0 1).toNat v q = f q := fun f v q h => if_neg h
      refine hi.bn (hi.1.rs (mv_iB.p (p := (a 0 1).toNat) hi.1.1 ⟨l0, l2, l3⟩ (by rw [l1]; omega) (fun q hq hne => by rw [l1] at hq; omega) l6 l7 (fun q hq => ?_) ?_ (Or.inl ?_)) l4 (by rw [l1]; omega) (fun o h1 h2 h3 => st_pe_o (by omega))) (mv_iU.z l5) st_pe_T.1 st_pe_T.2
      · rw [l8, l9, l10, l11, l12, l13, sp2 _ _ q hq, sp2 _ _ q hq, sp2 _ _ q hq, sp2 _ _ q hq, sp2 _ _ q hq, sp2 _ _ q hq]
        exact ⟨rfl, rfl, rfl, rfl, rfl, rfl⟩
      · rw [l9, l10, l11, l12, l13, sp1, sp1, sp1, sp1, sp1]
        exact ⟨g0, g1, g2, g3, g4⟩
      · rw [l8, sp1]
    · rw [(nn a c).1]; exact hi
end PE
