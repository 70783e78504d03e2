/-! come, go, beg. -/
/-- b comes of a by acts and hours -/
def st_ab (a b : mv_a) : Prop := (∀ j, j ≠ 2 → j ≠ 3 → b 0 j = a 0 j) ∧ a 0 3 ≤ b 0 3 ∧ ∀ o, o ≠ 0 → o ≠ 2 → o ≠ 3 → (o < 9 ∨ 12 < o) → b o = a o
section AB
variable {G G2 : mv_G} {a b c : mv_a}
theorem st_ab.rf : st_ab a a := ⟨fun _ _ _ => rfl, Int.le_refl _, fun _ _ _ _ _ => rfl⟩
theorem st_ab.tr (h : st_ab a b) (h2 : st_ab b c) : st_ab a c := ⟨fun j q1 q2 => (h2.1 j q1 q2).trans (h.1 j q1 q2), Int.le_trans h.2.1 h2.2.1, fun o q0 q1 q2 q3 => (h2.2.2 o q0 q1 q2 q3).trans (h.2.2 o q0 q1 q2 q3)⟩
theorem st_ab.U (h : st_ab a b) : ag_U a b := ⟨h.1 5 (by decide) (by decide), fun o h1 h2 => h.2.2 o (by omega) (by omega) (by omega) (by omega)⟩
theorem st_ab.T (h : st_ab a b) : ag_T a b := ⟨h.1 6 (by decide) (by decide), h.1 7 (by decide) (by decide), h.1 8 (by decide) (by decide), h.2.2 16 (by decide) (by decide) (by decide) (by decide)⟩
theorem st_ab.I (h : st_ab a b) : ag_I a b := ⟨h.1 9 (by decide) (by decide), fun o h1 => h.2.2 o (by omega) (by omega) (by omega) (by omega)⟩
theorem st_ab.P (h : st_ab a b) : mv_P b = mv_P a := by unfold mv_P; rw [h.1 1 (by decide) (by decide)]
theorem st_iX_act (h : mv_iX a) (hB : mv_iB b) (e : st_ab a b) : mv_iX b := h.rs hB (e.1 4 (by decide) (by decide)) (by rw [e.1 1 (by decide) (by decide)]; exact Int.le_refl _) (fun o h1 h2 _ => e.2.2 o (by omega) (by omega) (by omega) (by omega))
theorem st_iW.act (h : st_iW a) (hB : mv_iB b) (e : st_ab a b) : st_iW b :=
  h.bn (st_iX_act h.1 hB e) (h.2.1.ag e.U ⟨e.1 0 (by decide) (by decide), e.1 1 (by decide) (by decide)⟩ e.2.1 (fun o ho => e.2.2 o (by omega) (by omega) (by omega) (by omega))) e.T e.I
theorem st_cW.act (h : st_cW G a) (hi : st_iW a) (hx : mv_cX G2 b) (e : st_ab a b) (f : st_fa G G2) : st_cW G2 b := by
  have hk : ∀ k, (24 ≤ k ∧ k ≤ 65) ∨ k = 0 → G2 k = G k := fun k hk => f.cell k (by simp; omega)
  refine h.bn hx ?_ (fun k h => hk k (by omega)) (by rw [hk 0 (by omega)]) (fun j _ => by rw [hk 52 (by omega)]) e.T e.I
  have : mv_unC G2 a := by
    have u := h.2.1
    unfold mv_unC at u ⊢
    rw [hk 47 (by omega), hk 48 (by omega), hk 49 (by omega), hk 50 (by omega), hk 51 (by omega)]
    exact u
  exact this.ag e.U hi.2.1.1.2
theorem st_mW.act (h : st_mW G a) (hi : st_iW a) (hY : mv_mY G2 b) (hb : mv_bkM G2 b) (e : st_ab a b) (f : st_fm G G2) : st_mW G2 b := by
  obtain ⟨y1, y2, y3, y4⟩ := hY
  refine h.bn ⟨y1, y2, y3, hb, y4⟩ ?_ (fun k hk => f.cell k (by simp; omega)) (fun j hj => f 100 0 j (by decide) (by simp; omega)) e.T e.I
  have : mv_unM G2 a := by
    have u := h.2.1
    unfold mv_unM at u ⊢
    rw [f.slot 100 3 rfl, f.cell 102 rfl]
    exact u
  exact this.ag e.U hi.2.1.1.2
theorem st_fa.fC (f : st_fa G G2) : mv_fC G G2 := mv_ch.fC f rfl
theorem st_fm.fM (f : st_fm G G2) : mv_fM G G2 := mv_ch.fM f rfl
theorem st_wr_ab {p w x : Int} {f : Nat → Int} (hi : 0 ≤ a 0 3 ∧ a 0 3 ≤ 150) : st_ab a (st_wr (st_set a 3 f) p w x) := by
  have l := st_wr_3 (a := st_set a 3 f) (p := p) (w := w) (x := x) hi
  exact ⟨fun j _ h => st_wr_0 h, l.1, fun o h0 _ h3 h => (st_wr_o h0 h).trans (st_set_o h3)⟩
theorem st_ca_ab (hi : mv_iB a) {p : Nat} : st_ab a (st_ca a p) := st_wr_ab (by have := hi.1; omega)
theorem st_ca_i (hi : mv_iB a) {p : Nat} (hp : p < mv_P a) (h0 : a 3 p = -1) : mv_iB (st_ca a p) := st_wr_i (st_cs_i hi hp h0)
theorem st_ga_ab (hi : mv_iB a) {p : Nat} : st_ab a (st_ga a p) := st_wr_ab (by have := hi.1; omega)
theorem st_ga_i (hi : mv_iB a) {p : Nat} : mv_iB (st_ga a p) := st_wr_i (st_gs_i hi)
theorem st_ba_ab (hi : mv_iB a) {p : Nat} : st_ab a (st_ba a p).2 := by
  have b := hi.1
  unfold st_ba
  split
  · have l := st_wr_3 (a := a) (p := (p : Int)) (w := 4) (x := -1) (by omega)
    exact ⟨fun j _ h => st_wr_0 h, l.1, fun o h0 _ h3 h => st_wr_o h0 h⟩
  · exact st_wr_ab (by omega)
theorem st_ba_i (hi : mv_iB a) {p : Nat} (hp : p < mv_P a) (h0 : a 3 p = -1) : mv_iB (st_ba a p).2 := by
  unfold st_ba
  split
  · exact st_wr_i hi
  · next u hu => exact st_wr_i (st_bs_i hi hp h0 hu)
end AB
theorem st_kp_3 {a : mv_a} : st_kp a 3 = a 3 ∧ st_kp a 0 1 = a 0 1 ∧ mv_P (st_kp a) = mv_P a := ⟨st_kp_o (by decide) (by decide), st_kp_0 (by decide), by unfold mv_P; rw [st_kp_0 (by decide)]⟩
/-- whether it can come, beg -/
def st_asd (a : mv_a) (p : Int) : Prop := 0 ≤ p ∧ p < a 0 1 ∧ a 3 p.toNat = -1
def st_std (a : mv_a) (p : Int) : Prop := 0 ≤ p ∧ p < a 0 1 ∧ a 3 p.toNat ≠ -1
theorem st_asd_p {a : mv_a} {p : Int} (h : st_asd a p) : p.toNat < mv_P a ∧ p.toNat < mv_P (st_kp a) ∧ st_kp a 3 p.toNat = -1 ∧ ((p.toNat : Nat) : Int) = p := by
  obtain ⟨h1, h2, h3⟩ := h
  rw [st_kp_3.2.2, st_kp_3.1]
  refine ⟨?_, ?_, h3, by omega⟩ <;> unfold mv_P <;> omega
theorem st_std_p {a : mv_a} {p : Int} (h : st_std a p) : p.toNat < mv_P a ∧ p.toNat < mv_P (st_kp a) ∧ st_kp a 3 p.toNat ≠ -1 ∧ ((p.toNat : Nat) : Int) = p := by
  obtain ⟨h1, h2, h3⟩ := h
  rw [st_kp_3.2.2, st_kp_3.1]
  refine ⟨?_, ?_, h3, by omega⟩ <;> unfold mv_P <;> omega
noncomputable def st_if {α : Type} (p : Prop) (x y : α) : α := @ite _ p (Classical.propDecidable p) x y
theorem st_if_y {α : Type} {p : Prop} {x y : α} (h : p) : st_if p x y = x := if_pos h
theorem st_if_n {α : Type} {p : Prop} {x y : α} (h : ¬ p) : st_if p x y = y := if_neg h
theorem bx_come (p : Int) : st_bx (ff_X11_come [.inr (0, 0), .inl p]) (ff_X12_come [.inr (100, 0), .inl p]) := by
  refine st_bx_of (fun a => st_if (st_asd a p) (mv_cm (st_kp a) p.toNat) (-1)) (fun a => st_if (st_asd a p) (st_ca (st_kp a) p.toNat) a) (fun G a hc hi => ?_) (fun G a hm hi => ?_) (fun a hi => ?_)
  · refine mv_Kp.of (mv_JP.of (rg_X11_come_0 p G) (mv_J.ce (fx_isAside hc.1.1 hi.1.1 p) (mv_J.bt (fun h => ?_) (fun h => ?_))))
    · have h : ¬ st_asd a p := h
      rw [st_if_n h, st_if_n h]
      exact mv_J.ret ⟨rfl, hc, mv_fC.rf⟩
    · have h : st_asd a p := h
      obtain ⟨q1, q2, q3, q4⟩ := st_asd_p h
      have hk := st_kp_i hi
      rw [st_if_y h, st_if_y h]
      refine mv_J.cn (fx_keepNow hc hi) (fun _ G1 h1 => ?_)
      have hh := fx_comes h1.1.1 hk.1 p.toNat q2 q3
      rw [q4] at hh
      exact mv_J.cn hh (fun v G2 h2 => mv_J.ret ⟨h2.1, h1.1.act hk h2.2.1 (st_ca_ab hk.1.1) h2.2.2.2, h1.2.1.tr h2.2.2.2.fC⟩)
  · have c0 : mv_ch [] [(100, 0)] G (mv_up G 100 0 0 0) := mv_ch.rf.up rfl
    have hm0 := hm.ch hi.1 c0 (by decide) (by decide)
    have f0 : mv_fM G (mv_up G 100 0 0 0) := c0.fM rfl
    refine mv_Kp.of (mv_JP.of (rg_X12_come_0 p G) (mv_J.ce (gx_isAside hm0.1.1 hi.1.1 p) (mv_J.bt (fun h => ?_) (fun h => ?_))))
    · have h : ¬ st_asd a p := h
      rw [st_if_n h, st_if_n h]
      exact mv_J.ret ⟨rfl, hm0, f0⟩
    · have h : st_asd a p := h
      obtain ⟨q1, q2, q3, q4⟩ := st_asd_p h
      have hk := st_kp_i hi
      rw [st_if_y h, st_if_y h]
      refine mv_J.cn (gx_keepsAhead hm0 hi) (fun _ G1 h1 => ?_)
      obtain ⟨⟨m1, m2, m3, m4, m5⟩, -, -, -, -, m6, -⟩ := h1.1
      have hh := gx_comes ⟨m1, m2, m3, m5⟩ hk.1 (Or.inl m6) (fun _ => m4) p.toNat q2 q3
      rw [q4] at hh
      exact mv_J.cn hh (fun v G2 h2 => mv_J.ret ⟨h2.1, h1.1.act hk h2.2.1 (h2.2.2.1.1 m6 m4) (st_ca_ab hk.1.1) h2.2.2.2.2, (f0.tr h1.2).tr h2.2.2.2.2.fM⟩)
  · by_cases h : st_asd a p
    · obtain ⟨q1, q2, q3, q4⟩ := st_asd_p h
      have hk := st_kp_i hi
      rw [st_if_y h]
      exact hk.act (st_ca_i hk.1.1 q2 q3) (st_ca_ab hk.1.1)
    · rw [st_if_n h]; exact hi
theorem bx_beg (p : Int) : st_bx (ff_X11_beg [.inr (0, 0), .inl p]) (ff_X12_beg [.inr (100, 0), .inl p]) := by
  refine st_bx_of (fun a => st_if (st_asd a p) (st_ba (st_kp a) p.toNat).1 (-1)) (fun a => st_if (st_asd a p) (st_ba (st_kp a) p.toNat).2 a) (fun G a hc hi => ?_) (fun G a hm hi => ?_) (fun a hi => ?_)
  · refine mv_Kp.of (mv_JP.of (rg_X11_beg_0 p G) (mv_J.ce (fx_isAside hc.1.1 hi.1.1 p) (mv_J.bt (fun h => ?_) (fun h => ?_))))
    · have h : ¬ st_asd a p := h
      rw [st_if_n h, st_if_n h]
      exact mv_J.ret ⟨rfl, hc, mv_fC.rf⟩
    · have h : st_asd a p := h
      obtain ⟨q1, q2, q3, q4⟩ := st_asd_p h
      have hk := st_kp_i hi
      rw [st_if_y h, st_if_y h]
      refine mv_J.cn (fx_keepNow hc hi) (fun _ G1 h1 => ?_)
      have hh := fx_begs h1.1.1 hk.1 p.toNat q2 q3
      rw [q4] at hh
      exact mv_J.cn hh (fun v G2 h2 => mv_J.ret ⟨h2.1, h1.1.act hk h2.2.1 (st_ba_ab hk.1.1) h2.2.2.2, h1.2.1.tr h2.2.2.2.fC⟩)
  · have c0 : mv_ch [] [(100, 0)] G (mv_up G 100 0 0 0) := mv_ch.rf.up rfl
    have hm0 := hm.ch hi.1 c0 (by decide) (by decide)
    have f0 : mv_fM G (mv_up G 100 0 0 0) := c0.fM rfl
    refine mv_Kp.of (mv_JP.of (rg_X12_beg_0 p G) (mv_J.ce (gx_isAside hm0.1.1 hi.1.1 p) (mv_J.bt (fun h => ?_) (fun h => ?_))))
    · have h : ¬ st_asd a p := h
      rw [st_if_n h, st_if_n h]
      exact mv_J.ret ⟨rfl, hm0, f0⟩
    · have h : st_asd a p := h
      obtain ⟨q1, q2, q3, q4⟩ := st_asd_p h
      have hk := st_kp_i hi
      rw [st_if_y h, st_if_y h]
      refine mv_J.cn (gx_keepsAhead hm0 hi) (fun _ G1 h1 => ?_)
      obtain ⟨⟨m1, m2, m3, m4, m5⟩, -, -, -, -, m6, -⟩ := h1.1
      have hh := gx_begs ⟨m1, m2, m3, m5⟩ hk.1 (Or.inl m6) (fun _ => m4) p.toNat q2 q3
      rw [q4] at hh
      exact mv_J.cn hh (fun v G2 h2 => mv_J.ret ⟨h2.1, h1.1.act hk h2.2.1 (h2.2.2.1.1 m6 m4) (st_ba_ab hk.1.1) h2.2.2.2.2, (f0.tr h1.2).tr h2.2.2.2.2.fM⟩)
  · by_cases h : st_asd a p
    · obtain ⟨q1, q2, q3, q4⟩ := st_asd_p h
      have hk := st_kp_i hi
      rw [st_if_y h]
      exact hk.act (st_ba_i hk.1.1 q2 q3) (st_ba_ab hk.1.1)
    · rw [st_if_n h]; exact hi
theorem bx_go (p : Int) : st_bx (ff_X11_go [.inr (0, 0), .inl p]) (ff_X12_go [.inr (100, 0), .inl p]) := by
  refine st_bx_of (fun a => mv_b (st_std a p)) (fun a => st_if (st_std a p) (st_ga (st_kp a) p.toNat) a) (fun G a hc hi => ?_) (fun G a hm hi => ?_) (fun a hi => ?_)
  · refine mv_Kp.of (mv_JP.of (rg_X11_go_0 p G) (mv_J.ce (fx_isSeated hc.1.1 hi.1.1 p) (mv_J.bt (fun h => ?_) (fun h => ?_))))
    · have h : ¬ st_std a p := h
      rw [st_if_n h]
      exact mv_J.r0 (Or.inl rfl) ⟨(mv_b0 h).symm, hc, mv_fC.rf⟩
    · have h : st_std a p := h
      obtain ⟨q1, q2, q3, q4⟩ := st_std_p h
      have hk := st_kp_i hi
      rw [st_if_y h]
      refine mv_J.cn (fx_keepNow hc hi) (fun _ G1 h1 => ?_)
      have hh := fx_goes h1.1.1 hk.1 p.toNat q2 q3
      rw [q4] at hh
      exact mv_J.cn hh (fun v G2 h2 => mv_J.r0 (Or.inr rfl) ⟨(mv_b1 h).symm, h1.1.act hk h2.1 (st_ga_ab hk.1.1) h2.2.2, h1.2.1.tr h2.2.2.fC⟩)
  · have c0 : mv_ch [] [(100, 0)] G (mv_up G 100 0 0 0) := mv_ch.rf.up rfl
    have hm0 := hm.ch hi.1 c0 (by decide) (by decide)
    have f0 : mv_fM G (mv_up G 100 0 0 0) := c0.fM rfl
    have no : ¬ st_std a p → mv_J mm_X12_go (fun v G' => v = mv_b (st_std a p) ∧ st_mW G' (st_if (st_std a p) (st_ga (st_kp a) p.toNat) a) ∧ mv_fM G G') (some (.inl (0, mv_up G 100 0 0 0))) := fun h => mv_J.ret ⟨(mv_b0 h).symm, by rw [st_if_n h]; exact hm0, f0⟩
    refine mv_Kp.of (mv_JP.of (rg_X12_go_0 p G) (mv_J.ce (gx_isPerson hm0.1.1 p) (mv_J.bt (fun h => ?_) (fun h => ?_))))
    · exact mv_J.r0 (Or.inl rfl) ⟨(mv_b0 (fun h2 => h ⟨h2.1, h2.2.1⟩)).symm, by rw [st_if_n (fun h2 => h ⟨h2.1, h2.2.1⟩)]; exact hm0, f0⟩
    · have b1 := hi.1.1.1
      obtain ⟨pn, hpn⟩ : ∃ pn : Nat, p = pn := ⟨p.toNat, by omega⟩
      subst hpn
      refine mv_J.ce (gx_sits hm0.1.1 hi.1.1 pn (by omega)) (mv_J.bt (fun h2 => ?_) (fun h2 => ?_))
      · exact mv_J.r0 (Or.inl rfl) ⟨(mv_b0 (fun h3 => h2 (by have := h3.2.2; rwa [Int.toNat_natCast] at this))).symm, by rw [st_if_n (fun h3 => h2 (by have := h3.2.2; rwa [Int.toNat_natCast] at this))]; exact hm0, f0⟩
      · have h : st_std a pn := ⟨h.1, h.2, by rw [Int.toNat_natCast]; exact h2⟩
        obtain ⟨q1, q2, q3, q4⟩ := st_std_p h
        have hk := st_kp_i hi
        rw [st_if_y h]
        refine mv_J.cn (gx_keepsAhead hm0 hi) (fun _ G1 h1 => ?_)
        obtain ⟨⟨m1, m2, m3, m4, m5⟩, -, -, -, -, m6, -⟩ := h1.1
        have hh := gx_goes ⟨m1, m2, m3, m5⟩ hk.1 (Or.inl m6) (fun _ => m4) pn (by rw [Int.toNat_natCast] at q2; exact q2)
        rw [Int.toNat_natCast]
        exact mv_J.cn hh (fun v G2 h2 => mv_J.r0 (Or.inr rfl) ⟨(mv_b1 h).symm, h1.1.act hk h2.1 (h2.2.1.1 m6 m4) (st_ga_ab hk.1.1) h2.2.2.2, (f0.tr h1.2).tr h2.2.2.2.fM⟩)
  · by_cases h : st_std a p
    · have hk := st_kp_i hi
      rw [st_if_y h]
      exact hk.act (st_ga_i hk.1.1) (st_ga_ab hk.1.1)
    · rw [st_if_n h]; exact hi
